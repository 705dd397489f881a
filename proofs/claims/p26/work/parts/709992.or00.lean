/-! an order read: the machine that holds signs back; K, V: kind and value of the token at a place, N: where the next one stands -/
def oRk (a : Nat) : Nat := if a = 5 ∨ a = 6 then 1 else if a = 18 ∨ a = 19 then 2 else if a = 20 ∨ a = 21 then 3 else if a = 22 then 4 else 0
def oRl (r : Nat) : List Nat → List Int → List Nat × List Int
  | [], c => ([], c)
  | a :: st, c => if r ≤ oRk a then oRl r st (c ++ [(a : Int)]) else (a :: st, c)
def oEp : List Nat → Nat → List Int → List Nat × Nat × List Int
  | [], d, c => ([], d, c)
  | a :: st, d, c => if a = 7 then oEp st (d - 1) (c ++ [7]) else (a :: st, d, c)
def oTr (st : List Nat) : Nat := match st with
  | [] => 0
  | a :: _ => oRk a
abbrev OSt : Type := List Nat × Nat × Bool × List Int
abbrev ORs : Type := Except Int (Nat × List Int)
def oEx (st : List Nat) (d : Nat) (c : List Int) : OSt := ((oEp st d c).1, (oEp st d c).2.1, false, (oEp st d c).2.2)
def oJr (r : Nat) : Nat := if r = 2 then 3 else r
def oCo (k : Nat) (v : Int) : Int := if k = 15 then 15 + 32 * v else (k : Int)
def oStp (K : Nat → Nat) (V : Nat → Int) (s : Nat) (st : List Nat) (d : Nat) (pn : Bool) (c : List Int) : Except Int OSt :=
  cond pn
    (if 8 ≤ K s ∧ K s ≤ 15 then (if 5 ≤ d then .error (5 + 16 * (s : Int)) else .ok (oEx st d (c ++ [oCo (K s) (V s)])))
      else if K s = 7 ∨ K s = 16 then (if 5 ≤ d then .error (5 + 16 * (s : Int)) else .ok (K s :: st, d + 1, true, c))
      else .error (1 + 16 * (s : Int)))
    (if K s = 17 then (if (oRl 1 st c).1.length = 0 then .error (1 + 16 * (s : Int)) else .ok (oEx (oRl 1 st c).1.tail (d - 1) (oRl 1 st c).2))
      else if oRk (K s) = 0 then .error (1 + 16 * (s : Int))
      else if oRk (K s) = 2 ∧ oTr (oRl (oJr (oRk (K s))) st c).1 = 2 then .error (1 + 16 * (s : Int))
      else .ok (K s :: (oRl (oJr (oRk (K s))) st c).1, d, true, (oRl (oJr (oRk (K s))) st c).2))
def oGo (K : Nat → Nat) (V : Nat → Int) (N : Nat → Nat) : Nat → Nat → List Nat → Nat → Bool → List Int → ORs
  | 0, _, _, _, _, _ => .error 0
  | m + 1, s, st, d, pn, c => if pn = false ∧ K s = 23 then (if (oRl 1 st c).1.length = 0 then .ok (s, (oRl 1 st c).2) else .error (1 + 16 * (s : Int)))
    else match oStp K V s st d pn c with
      | .error f => .error f
      | .ok y => oGo K V N m (N s) y.1 y.2.1 y.2.2.1 y.2.2.2
theorem oRk_le (a : Nat) : oRk a ≤ 4 := by
  unfold oRk
  split
  · decide
  split
  · decide
  split
  · decide
  split <;> decide
theorem oTr_le (st : List Nat) : oTr st ≤ 4 := by
  cases st with
  | nil => exact Nat.zero_le _
  | cons a st => exact oRk_le a
theorem oJ4 (k : Nat) : oJr (oRk k) ≤ 4 := by
  unfold oRk
  split
  · decide
  split
  · decide
  split
  · decide
  split <;> decide
theorem oJ3 {k : Nat} (h : k ≠ 22) : oJr (oRk k) ≤ 3 := by
  unfold oRk
  split
  · decide
  split
  · decide
  split
  · decide
  first
  | decide
  | (rw [if_neg h]; decide)
theorem oJ1 {k : Nat} (h : k ≠ 22) (h1 : k ≠ 18) (h2 : k ≠ 19) (h3 : k ≠ 20) (h4 : k ≠ 21) : oJr (oRk k) ≤ 1 := by
  unfold oRk
  split
  · decide
  first
  | decide
  | (rw [if_neg (by omega), if_neg (by omega)]; decide)
  | (rw [if_neg (by omega), if_neg (by omega), if_neg h]; decide)
theorem oRl_stop {r : Nat} {st : List Nat} {c : List Int} (h : oTr st < r) : oRl r st c = (st, c) := by
  cases st with
  | nil => rfl
  | cons a st =>
    have h : oRk a < r := h
    show (if r ≤ oRk a then _ else _) = _
    rw [if_neg (by omega)]
theorem oRl_pop {r a : Nat} {st : List Nat} {c : List Int} (h : r ≤ oRk a) : oRl r (a :: st) c = oRl r st (c ++ [(a : Int)]) := by
  show (if r ≤ oRk a then _ else _) = _
  rw [if_pos h]
theorem oRl_keep {r a : Nat} {st : List Nat} {c : List Int} (h : ¬ r ≤ oRk a) : oRl r (a :: st) c = (a :: st, c) := by
  show (if r ≤ oRk a then _ else _) = _
  rw [if_neg h]
theorem oEp_not {st : List Nat} {d : Nat} {c : List Int} : oEp (7 :: st) (d + 1) c = oEp st d (c ++ [7]) := by
  show (if 7 = 7 then _ else _) = _
  rw [if_pos rfl]
  rfl
theorem oEp_keep {a : Nat} {st : List Nat} {d : Nat} {c : List Int} (h : a ≠ 7) : oEp (a :: st) d c = (a :: st, d, c) := by
  show (if a = 7 then _ else _) = _
  rw [if_neg h]
theorem oGo_s {K : Nat → Nat} {V : Nat → Int} {N : Nat → Nat} {m s : Nat} {st : List Nat} {d : Nat} {pn : Bool} {c : List Int} : oGo K V N (m + 1) s st d pn c = if pn = false ∧ K s = 23 then (if (oRl 1 st c).1.length = 0 then .ok (s, (oRl 1 st c).2) else .error (1 + 16 * (s : Int))) else match oStp K V s st d pn c with
      | .error f => .error f
      | .ok y => oGo K V N m (N s) y.1 y.2.1 y.2.2.1 y.2.2.2 := rfl
theorem oStp_end {K : Nat → Nat} {V : Nat → Int} {s : Nat} {st : List Nat} {d : Nat} {pn : Bool} {c : List Int} (h : K s = 24) : oStp K V s st d pn c = .error (1 + 16 * (s : Int)) := by
  unfold oStp
  rw [h]
  cases pn with
  | true =>
    rw [cond_true, if_neg (by omega), if_neg (by omega)]
  | false =>
    rw [cond_false, if_neg (by omega), if_pos (by decide)]
/-- what is asked of the tokens -/
def oTk (K : Nat → Nat) (N : Nat → Nat) (L : Nat) : Prop := (∀ s, s < L → s < N s ∧ N s ≤ L) ∧ ∀ s, L ≤ s → K s = 24
def oRu (K : Nat → Nat) (V : Nat → Int) (N : Nat → Nat) (L s : Nat) (st : List Nat) (d : Nat) (pn : Bool) (c : List Int) : ORs := oGo K V N (L + 1 - s) s st d pn c
section ORU
variable {K : Nat → Nat} {V : Nat → Int} {N : Nat → Nat} {L : Nat}
theorem oGo_fuel (hT : oTk K N L) : ∀ (m m' s : Nat) (st : List Nat) (d : Nat) (pn : Bool) (c : List Int), s ≤ L → L + 1 - s ≤ m → L + 1 - s ≤ m' → oGo K V N m s st d pn c = oGo K V N m' s st d pn c := by
  intro m
  induction m with
  | zero => intro m' s st d pn c h1 h2 h3; omega
  | succ m ih =>
    intro m' s st d pn c h1 h2 h3
    obtain ⟨k, rfl⟩ : ∃ k, m' = k + 1 := ⟨m' - 1, by omega⟩
    rw [oGo_s, oGo_s]
    by_cases h : pn = false ∧ K s = 23
    · rw [if_pos h, if_pos h]
    · rw [if_neg h, if_neg h]
      cases hs : oStp K V s st d pn c with
      | error f => rfl
      | ok y =>
        have hlt : s < L := by
          rcases Nat.lt_or_ge s L with q | q
          · exact q
          · rw [oStp_end (hT.2 s q)] at hs; cases hs
        have := hT.1 s hlt
        exact ih k _ _ _ _ _ (by omega) (by omega) (by omega)
variable {s : Nat} {st : List Nat} {d : Nat} {pn : Bool} {c : List Int}
theorem oRu_err (h : s ≤ L) {f : Int} (h1 : ¬ (pn = false ∧ K s = 23)) (h2 : oStp K V s st d pn c = .error f) : oRu K V N L s st d pn c = .error f := by
  unfold oRu
  rw [show L + 1 - s = (L - s) + 1 by omega, oGo_s, if_neg h1, h2]
theorem oRu_ok (hT : oTk K N L) (h : s ≤ L) {y : OSt} (h1 : ¬ (pn = false ∧ K s = 23)) (h2 : oStp K V s st d pn c = .ok y) : oRu K V N L s st d pn c = oRu K V N L (N s) y.1 y.2.1 y.2.2.1 y.2.2.2 := by
  have hlt : s < L := by
    rcases Nat.lt_or_ge s L with q | q
    · exact q
    · rw [oStp_end (hT.2 s q)] at h2; cases h2
  have := hT.1 s hlt
  unfold oRu
  rw [show L + 1 - s = (L - s) + 1 by omega, oGo_s, if_neg h1, h2]
  exact oGo_fuel hT _ _ _ _ _ _ _ (by omega) (by omega) (by omega)
theorem oRu_stp (h : s ≤ L) (h1 : K s = 23) : oRu K V N L s st d false c = if (oRl 1 st c).1.length = 0 then .ok (s, (oRl 1 st c).2) else .error (1 + 16 * (s : Int)) := by
  unfold oRu
  rw [show L + 1 - s = (L - s) + 1 by omega, oGo_s, if_pos ⟨rfl, h1⟩]
theorem oRu_num (hT : oTk K N L) (h : s ≤ L) (hk : 8 ≤ K s ∧ K s ≤ 15) (hd : d < 5) : oRu K V N L s st d true c = oRu K V N L (N s) (oEp st d (c ++ [oCo (K s) (V s)])).1 (oEp st d (c ++ [oCo (K s) (V s)])).2.1 false (oEp st d (c ++ [oCo (K s) (V s)])).2.2 := by
  refine oRu_ok hT h (y := oEx st d (c ++ [oCo (K s) (V s)])) (fun q => Bool.noConfusion q.1) ?_
  unfold oStp
  rw [cond_true, if_pos hk, if_neg (by omega)]
theorem oRu_open (hT : oTk K N L) (h : s ≤ L) (hk : K s = 7 ∨ K s = 16) (hd : d < 5) : oRu K V N L s st d true c = oRu K V N L (N s) (K s :: st) (d + 1) true c := by
  refine oRu_ok hT h (y := (K s :: st, d + 1, true, c)) (fun q => Bool.noConfusion q.1) ?_
  unfold oStp
  rw [cond_true, if_neg (by omega), if_pos hk, if_neg (by omega)]
theorem oRu_deep (h : s ≤ L) (hk : (8 ≤ K s ∧ K s ≤ 15) ∨ K s = 7 ∨ K s = 16) (hd : 5 ≤ d) : oRu K V N L s st d true c = .error (5 + 16 * (s : Int)) := by
  refine oRu_err h (fun q => Bool.noConfusion q.1) ?_
  unfold oStp
  rw [cond_true]
  rcases hk with hk | hk
  · rw [if_pos hk, if_pos hd]
  · rw [if_neg (by omega), if_pos hk, if_pos hd]
theorem oRu_bad (h : s ≤ L) (hk : ¬ (8 ≤ K s ∧ K s ≤ 15)) (h7 : K s ≠ 7) (h16 : K s ≠ 16) : oRu K V N L s st d true c = .error (1 + 16 * (s : Int)) := by
  refine oRu_err h (fun q => Bool.noConfusion q.1) ?_
  unfold oStp
  rw [cond_true, if_neg hk, if_neg (by omega)]
theorem oRu_close (hT : oTk K N L) (h : s ≤ L) (hk : K s = 17) {a : Nat} (ha : oRk a = 0) : oRu K V N L s (a :: st) (d + 1) false c = oRu K V N L (N s) (oEp st d c).1 (oEp st d c).2.1 false (oEp st d c).2.2 := by
  refine oRu_ok hT h (y := oEx st d c) (fun q => by omega) ?_
  unfold oStp
  rw [cond_false, if_pos hk, oRl_keep (by omega), if_neg (by simp)]
  rfl
theorem oRk_17 : oRk 17 = 0 := rfl
theorem oRk_23 : oRk 23 = 0 := rfl
theorem oRu_join (hT : oTk K N L) (h : s ≤ L) (hk : 1 ≤ oRk (K s)) (ht : oTr st < oRk (K s)) : oRu K V N L s st d false c = oRu K V N L (N s) (K s :: st) d true c := by
  have h17 : K s ≠ 17 := fun q => by rw [q, oRk_17] at hk; omega
  have h23 : K s ≠ 23 := fun q => by rw [q, oRk_23] at hk; omega
  have e : oRl (oJr (oRk (K s))) st c = (st, c) := by
    refine oRl_stop ?_
    unfold oJr
    split <;> omega
  refine oRu_ok hT h (y := (K s :: st, d, true, c)) (fun q => h23 q.2) ?_
  unfold oStp
  rw [cond_false, if_neg h17, if_neg (by omega), e, if_neg (by
    rintro ⟨q1, q2⟩
    have q2 : oTr st = 2 := q2
    omega)]
theorem oRu_fin (h : s ≤ L) (hk : K s = 23) : oRu K V N L s [] d false c = .ok (s, c) := by
  rw [oRu_stp h hk]
  rfl
/-- no sign that joins: wrong, also at a stop where something is open -/
theorem oRu_e1 (h : s ≤ L) {a : Nat} (ha : oRk a = 0) (hk : oRk (K s) = 0) (h17 : K s ≠ 17) : oRu K V N L s (a :: st) d false c = .error (1 + 16 * (s : Int)) := by
  by_cases h23 : K s = 23
  · rw [oRu_stp h h23, oRl_keep (by omega), if_neg (by simp)]
  · refine oRu_err h (fun q => h23 q.2) ?_
    unfold oStp
    rw [cond_false, if_neg h17, if_pos hk]
theorem oRu_e0 (h : s ≤ L) (hk : oRk (K s) = 0) (h23 : K s ≠ 23) : oRu K V N L s [] d false c = .error (1 + 16 * (s : Int)) := by
  refine oRu_err h (fun q => h23 q.2) ?_
  unfold oStp
  rw [cond_false]
  by_cases h17 : K s = 17
  · rw [if_pos h17, if_pos (show (oRl 1 [] c).1.length = 0 from rfl)]
  · rw [if_neg h17, if_pos hk]
theorem oRu_eager (hT : oTk K N L) (h : s ≤ L) {a : Nat} (ha : 1 ≤ oRk a) (hk : oJr (oRk (K s)) ≤ oRk a) : oRu K V N L s (a :: st) d false c = oRu K V N L s st d false (c ++ [(a : Int)]) := by
  by_cases h23 : K s = 23
  · rw [oRu_stp h h23, oRu_stp h h23, oRl_pop ha]
  · have e : oStp K V s (a :: st) d false c = oStp K V s st d false (c ++ [(a : Int)]) := by
      unfold oStp
      rw [cond_false, cond_false, oRl_pop ha, oRl_pop hk]
    cases hs : oStp K V s st d false (c ++ [(a : Int)]) with
    | error f => rw [oRu_err h (fun q => h23 q.2) (e.trans hs), oRu_err h (fun q => h23 q.2) hs]
    | ok y => rw [oRu_ok hT h (fun q => h23 q.2) (e.trans hs), oRu_ok hT h (fun q => h23 q.2) hs]
theorem oRu_twice (h : s ≤ L) {a : Nat} (ha : oRk a = 2) (hk : oRk (K s) = 2) : oRu K V N L s (a :: st) d false c = .error (1 + 16 * (s : Int)) := by
  have h17 : K s ≠ 17 := fun q => by rw [q, oRk_17] at hk; omega
  have h23 : K s ≠ 23 := fun q => by rw [q, oRk_23] at hk; omega
  refine oRu_err h (fun q => h23 q.2) ?_
  unfold oStp
  rw [cond_false, if_neg h17, if_neg (by omega), hk, oRl_keep (by show ¬ 3 ≤ oRk a; omega), if_pos ⟨rfl, ha⟩]
end ORU
/-! the codes ahead of a line's own -/
def oPre (c0 : List Int) (r : ORs) : ORs := match r with
  | .error f => .error f
  | .ok q => .ok (q.1, c0 ++ q.2)
theorem oRl_pre (c0 : List Int) (r : Nat) : ∀ (st : List Nat) (c : List Int), oRl r st (c0 ++ c) = ((oRl r st c).1, c0 ++ (oRl r st c).2) := by
  intro st
  induction st with
  | nil => intro c; rfl
  | cons a st ih =>
    intro c
    by_cases h : r ≤ oRk a
    · rw [oRl_pop h, oRl_pop h, List.append_assoc, ih]
    · rw [oRl_keep h, oRl_keep h]
theorem oEp_pre (c0 : List Int) : ∀ (st : List Nat) (d : Nat) (c : List Int), oEp st d (c0 ++ c) = ((oEp st d c).1, (oEp st d c).2.1, c0 ++ (oEp st d c).2.2) := by
  intro st
  induction st with
  | nil => intro d c; rfl
  | cons a st ih =>
    intro d c
    by_cases h : a = 7
    · show (if a = 7 then _ else _) = ((if a = 7 then _ else _ : List Nat × Nat × List Int).1, (if a = 7 then _ else _ : List Nat × Nat × List Int).2.1, c0 ++ (if a = 7 then _ else _ : List Nat × Nat × List Int).2.2)
      rw [if_pos h, if_pos h, List.append_assoc, ih]
    · rw [oEp_keep h, oEp_keep h]
theorem oGo_pre {K : Nat → Nat} {V : Nat → Int} {N : Nat → Nat} (c0 : List Int) : ∀ (m s : Nat) (st : List Nat) (d : Nat) (pn : Bool) (c : List Int), oGo K V N m s st d pn (c0 ++ c) = oPre c0 (oGo K V N m s st d pn c) := by
  intro m
  induction m with
  | zero => intro s st d pn c; rfl
  | succ m ih =>
    intro s st d pn c
    rw [oGo_s, oGo_s]
    by_cases h : pn = false ∧ K s = 23
    · rw [if_pos h, if_pos h, oRl_pre]
      by_cases h2 : (oRl 1 st c).1.length = 0
      · rw [if_pos h2, if_pos h2]; rfl
      · rw [if_neg h2, if_neg h2]; rfl
    · rw [if_neg h, if_neg h]
      have e : oStp K V s st d pn (c0 ++ c) = match oStp K V s st d pn c with
        | .error f => .error f
        | .ok y => .ok (y.1, y.2.1, y.2.2.1, c0 ++ y.2.2.2) := by
        unfold oStp
        cases pn with
        | true =>
          rw [cond_true, cond_true]
          by_cases g1 : 8 ≤ K s ∧ K s ≤ 15
          · rw [if_pos g1, if_pos g1]
            by_cases g2 : 5 ≤ d
            · rw [if_pos g2, if_pos g2]
            · rw [if_neg g2, if_neg g2]
              unfold oEx
              rw [List.append_assoc, oEp_pre]
          · rw [if_neg g1, if_neg g1]
            by_cases g3 : K s = 7 ∨ K s = 16
            · rw [if_pos g3, if_pos g3]
              by_cases g2 : 5 ≤ d
              · rw [if_pos g2, if_pos g2]
              · rw [if_neg g2, if_neg g2]
            · rw [if_neg g3, if_neg g3]
        | false =>
          rw [cond_false, cond_false, oRl_pre, oRl_pre]
          by_cases g1 : K s = 17
          · rw [if_pos g1, if_pos g1]
            by_cases g2 : (oRl 1 st c).1.length = 0
            · rw [if_pos g2, if_pos g2]
            · rw [if_neg g2, if_neg g2]
              unfold oEx
              rw [oEp_pre]
          · rw [if_neg g1, if_neg g1]
            by_cases g2 : oRk (K s) = 0
            · rw [if_pos g2, if_pos g2]
            · rw [if_neg g2, if_neg g2]
              by_cases g3 : oRk (K s) = 2 ∧ oTr (oRl (oJr (oRk (K s))) st c).1 = 2
              · rw [if_pos g3, if_pos g3]
              · rw [if_neg g3, if_neg g3]
      rw [e]
      cases hs : oStp K V s st d pn c with
      | error f => rfl
      | ok y => exact ih _ _ _ _ _
/-! what waits, and how much of it -/
def oOp : List Nat → Nat
  | [] => 0
  | a :: st => (if oRk a = 0 then 1 else 0) + oOp st
def oWf : List Nat → Prop
  | [] => True
  | a :: st => (oRk a = 0 ∨ oTr st < oRk a) ∧ a ≤ 22 ∧ oWf st
theorem oWf_len : ∀ {st : List Nat}, oWf st → st.length ≤ 5 * oOp st + oTr st := by
  intro st
  induction st with
  | nil => intro _; exact Nat.le_refl _
  | cons a st ih =>
    intro h
    have h1 := ih h.2.2
    have h2 := oTr_le st
    show st.length + 1 ≤ 5 * ((if oRk a = 0 then 1 else 0) + oOp st) + oRk a
    by_cases h3 : oRk a = 0
    · rw [if_pos h3]; omega
    · rw [if_neg h3]
      have h4 := h.1
      omega
theorem oRl_wf {r : Nat} (hr : 1 ≤ r) : ∀ {st : List Nat} {c : List Int}, oWf st → oWf (oRl r st c).1 ∧ oOp (oRl r st c).1 = oOp st ∧ oTr (oRl r st c).1 < r ∧ (oRl r st c).1.length + (oRl r st c).2.length = st.length + c.length := by
  intro st
  induction st with
  | nil => intro c h; exact ⟨h, rfl, hr, rfl⟩
  | cons a st ih =>
    intro c h
    by_cases h1 : r ≤ oRk a
    · rw [oRl_pop h1]
      obtain ⟨g1, g2, g3, g4⟩ := ih (c := c ++ [(a : Int)]) h.2.2
      refine ⟨g1, ?_, g3, ?_⟩
      · rw [g2]
        show oOp st = (if oRk a = 0 then 1 else 0) + oOp st
        rw [if_neg (by omega)]
        omega
      · rw [g4]
        simp only [List.length_append, List.length_cons, List.length_nil]
        omega
    · rw [oRl_keep h1]
      exact ⟨h, rfl, by show oRk a < r; omega, rfl⟩
theorem oEp_wf : ∀ {st : List Nat} {d : Nat} {c : List Int}, oWf st → oOp st = d → oWf (oEp st d c).1 ∧ oOp (oEp st d c).1 = (oEp st d c).2.1 ∧ (oEp st d c).2.1 ≤ d ∧ (oEp st d c).1.length + (oEp st d c).2.2.length = st.length + c.length := by
  intro st
  induction st with
  | nil => intro d c h1 h2; exact ⟨h1, h2, Nat.le_refl _, rfl⟩
  | cons a st ih =>
    intro d c h1 h2
    by_cases h3 : a = 7
    · subst h3
      have h2 : (if oRk 7 = 0 then 1 else 0) + oOp st = d := h2
      rw [if_pos (by rfl)] at h2
      obtain ⟨d', rfl⟩ : ∃ d', d = d' + 1 := ⟨d - 1, by omega⟩
      rw [oEp_not]
      obtain ⟨g1, g2, g3, g4⟩ := ih (d := d') (c := c ++ [7]) h1.2.2 (by omega)
      refine ⟨g1, g2, by omega, ?_⟩
      rw [g4]
      simp only [List.length_append, List.length_cons, List.length_nil]
      omega
    · rw [oEp_keep h3]
      exact ⟨h1, h2, Nat.le_refl _, rfl⟩
