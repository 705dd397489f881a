/-! the codes of a line never lack operands -/
def oHt : List Int → Nat → Option Nat
  | [], h => some h
  | x :: c, h => match cstep (oOp1 x) (oOp2 x) h with
    | some h' => oHt c h'
    | none => none
theorem oHt_app : ∀ {c d : List Int} {h h' : Nat}, oHt c h = some h' → oHt (c ++ d) h = oHt d h' := by
  intro c
  induction c with
  | nil => intro d h h' q; cases q; rfl
  | cons x c ih =>
    intro d h h' q
    unfold oHt at q
    show (match cstep (oOp1 x) (oOp2 x) h with
      | some h' => oHt (c ++ d) h'
      | none => none) = oHt d h'
    cases hc : cstep (oOp1 x) (oOp2 x) h with
    | none => rw [hc] at q; cases q
    | some h2 =>
      rw [hc] at q
      exact ih q
theorem oHt_one {c : List Int} {x : Int} {h h' h2 : Nat} (q : oHt c h = some h') (q2 : cstep (oOp1 x) (oOp2 x) h' = some h2) : oHt (c ++ [x]) h = some h2 := by
  rw [oHt_app q]
  show (match cstep (oOp1 x) (oOp2 x) h' with
    | some h' => oHt [] h'
    | none => none) = some h2
  rw [q2]
  rfl
theorem oRk_b {a : Nat} (ha : 1 ≤ oRk a) : a = 5 ∨ a = 6 ∨ a = 18 ∨ a = 19 ∨ a = 20 ∨ a = 21 ∨ a = 22 := by
  unfold oRk at ha
  split at ha
  · omega
  split at ha
  · omega
  split at ha
  · omega
  split at ha <;> omega
theorem cstep_b {k v : Int} {h : Nat} (hk : 4 ≤ k ∧ k ≤ 10) (hh : 2 ≤ h) : cstep k v h = some (h - 1) := by
  unfold cstep
  rw [if_neg (by omega), if_neg (by omega), if_neg (by omega), if_pos hk, if_pos hh]
theorem oHt_b {a h : Nat} (ha : 1 ≤ oRk a) (hh : 2 ≤ h) : cstep (oOp1 (a : Int)) (oOp2 (a : Int)) h = some (h - 1) := by
  refine cstep_b ?_ hh
  rcases oRk_b ha with rfl | rfl | rfl | rfl | rfl | rfl | rfl <;> decide
theorem oHt_7 {h : Nat} (hh : 1 ≤ h) : cstep (oOp1 7) (oOp2 7) h = some h := by
  show cstep 3 0 h = some h
  unfold cstep
  rw [if_neg (by decide), if_neg (by decide), if_pos rfl, if_pos hh]
theorem oHt_n {k h : Nat} {v : Int} (hk : 8 ≤ k ∧ k ≤ 15) : cstep (oOp1 (oCo k v)) (oOp2 (oCo k v)) h = some (h + 1) := by
  by_cases h15 : k = 15
  · have e : oOp1 (oCo k v) = 1 := by
      unfold oOp1 oCo
      rw [if_pos h15, if_pos (by omega)]
    rw [e]
    unfold cstep
    rw [if_pos rfl]
  · have e1 : oCo k v = (k : Int) := if_neg h15
    have e2 : oOp1 (k : Int) = 2 := by
      have : k = 8 ∨ k = 9 ∨ k = 10 ∨ k = 11 ∨ k = 12 ∨ k = 13 ∨ k = 14 := by omega
      rcases this with rfl | rfl | rfl | rfl | rfl | rfl | rfl <;> decide
    have e3 : 0 ≤ oOp2 (k : Int) ∧ oOp2 (k : Int) ≤ 6 := by
      have : k = 8 ∨ k = 9 ∨ k = 10 ∨ k = 11 ∨ k = 12 ∨ k = 13 ∨ k = 14 := by omega
      rcases this with rfl | rfl | rfl | rfl | rfl | rfl | rfl <;> decide
    rw [e1, e2]
    unfold cstep
    rw [if_neg (by decide), if_pos rfl, if_pos e3]
/-- how many that join wait -/
def oBn : List Nat → Nat
  | [] => 0
  | a :: st => (if 1 ≤ oRk a then 1 else 0) + oBn st
theorem oBn_c {a : Nat} {st : List Nat} : oBn (a :: st) = (if 1 ≤ oRk a then 1 else 0) + oBn st := rfl
theorem oRl_ht {r : Nat} (hr : 1 ≤ r) : ∀ {st : List Nat} {c : List Int}, oHt c 0 = some (oBn st + 1) → oHt (oRl r st c).2 0 = some (oBn (oRl r st c).1 + 1) := by
  intro st
  induction st with
  | nil => intro c h; exact h
  | cons a st ih =>
    intro c h
    by_cases h1 : r ≤ oRk a
    · rw [oRl_pop h1]
      rw [oBn_c, if_pos (by omega)] at h
      refine ih ?_
      refine oHt_one h ?_
      rw [oHt_b (by omega) (by omega)]
      exact congrArg some (by omega)
    · rw [oRl_keep h1]
      exact h
theorem oEp_ht : ∀ {st : List Nat} {d : Nat} {c : List Int} {h : Nat}, 1 ≤ h → oHt c 0 = some h → oHt (oEp st d c).2.2 0 = some h ∧ oBn (oEp st d c).1 = oBn st := by
  intro st
  induction st with
  | nil => intro d c h _ q; exact ⟨q, rfl⟩
  | cons a st ih =>
    intro d c h hh q
    by_cases h3 : a = 7
    · subst h3
      have e : oEp (7 :: st) d c = oEp st (d - 1) (c ++ [7]) := if_pos rfl
      rw [e]
      obtain ⟨g1, g2⟩ := ih (d := d - 1) hh (oHt_one q (oHt_7 hh))
      refine ⟨g1, ?_⟩
      rw [g2, oBn_c, if_neg (by decide)]
      omega
    · rw [oEp_keep h3]
      exact ⟨q, rfl⟩
def oHI (st : List Nat) (pn : Bool) (c : List Int) : Prop := oHt c 0 = some (oBn st + cond pn 0 1)
theorem oStp_ht {K : Nat → Nat} {V : Nat → Int} {s : Nat} {st : List Nat} {d : Nat} {pn : Bool} {c : List Int} {y : OSt} (h : oHI st pn c) (hy : oStp K V s st d pn c = .ok y) : oHI y.1 y.2.2.1 y.2.2.2 := by
  unfold oStp at hy
  unfold oHI at h ⊢
  cases pn with
  | true =>
    rw [cond_true] at hy h
    split at hy
    · rename_i h8
      split at hy
      · cases hy
      · cases hy
        obtain ⟨g1, g2⟩ := oEp_ht (st := st) (d := d) (c := c ++ [oCo (K s) (V s)]) (h := oBn st + 0 + 1) (by omega) (oHt_one h (oHt_n h8))
        unfold oEx
        dsimp only
        rw [g1, g2]
        rfl
    · split at hy
      · rename_i h7
        split at hy
        · cases hy
        · cases hy
          dsimp only
          rw [cond_true, oBn_c, if_neg (by rcases h7 with q | q <;> rw [q] <;> decide), h]
          exact congrArg some (by omega)
      · cases hy
  | false =>
    rw [cond_false] at hy h
    split at hy
    · split at hy
      · cases hy
      · rename_i hne
        cases hy
        have w := oRl_ht (r := 1) (by omega) h
        have w3 : oBn (oRl 1 st c).1.tail = oBn (oRl 1 st c).1 := by
          have w4 : ∀ (t : List Nat) (c : List Int), oRk ((oRl 1 t c).1.headD 0) = 0 := by
            intro t
            induction t with
            | nil => intro c; rfl
            | cons a t ih =>
              intro c
              by_cases h1 : 1 ≤ oRk a
              · rw [oRl_pop h1]; exact ih _
              · rw [oRl_keep h1]
                show oRk a = 0
                omega
          have w5 := w4 st c
          cases he : (oRl 1 st c).1 with
          | nil => rfl
          | cons a t =>
            rw [he] at w5
            have w5 : oRk a = 0 := w5
            rw [oBn_c, if_neg (by omega), List.tail_cons, Nat.zero_add]
        obtain ⟨g1, g2⟩ := oEp_ht (st := (oRl 1 st c).1.tail) (d := d - 1) (by omega) w
        unfold oEx
        dsimp only
        rw [g1, g2, w3, cond_false]
    · split at hy
      · cases hy
      · rename_i hk
        split at hy
        · cases hy
        · cases hy
          dsimp only
          have hj : 1 ≤ oJr (oRk (K s)) := by
            unfold oJr
            split <;> omega
          have w := oRl_ht hj h
          rw [cond_true, oBn_c, if_pos (by omega), w]
          exact congrArg some (by omega)
theorem oGo_ht {K : Nat → Nat} {V : Nat → Int} {N : Nat → Nat} : ∀ {m s : Nat} {st : List Nat} {d : Nat} {pn : Bool} {c : List Int} {q : Nat × List Int}, oHI st pn c → oGo K V N m s st d pn c = .ok q → oHt q.2 0 = some 1 := by
  intro m
  induction m with
  | zero => intro s st d pn c q _ h; cases h
  | succ m ih =>
    intro s st d pn c q hI h
    rw [oGo_s] at h
    split at h
    · rename_i hp
      split at h
      · rename_i hz
        cases h
        rw [hp.1] at hI
        have w := oRl_ht (r := 1) (by omega) hI
        have e : (oRl 1 st c).1 = [] := List.length_eq_zero_iff.mp hz
        rw [e] at w
        exact w
      · cases h
    · cases hs : oStp K V s st d pn c with
      | error f => rw [hs] at h; cases h
      | ok y =>
        rw [hs] at h
        exact ih (oStp_ht hI hs) h
theorem oLin_ht {T : Nat → Int} {L : Nat} {U : Nat → Int} {lno s : Nat} {q : Nat × OLn} (h : oLin T L U lno s = .ok q) : oHt q.2.2.2 0 = some 1 := by
  unfold oLin at h
  split at h
  · cases h
  split at h
  · cases h
  split at h
  · cases h
  split at h
  · cases h
  split at h
  · cases h
  split at h
  · cases h
  cases hr : oRu (oK T L) (oV T L) (oN T L) L (oN T L (oN T L (oN T L s))) [] 0 true [] with
  | error f => rw [hr] at h; cases h
  | ok z =>
    rw [hr] at h
    cases h
    exact oGo_ht (show oHI [] true [] from rfl) hr
theorem oHt_crun {o a : Nat → Int} : ∀ {cc : List Int} {i h : Nat}, (∀ (j : Nat) (x : Int), cc[j]? = some x → o (i + j) = oOp1 x ∧ a (i + j) = oOp2 x) → crun o a cc.length i h = oHt cc h := by
  intro cc
  induction cc with
  | nil => intro i h _; rfl
  | cons x cc ih =>
    intro i h q
    have q0 := q 0 x rfl
    rw [Nat.add_zero] at q0
    rw [List.length_cons, crun_succ, q0.1, q0.2]
    show _ = (match cstep (oOp1 x) (oOp2 x) h with
      | some h' => oHt cc h'
      | none => none)
    cases hc : cstep (oOp1 x) (oOp2 x) h with
    | none => rfl
    | some h' =>
      refine ih (fun j y hy => ?_)
      have := q (j + 1) y hy
      rw [show i + 1 + j = i + (j + 1) by omega]
      exact this
