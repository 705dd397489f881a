/-- bits of what holds -/
noncomputable def wDc (P : Nat → Prop) (i : Nat) : Bool := @decide (P i) (Classical.propDecidable (P i))
theorem wDc_y {P : Nat → Prop} {i : Nat} (h : P i) : wDc P i = true := @decide_eq_true _ (Classical.propDecidable (P i)) h
theorem wDc_n {P : Nat → Prop} {i : Nat} (h : ¬ P i) : wDc P i = false := @decide_eq_false _ (Classical.propDecidable (P i)) h
def wBt (b : Nat → Bool) : Nat → Int
  | 0 => 0
  | k + 1 => cond (b k) (cfn 1 (wBt b k) (cfn 2 1 (k : Int))) (wBt b k)
theorem wBt_y {b : Nat → Bool} {k : Nat} (h : b k = true) : wBt b (k + 1) = cfn 1 (wBt b k) (cfn 2 1 (k : Int)) := by
  show cond (b k) _ _ = _
  rw [h, cond_true]
theorem wBt_n {b : Nat → Bool} {k : Nat} (h : b k = false) : wBt b (k + 1) = wBt b k := by
  show cond (b k) _ _ = _
  rw [h, cond_false]
theorem i32r (x : Int32) : -2147483648 ≤ x.toInt ∧ x.toInt ≤ 2147483647 := by
  have h1 := Int32.le_toInt x
  have h2 := Int32.toInt_lt x
  constructor <;> omega
theorem wBt_r (b : Nat → Bool) : ∀ k, -2147483648 ≤ wBt b k ∧ wBt b k ≤ 2147483647 := by
  intro k
  induction k with
  | zero => exact ⟨show (-2147483648 : Int) ≤ 0 by decide, show (0 : Int) ≤ 2147483647 by decide⟩
  | succ k ih =>
    cases h : b k with
    | true =>
      rw [wBt_y h]
      exact i32r _
    | false => rw [wBt_n h]; exact ih
theorem cfn1_0 {x : Int} (h : -2147483648 ≤ x ∧ x ≤ 2147483647) : cfn 1 x 0 = x := by
  show (Int32.ofInt x ||| Int32.ofInt 0).toInt = x
  rw [show Int32.ofInt 0 = 0 from rfl, Int32.or_zero, Int32.toInt_ofInt_of_le (by omega) (by omega)]
theorem wBt_cg {b c : Nat → Bool} : ∀ k, (∀ i, i < k → b i = c i) → wBt b k = wBt c k := by
  intro k
  induction k with
  | zero => intro _; rfl
  | succ k ih =>
    intro h
    have e := ih (fun i hi => h i (by omega))
    show cond (b k) _ _ = cond (c k) _ _
    rw [e, h k (by omega)]
theorem wDc_iff {P : Nat → Prop} {i : Nat} : wDc P i = true ↔ P i := by
  by_cases hp : P i
  · rw [wDc_y hp]; exact ⟨fun _ => hp, fun _ => rfl⟩
  · rw [wDc_n hp]; exact ⟨fun z => (by cases z), fun z => absurd z hp⟩
theorem wDc_cg {P Q : Nat → Prop} {i : Nat} (h : P i ↔ Q i) : wDc P i = wDc Q i := by
  by_cases hp : P i
  · rw [wDc_y hp, wDc_y (h.mp hp)]
  · rw [wDc_n hp, wDc_n (fun z => hp (h.mpr z))]
theorem cfn1_11 {x y : Int} : cfn 1 (cfn 1 x y) y = cfn 1 x y := by
  show (Int32.ofInt (Int32.ofInt x ||| Int32.ofInt y).toInt ||| Int32.ofInt y).toInt = (Int32.ofInt x ||| Int32.ofInt y).toInt
  rw [Int32.ofInt_toInt, Int32.or_assoc, Int32.or_self]
/-! codes of a line: how high what waits can lie, and what they come to -/
def oCv (x : Int) : Prop := x = 5 ∨ x = 6 ∨ x = 7 ∨ (8 ≤ x ∧ x ≤ 14) ∨ (18 ≤ x ∧ x ≤ 22) ∨ (x % 32 = 15 ∧ 0 ≤ x ∧ x < 400000)
def oMx : List Int → Nat → Prop
  | [], _ => True
  | x :: c, h => oCv x ∧ ∃ h', cstep (oOp1 x) (oOp2 x) h = some h' ∧ h' ≤ 64 ∧ oMx c h'
theorem oMx_one {x : Int} {h2 : Nat} (hx : oCv x) (h64 : h2 ≤ 64) : ∀ {c : List Int} {h h1 : Nat}, oMx c h → oHt c h = some h1 → cstep (oOp1 x) (oOp2 x) h1 = some h2 → oMx (c ++ [x]) h := by
  intro c
  induction c with
  | nil =>
    intro h h1 _ q q2
    cases q
    exact ⟨hx, h2, q2, h64, trivial⟩
  | cons y c ih =>
    intro h h1 g q q2
    obtain ⟨g1, h', g2, g3, g4⟩ := g
    refine ⟨g1, h', g2, g3, ih g4 ?_ q2⟩
    unfold oHt at q
    rw [g2] at q
    exact q
theorem oBn_len : ∀ st : List Nat, oBn st ≤ st.length := by
  intro st
  induction st with
  | nil => exact Nat.le_refl _
  | cons a st ih =>
    rw [oBn_c, List.length_cons]
    split <;> omega
theorem oCv_b {a : Nat} (ha : 1 ≤ oRk a) : oCv (a : Int) := by
  unfold oCv
  have := oRk_b ha
  omega
theorem oCv_n {k : Nat} {v : Int} (hk : 8 ≤ k ∧ k ≤ 15) (hv : k = 15 → 0 ≤ v ∧ v < 10000) : oCv (oCo k v) := by
  unfold oCv oCo
  by_cases h : k = 15
  · have := hv h
    rw [if_pos h]
    omega
  · rw [if_neg h]
    omega
theorem oRl_mx {r : Nat} (hr : 1 ≤ r) : ∀ {st : List Nat} {c : List Int}, oHt c 0 = some (oBn st + 1) → oBn st + 1 ≤ 64 → oMx c 0 → oMx (oRl r st c).2 0 := by
  intro st
  induction st with
  | nil => intro c _ _ h; exact h
  | cons a st ih =>
    intro c h h6 hm
    by_cases h1 : r ≤ oRk a
    · rw [oRl_pop h1]
      rw [oBn_c, if_pos (by omega)] at h h6
      have e : cstep (oOp1 (a : Int)) (oOp2 (a : Int)) (1 + oBn st + 1) = some (oBn st + 1) := by
        rw [oHt_b (by omega) (by omega)]
        exact congrArg some (by omega)
      exact ih (oHt_one h e) (by omega) (oMx_one (oCv_b (by omega)) (by omega) hm h e)
    · rw [oRl_keep h1]
      exact hm
theorem oEp_mx : ∀ {st : List Nat} {d : Nat} {c : List Int} {h : Nat}, 1 ≤ h → h ≤ 64 → oHt c 0 = some h → oMx c 0 → oMx (oEp st d c).2.2 0 := by
  intro st
  induction st with
  | nil => intro d c h _ _ _ q; exact q
  | cons a st ih =>
    intro d c h hh h6 q hm
    by_cases h3 : a = 7
    · subst h3
      have e : oEp (7 :: st) d c = oEp st (d - 1) (c ++ [7]) := if_pos rfl
      rw [e]
      exact ih (d := d - 1) hh h6 (oHt_one q (oHt_7 hh)) (oMx_one (by unfold oCv; omega) h6 hm q (oHt_7 hh))
    · rw [oEp_keep h3]
      exact hm
theorem oStp_mx {K : Nat → Nat} {V : Nat → Int} (hV : ∀ s, K s = 15 → 0 ≤ V s ∧ V s < 10000) {s : Nat} {st : List Nat} {d : Nat} {pn : Bool} {c : List Int} {y : OSt} (hW : oWf st) (hO : oOp st = d) (h5 : d ≤ 5) (h : oHI st pn c) (hm : oMx c 0) (hy : oStp K V s st d pn c = .ok y) : oMx y.2.2.2 0 := by
  have hln := oWf_len hW
  have htr := oTr_le st
  have hbn := oBn_len st
  unfold oStp at hy
  unfold oHI at h
  cases pn with
  | true =>
    rw [cond_true] at hy h
    split at hy
    · rename_i h8
      split at hy
      · cases hy
      · cases hy
        exact oEp_mx (h := oBn st + 0 + 1) (by omega) (by omega) (oHt_one h (oHt_n h8)) (oMx_one (oCv_n h8 (hV s)) (by omega) hm h (oHt_n h8))
    · split at hy
      · split at hy
        · cases hy
        · cases hy
          exact hm
      · cases hy
  | false =>
    rw [cond_false] at hy h
    have w := oRl_mx (r := 1) (by omega) h (by omega) hm
    split at hy
    · split at hy
      · cases hy
      · cases hy
        have w1 := oRl_ht (r := 1) (by omega) h
        have w2 := (oRl_wf (r := 1) (by omega) (c := c) hW).2.2.2
        have w3 := oBn_len (oRl 1 st c).1
        have w4 := (oRl_wf (r := 1) (by omega) (c := c) hW)
        have w5 := oWf_len w4.1
        have w6 := oTr_le (oRl 1 st c).1
        exact oEp_mx (by omega) (by omega) w1 w
    · split at hy
      · cases hy
      · split at hy
        · cases hy
        · rename_i hk _
          cases hy
          refine oRl_mx ?_ h (by omega) hm
          unfold oJr
          split <;> omega
theorem oGo_mx {K : Nat → Nat} {V : Nat → Int} {N : Nat → Nat} (hV : ∀ s, K s = 15 → 0 ≤ V s ∧ V s < 10000) : ∀ {m s : Nat} {st : List Nat} {d : Nat} {pn : Bool} {c : List Int} {q : Nat × List Int}, oWf st → oOp st = d → d ≤ 5 → oHI st pn c → oMx c 0 → oGo K V N m s st d pn c = .ok q → oMx q.2 0 := by
  intro m
  induction m with
  | zero => intro s st d pn c q _ _ _ _ _ h; cases h
  | succ m ih =>
    intro s st d pn c q hW hO h5 hI hm h
    rw [oGo_s] at h
    split at h
    · rename_i hp
      split at h
      · cases h
        have hI : oHI st pn c := hI
        unfold oHI at hI
        rw [hp.1, cond_false] at hI
        have hln := oWf_len hW
        have htr := oTr_le st
        have hbn := oBn_len st
        exact oRl_mx (by omega) hI (by omega) hm
      · cases h
    · cases hs : oStp K V s st d pn c with
      | error f => rw [hs] at h; cases h
      | ok y =>
        rw [hs] at h
        have w := oStp_inv hW hO h5 hs
        exact ih w.1 w.2.1 w.2.2.1 (oStp_ht hI hs) (oStp_mx hV hW hO h5 hI hm hs) h
theorem oLin_mx {T : Nat → Int} {L : Nat} {U : Nat → Int} {lno s : Nat} {q : Nat × OLn} (h : oLin T L U lno s = .ok q) : oMx q.2.2.2 0 ∧ 0 ≤ q.2.1 ∧ q.2.1 ≤ 3 ∧ 0 ≤ q.2.2.1 ∧ q.2.2.1 < 8 := by
  unfold oLin at h
  split at h
  · cases h
  split at h
  · cases h
  split at h
  · cases h
  split at h
  · cases h
  split at h
  · cases h
  split at h
  · cases h
  cases hr : oRu (oK T L) (oV T L) (oN T L) L (oN T L (oN T L (oN T L s))) [] 0 true [] with
  | error f => rw [hr] at h; cases h
  | ok z =>
    rw [hr] at h
    cases h
    have b := oV_bd (T := T) (L := L) (s := oN T L s) (by omega)
    refine ⟨oGo_mx (st := []) (d := 0) (pn := true) (c := []) (fun s h => oV_bd h) trivial rfl (by omega) rfl trivial hr, ?_, ?_, ?_, ?_⟩
    · show (0 : Int) ≤ (oK T L s : Int)
      omega
    · show (oK T L s : Int) ≤ 3
      omega
    · show 0 ≤ oV T L (oN T L s)
      omega
    · show oV T L (oN T L s) < 8
      omega
def oLnk (q : OLn) : Prop := oMx q.2.2 0 ∧ 0 ≤ q.1 ∧ q.1 ≤ 3 ∧ 0 ≤ q.2.1 ∧ q.2.1 < 8
theorem oRd_mx {T : Nat → Int} {L : Nat} {U : Nat → Int} : ∀ {m lno s : Nat} {ls ls' : List OLn}, (∀ q ∈ ls, oLnk q) → oRd T L U m lno s ls = .ok ls' → ∀ q ∈ ls', oLnk q := by
  intro m
  induction m with
  | zero => intro lno s ls ls' _ h; cases h
  | succ m ih =>
    intro lno s ls ls' h0 h
    have h : (if oK T L s = 24 then .ok ls else match oLin T L U lno s with
      | .error f => .error f
      | .ok q => oRd T L U m (lno + 1) q.1 (ls ++ [q.2])) = Except.ok ls' := h
    split at h
    · cases h
      exact h0
    · cases hl : oLin T L U lno s with
      | error f => rw [hl] at h; cases h
      | ok q =>
        rw [hl] at h
        refine ih (fun q' hq' => ?_) h
        rcases List.mem_append.mp hq' with z | z
        · exact h0 q' z
        · cases List.mem_singleton.mp z
          exact oLin_mx hl
/-- what two numbers come to -/
def eJ (k a b : Int) : Int := if k = 5 then (if a = 0 ∨ b = 0 then 0 else 1) else if k = 6 then (if a = 0 ∧ b = 0 then 0 else 1) else if k = 18 then (if a < b then 1 else 0) else if k = 19 then (if a = b then 1 else 0) else if k = 20 then cfn 16 a b else if k = 21 then cfn 17 a b else cfn 4 a b
/-- one code, over what waits (the topmost first) -/
def eS (F : Int → Int) (x : Int) (st : List Int) : List Int :=
  if x = 7 then (match st with
    | [] => []
    | a :: s => (if a = 0 then 1 else 0) :: s)
  else if x % 32 = 15 then x / 32 :: st
  else if 8 ≤ x ∧ x ≤ 14 then F x :: st
  else (match st with
    | b :: a :: s => eJ x a b :: s
    | s => s)
def eR (F : Int → Int) : List Int → List Int → List Int
  | [], s => s
  | x :: c, s => eR F c (eS F x s)
def eV (F : Int → Int) (c : List Int) : Int := (eR F c []).headD 0
/-- what waits lies in a row -/
def eM (f : Nat) (M : SMem) : List Int → Prop
  | [] => True
  | a :: s => M f 0 s.length = a ∧ eM f M s
theorem eM_cg {f : Nat} {M M' : SMem} : ∀ {s : List Int}, (∀ i, i < s.length → M' f 0 i = M f 0 i) → eM f M s → eM f M' s := by
  intro s
  induction s with
  | nil => intro _ h; exact h
  | cons a s ih =>
    intro h g
    rw [List.length_cons] at h
    exact ⟨(h s.length (by omega)).trans g.1, ih (fun i hi => h i (by omega)) g.2⟩
theorem eM_hi {f i : Nat} {z : Int} {M : SMem} {s : List Int} (hi : s.length ≤ i) (g : eM f M s) : eM f (supd M f 0 i z) s := eM_cg (fun k hk => supd_i (by omega)) g
theorem eM_push {f i : Nat} {z : Int} {M : SMem} {s : List Int} (hi : i = s.length) (g : eM f M s) : eM f (supd M f 0 i z) (z :: s) := by
  subst hi
  exact ⟨supd_at _ _ _ _ _, eM_hi (Nat.le_refl _) g⟩
/-- what a code is -/
theorem oCv_7 : oOp1 7 = 3 := by decide
theorem oCv_15 {x : Int} (h : x % 32 = 15) : oOp1 x = 1 ∧ oOp2 x = x / 32 := by
  unfold oOp1 oOp2
  exact ⟨if_pos h, if_pos h⟩
theorem oCv_f {x : Int} (h : 8 ≤ x ∧ x ≤ 14) : oOp1 x = 2 ∧ oOp2 x = x - 8 := by
  have : x = 8 ∨ x = 9 ∨ x = 10 ∨ x = 11 ∨ x = 12 ∨ x = 13 ∨ x = 14 := by omega
  rcases this with rfl | rfl | rfl | rfl | rfl | rfl | rfl <;> decide
theorem oMx_num {x : Int} {c : List Int} {h : Nat} (hx : x % 32 = 15 ∨ (8 ≤ x ∧ x ≤ 14)) (g : oMx (x :: c) h) : h + 1 ≤ 64 ∧ oMx c (h + 1) := by
  obtain ⟨-, h', g1, g2, g3⟩ := g
  have e : cstep (oOp1 x) (oOp2 x) h = some (h + 1) := by
    rcases hx with q | q
    · rw [(oCv_15 q).1]
      unfold cstep
      rw [if_pos rfl]
    · rw [(oCv_f q).1, (oCv_f q).2]
      unfold cstep
      rw [if_neg (by decide), if_pos rfl, if_pos (by omega)]
  cases e.symm.trans g1
  exact ⟨g2, g3⟩
theorem oMx_not {c : List Int} {h : Nat} (g : oMx (7 :: c) h) : 1 ≤ h ∧ oMx c h := by
  obtain ⟨-, h', g1, g2, g3⟩ := g
  have g1 : cstep 3 0 h = some h' := g1
  unfold cstep at g1
  rw [if_neg (by decide), if_neg (by decide), if_pos rfl] at g1
  split at g1
  · rename_i q
    cases g1
    exact ⟨q, g3⟩
  · cases g1
theorem oMx_two {x : Int} {c : List Int} {h : Nat} (h7 : x ≠ 7) (h15 : x % 32 ≠ 15) (h8 : ¬ (8 ≤ x ∧ x ≤ 14)) (g : oMx (x :: c) h) : 2 ≤ h ∧ oMx c (h - 1) ∧ (x = 5 ∨ x = 6 ∨ (18 ≤ x ∧ x ≤ 22)) := by
  obtain ⟨g0, h', g1, g2, g3⟩ := g
  have hx : x = 5 ∨ x = 6 ∨ (18 ≤ x ∧ x ≤ 22) := by
    unfold oCv at g0
    omega
  have e : 4 ≤ oOp1 x ∧ oOp1 x ≤ 10 := by
    have : x = 5 ∨ x = 6 ∨ x = 18 ∨ x = 19 ∨ x = 20 ∨ x = 21 ∨ x = 22 := by omega
    rcases this with rfl | rfl | rfl | rfl | rfl | rfl | rfl <;> decide
  unfold cstep at g1
  rw [if_neg (by omega), if_neg (by omega), if_neg (by omega), if_pos e] at g1
  split at g1
  · rename_i q
    cases g1
    exact ⟨q, g3, hx⟩
  · cases g1
theorem oMx_cv {x : Int} {c : List Int} {h : Nat} (g : oMx (x :: c) h) : oCv x := g.1
