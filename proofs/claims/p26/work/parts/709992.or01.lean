/-! the tokens of a tape -/
def oR (P : Int → Bool) (T : Nat → Int) (L : Nat) : Nat → Nat → Nat
  | 0, p => p
  | k + 1, p => cond (decide (p < L) && P (T p)) (oR P T L k (p + 1)) p
def oIb (c : Int) : Bool := decide (c = 10) || decide (c = 32)
def oIl (c : Int) : Bool := decide (97 ≤ c) && decide (c ≤ 122)
def oId (c : Int) : Bool := decide (48 ≤ c) && decide (c ≤ 57)
theorem oIb_iff {c : Int} : oIb c = true ↔ (c = 10 ∨ c = 32) := by
  unfold oIb
  rw [Bool.or_eq_true, decide_eq_true_iff, decide_eq_true_iff]
theorem oIl_iff {c : Int} : oIl c = true ↔ (97 ≤ c ∧ c ≤ 122) := by
  unfold oIl
  rw [Bool.and_eq_true, decide_eq_true_iff, decide_eq_true_iff]
theorem oId_iff {c : Int} : oId c = true ↔ (48 ≤ c ∧ c ≤ 57) := by
  unfold oId
  rw [Bool.and_eq_true, decide_eq_true_iff, decide_eq_true_iff]
section ORR
variable {P : Int → Bool} {T : Nat → Int} {L : Nat}
theorem oR_stay {k p : Nat} (h : ¬ (p < L ∧ P (T p) = true)) : oR P T L k p = p := by
  cases k with
  | zero => rfl
  | succ k =>
    show cond (decide (p < L) && P (T p)) _ _ = _
    have e : (decide (p < L) && P (T p)) = false := by
      cases hb : (decide (p < L) && P (T p)) with
      | false => rfl
      | true =>
        rw [Bool.and_eq_true, decide_eq_true_iff] at hb
        exact absurd hb h
    rw [e, cond_false]
theorem oR_go {k p : Nat} (h1 : p < L) (h2 : P (T p) = true) : oR P T L (k + 1) p = oR P T L k (p + 1) := by
  show cond (decide (p < L) && P (T p)) _ _ = _
  rw [h2, decide_eq_true h1, Bool.and_self, cond_true]
theorem oR_le : ∀ (k p : Nat), p ≤ oR P T L k p ∧ oR P T L k p ≤ p + k := by
  intro k
  induction k with
  | zero => intro p; exact ⟨Nat.le_refl _, Nat.le_refl _⟩
  | succ k ih =>
    intro p
    by_cases h : p < L ∧ P (T p) = true
    · rw [oR_go h.1 h.2]
      have := ih (p + 1)
      omega
    · rw [oR_stay h]
      omega
theorem oR_in : ∀ (k p i : Nat), p ≤ i → i < oR P T L k p → i < L ∧ P (T i) = true := by
  intro k
  induction k with
  | zero => intro p i h1 h2; exact absurd (show i < p from h2) (by omega)
  | succ k ih =>
    intro p i h1 h2
    by_cases h : p < L ∧ P (T p) = true
    · rw [oR_go h.1 h.2] at h2
      rcases Nat.lt_or_ge p i with q | q
      · exact ih (p + 1) i q h2
      · have e : i = p := by omega
        rw [e]
        exact h
    · rw [oR_stay h] at h2
      omega
theorem oR_out : ∀ (k p : Nat), oR P T L k p < p + k → ¬ (oR P T L k p < L ∧ P (T (oR P T L k p)) = true) := by
  intro k
  induction k with
  | zero => intro p h; exact absurd (show p < p + 0 from h) (by omega)
  | succ k ih =>
    intro p h
    by_cases h1 : p < L ∧ P (T p) = true
    · rw [oR_go h1.1 h1.2] at h ⊢
      exact ih (p + 1) (by omega)
    · rw [oR_stay h1]
      exact h1
/-- at the tape's end, or at a sign of another kind -/
theorem oR_end {p : Nat} (hp : p ≤ L) : p ≤ oR P T L (L - p) p ∧ oR P T L (L - p) p ≤ L ∧ ¬ (oR P T L (L - p) p < L ∧ P (T (oR P T L (L - p) p)) = true) := by
  have h := oR_le (P := P) (T := T) (L := L) (L - p) p
  refine ⟨h.1, by omega, fun q => ?_⟩
  exact oR_out (L - p) p (by omega) q
theorem oR_eq {p q : Nat} (hp : p ≤ q) (hq : q ≤ L) (h1 : ∀ i, p ≤ i → i < q → P (T i) = true) (h2 : ¬ (q < L ∧ P (T q) = true)) : oR P T L (L - p) p = q := by
  obtain ⟨g1, g2, g3⟩ := oR_end (P := P) (T := T) (L := L) (p := p) (by omega)
  rcases Nat.lt_trichotomy (oR P T L (L - p) p) q with h | h | h
  · exact absurd ⟨by omega, h1 _ g1 h⟩ g3
  · exact h
  · exact absurd (oR_in _ _ q hp h) h2
end ORR
def oS (T : Nat → Int) (L p : Nat) : Nat := oR oIb T L (L - p) p
def oWe (T : Nat → Int) (s : Nat) : Nat → Int
  | 0 => 0
  | n + 1 => 37 * oWe T s n + (T (s + n) - 96)
def oNv (T : Nat → Int) (s : Nat) : Nat → Int
  | 0 => 0
  | n + 1 => 10 * oNv T s n + (T (s + n) - 48)
def oWt : List Int := [21332, 406715, 22701, 665856, 1176170, 1891, 573, 19741, 564588237, 36420992, 983628, 43567804, 30595897, 181467, 1355088389]
def oFi (x : Int) : Nat → List Int → Nat
  | _, [] => 25
  | k, a :: r => if x = a then k else oFi x (k + 1) r
def oSg (c : Int) : Nat := if c = 40 then 16 else if c = 41 then 17 else if c = 60 then 18 else if c = 61 then 19 else if c = 43 then 20 else if c = 45 then 21 else if c = 42 then 22 else if c = 59 then 23 else 25
def oE (T : Nat → Int) (L s : Nat) : Nat := if L ≤ s then s else if oIl (T s) = true then oR oIl T L (L - s) s else if oId (T s) = true then oR oId T L (L - s) s else s + 1
def oK (T : Nat → Int) (L s : Nat) : Nat := if L ≤ s then 24 else if oIl (T s) = true then (if oE T L s - s ≤ 8 then oFi (oWe T s (oE T L s - s)) 0 oWt else 25) else if oId (T s) = true then (if oE T L s - s ≤ 4 then 15 else 25) else oSg (T s)
def oV (T : Nat → Int) (L s : Nat) : Int := oNv T s (oE T L s - s)
def oN (T : Nat → Int) (L s : Nat) : Nat := oS T L (oE T L s)
section OTK
variable {T : Nat → Int} {L s : Nat}
theorem oE_bd (h : s < L) : s < oE T L s ∧ oE T L s ≤ L := by
  have g : ∀ P : Int → Bool, P (T s) = true → s < oR P T L (L - s) s := fun P hP => by
    obtain ⟨g1, g2, g3⟩ := oR_end (P := P) (T := T) (L := L) (p := s) (by omega)
    rcases Nat.lt_or_ge s (oR P T L (L - s) s) with q | q
    · exact q
    · have e : oR P T L (L - s) s = s := by omega
      rw [e] at g3
      exact absurd ⟨h, hP⟩ g3
  unfold oE
  rw [if_neg (by omega)]
  split
  · exact ⟨g _ (by assumption), (oR_end (by omega)).2.1⟩
  split
  · exact ⟨g _ (by assumption), (oR_end (by omega)).2.1⟩
  · omega
theorem oS_bd {p : Nat} (h : p ≤ L) : p ≤ oS T L p ∧ oS T L p ≤ L := ⟨(oR_end h).1, (oR_end h).2.1⟩
theorem oTk_of : oTk (oK T L) (oN T L) L := by
  refine ⟨fun s h => ?_, fun s h => ?_⟩
  · have h1 := oE_bd (T := T) h
    have h2 := oS_bd (T := T) (p := oE T L s) h1.2
    unfold oN
    omega
  · unfold oK
    rw [if_pos h]
theorem oNv_bd {n : Nat} (h : ∀ i, i < n → 48 ≤ T (s + i) ∧ T (s + i) ≤ 57) : 0 ≤ oNv T s n ∧ oNv T s n < 10 ^ n := by
  induction n with
  | zero => exact ⟨Int.le_refl _, Int.zero_lt_one⟩
  | succ n ih =>
    have h1 := ih (fun i hi => h i (by omega))
    have h2 := h n (by omega)
    have e : (10 : Int) ^ (n + 1) = 10 ^ n * 10 := Int.pow_succ 10 n
    unfold oNv
    rw [e]
    omega
theorem oWe_bd {n : Nat} (h : ∀ i, i < n → 97 ≤ T (s + i) ∧ T (s + i) ≤ 122) : 0 ≤ oWe T s n ∧ oWe T s n < 37 ^ n := by
  induction n with
  | zero => exact ⟨Int.le_refl _, Int.zero_lt_one⟩
  | succ n ih =>
    have h1 := ih (fun i hi => h i (by omega))
    have h2 := h n (by omega)
    have e : (37 : Int) ^ (n + 1) = 37 ^ n * 37 := Int.pow_succ 37 n
    unfold oWe
    rw [e]
    omega
theorem oWe_congr {T' : Nat → Int} {s' : Nat} : ∀ {n : Nat}, (∀ i, i < n → T (s + i) = T' (s' + i)) → oWe T s n = oWe T' s' n := by
  intro n
  induction n with
  | zero => intro _; rfl
  | succ n ih =>
    intro h
    unfold oWe
    rw [ih (fun i hi => h i (by omega)), h n (by omega)]
theorem oNv_congr {T' : Nat → Int} {s' : Nat} : ∀ {n : Nat}, (∀ i, i < n → T (s + i) = T' (s' + i)) → oNv T s n = oNv T' s' n := by
  intro n
  induction n with
  | zero => intro _; rfl
  | succ n ih =>
    intro h
    unfold oNv
    rw [ih (fun i hi => h i (by omega)), h n (by omega)]
theorem oWe_inj {T' : Nat → Int} {s' : Nat} : ∀ {n m : Nat}, (∀ i, i < n → 97 ≤ T (s + i) ∧ T (s + i) ≤ 122) → (∀ i, i < m → 97 ≤ T' (s' + i) ∧ T' (s' + i) ≤ 122) → oWe T s n = oWe T' s' m → n = m ∧ ∀ i, i < n → T (s + i) = T' (s' + i) := by
  intro n
  induction n with
  | zero =>
    intro m _ h2 e
    cases m with
    | zero => exact ⟨rfl, fun i hi => absurd hi (Nat.not_lt_zero i)⟩
    | succ m =>
      have b := (oWe_bd (T := T') (s := s') (n := m) (fun i hi => h2 i (by omega))).1
      have b2 := h2 m (by omega)
      have e : (0 : Int) = 37 * oWe T' s' m + (T' (s' + m) - 96) := e
      omega
  | succ n ih =>
    intro m h1 h2 e
    have c := (oWe_bd (T := T) (s := s) (n := n) (fun i hi => h1 i (by omega))).1
    have c2 := h1 n (by omega)
    cases m with
    | zero =>
      have e : 37 * oWe T s n + (T (s + n) - 96) = (0 : Int) := e
      omega
    | succ m =>
      have b := (oWe_bd (T := T') (s := s') (n := m) (fun i hi => h2 i (by omega))).1
      have b2 := h2 m (by omega)
      have e : 37 * oWe T s n + (T (s + n) - 96) = 37 * oWe T' s' m + (T' (s' + m) - 96) := e
      have e1 : oWe T s n = oWe T' s' m := by omega
      have e2 : T (s + n) = T' (s' + m) := by omega
      obtain ⟨r1, r2⟩ := ih (fun i hi => h1 i (by omega)) (fun i hi => h2 i (by omega)) e1
      subst r1
      refine ⟨rfl, fun i hi => ?_⟩
      rcases Nat.lt_or_ge i n with q | q
      · exact r2 i q
      · have : i = n := by omega
        rw [this]
        exact e2
end OTK
theorem oFi_lt {x : Int} : ∀ {r : List Int} {k : Nat}, k + r.length ≤ 15 → oFi x k r < 15 ∨ oFi x k r = 25 := by
  intro r
  induction r with
  | nil => intro k _; exact Or.inr rfl
  | cons a r ih =>
    intro k h
    have h : k + (r.length + 1) ≤ 15 := h
    unfold oFi
    split
    · left; omega
    · exact ih (by omega)
theorem oFi_hit {x : Int} : ∀ {r : List Int} {k w : Nat}, r.Nodup → k + r.length ≤ 15 → k ≤ w → w < k + r.length → (oFi x k r = w ↔ r[w - k]? = some x) := by
  intro r
  induction r with
  | nil => intro k w _ _ h1 h2; exact absurd (show w < k + 0 from h2) (by omega)
  | cons a r ih =>
    intro k w hn hk h1 h2
    have hk : k + (r.length + 1) ≤ 15 := hk
    have h2 : w < k + (r.length + 1) := h2
    obtain ⟨n1, n2⟩ := List.nodup_cons.mp hn
    unfold oFi
    rcases Nat.lt_or_ge k w with q | q
    · obtain ⟨j, ej⟩ : ∃ j, w - k = j + 1 := ⟨w - k - 1, by omega⟩
      have e0 : w - (k + 1) = j := by omega
      have ih := ih (k := k + 1) (w := w) n2 (by omega) (by omega) (by omega)
      rw [ej, List.getElem?_cons_succ]
      rw [e0] at ih
      by_cases hx : x = a
      · rw [if_pos hx]
        refine ⟨fun z => by omega, fun z => ?_⟩
        exact absurd (List.mem_of_getElem? z) (by rw [hx]; exact n1)
      · rw [if_neg hx]
        exact ih
    · have e : w = k := by omega
      subst e
      rw [Nat.sub_self, List.getElem?_cons_zero]
      by_cases hx : x = a
      · rw [if_pos hx, hx]
        exact ⟨fun _ => rfl, fun _ => rfl⟩
      · rw [if_neg hx]
        refine ⟨fun z => ?_, fun z => absurd (Option.some.inj z).symm hx⟩
        rcases oFi_lt (x := x) (r := r) (k := w + 1) (by omega) with g | g
        · exfalso
          have : ∀ {r : List Int} {k : Nat}, k ≤ oFi x k r ∨ oFi x k r = 25 := by
            intro r
            induction r with
            | nil => intro k; exact Or.inr rfl
            | cons b r ih2 =>
              intro k
              unfold oFi
              split
              · exact Or.inl (Nat.le_refl _)
              · rcases ih2 (k := k + 1) with t | t
                · left; omega
                · exact Or.inr t
          rcases this (r := r) (k := w + 1) with t | t <;> omega
        · omega
theorem oWt_nd : oWt.Nodup := by decide +kernel
/-- the word's kind is its place in the table -/
theorem oFi_iff {x : Int} {w : Nat} (hw : w < 15) : oFi x 0 oWt = w ↔ oWt[w]? = some x := oFi_hit oWt_nd (by decide) (Nat.zero_le _) (by show w < 0 + 15; omega)
def oLn (c : Nat) : Nat := ([3, 4, 3, 4, 4, 3, 2, 3, 6, 5, 4, 5, 5, 4, 6][c]?).getD 0
theorem oLn_ok : ∀ c, c < 15 → 1 ≤ oLn c ∧ oLn c ≤ 8 ∧ oWt[c]? = some (oWe zwc (8 * c) (oLn c)) ∧ ∀ i, i < 8 → (i < oLn c → 97 ≤ zwc (8 * c + i) ∧ zwc (8 * c + i) ≤ 122) ∧ (oLn c ≤ i → zwc (8 * c + i) = 32) := by decide +kernel
/-- the signs of a cell, blanks behind the letters -/
theorem oCell {T : Nat → Int} {s n c : Nat} (hc : c < 15) (h1 : n ≤ 8) (hl : ∀ i, i < n → 97 ≤ T (s + i) ∧ T (s + i) ≤ 122) : (∀ i, i < 8 → (if i < n then T (s + i) else 32) = zwc (8 * c + i)) ↔ oFi (oWe T s n) 0 oWt = c := by
  obtain ⟨o1, o2, o3, o4⟩ := oLn_ok c hc
  rw [oFi_iff hc, o3]
  constructor
  · intro h
    have hn : n = oLn c := by
      rcases Nat.lt_trichotomy n (oLn c) with q | q | q
      · have g := h n (by omega)
        rw [if_neg (by omega)] at g
        have := (o4 n (by omega)).1 q
        omega
      · exact q
      · have g := h (oLn c) (by omega)
        rw [if_pos q] at g
        have g2 := (o4 (oLn c) (by omega)).2 (Nat.le_refl _)
        have g3 := hl _ q
        omega
    subst hn
    refine congrArg some (oWe_congr (fun i hi => ?_)).symm
    have g := h i (by omega)
    rw [if_pos hi] at g
    exact g
  · intro h
    obtain ⟨r1, r2⟩ := oWe_inj (T := T) (s := s) (n := n) (T' := zwc) (s' := 8 * c) (m := oLn c) hl (fun i hi => (o4 i (by omega)).1 hi) (Option.some.inj h).symm
    intro i hi
    by_cases q : i < n
    · rw [if_pos q]
      exact r2 i q
    · rw [if_neg q]
      exact ((o4 i hi).2 (by omega)).symm
