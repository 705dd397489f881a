/-! the walls of both are alike, and stay so -/
def Rw (M : SMem) : Prop := (∀ p : Nat, p < 12 → M 64 p 0 = M 22 0 p ∧ M 64 p 1 = M 23 0 p ∧ M 64 p 2 = M 24 0 p ∧ M 64 p 3 = M 25 0 p ∧ M 64 p 4 = M 26 0 p ∧ M 64 p 5 = M 27 0 p) ∧ (∀ p l : Nat, p < 12 → l < 6 → M 91 p l = M 28 0 (6 * p + l) ∧ M 92 p l = M 29 0 (6 * p + l) ∧ M 93 p l = M 30 0 (6 * p + l) ∧ M 94 p l = M 31 0 (6 * p + l)) ∧ (∀ p l k : Nat, p < 12 → l < 6 → k < 8 → M 32 0 (8 * (6 * p + l) + k) = wTv (M 95 p) (8 * l + k)) ∧ (∀ p : Nat, p < 12 → M 22 0 p = 0 → M 27 0 p = 0) ∧ (∀ p l : Nat, p < 12 → l < 6 → (l : Int) < M 27 0 p → l % 2 = 1 → M 30 0 (6 * p + l) = -1) ∧ ∀ p l k : Nat, p < 12 → l < 6 → k < 8 → (k : Int) < M 94 p l → (97 ≤ M 95 p (8 * l + k) ∧ M 95 p (8 * l + k) ≤ 122) ∨ M 95 p (8 * l + k) = 46
def lWr : List Nat := [22, 23, 24, 25, 26, 27, 28, 29, 30, 31, 32, 64, 91, 92, 93, 94, 95]
theorem Rw_congr {M M' : SMem} (h : ∀ f, f ∈ lWr → M' f = M f) (hr : Rw M) : Rw M' := by
  unfold Rw
  rw [h 22 (by decide), h 23 (by decide), h 24 (by decide), h 25 (by decide), h 26 (by decide), h 27 (by decide), h 28 (by decide), h 29 (by decide), h 30 (by decide), h 31 (by decide), h 32 (by decide), h 64 (by decide), h 91 (by decide), h 92 (by decide), h 93 (by decide), h 94 (by decide), h 95 (by decide)]
  exact hr
theorem sX_congr {M M' : SMem} (h1 : M' 29 = M 29) (h2 : M' 27 = M 27) (h3 : M' 50 = M 50) (hr : sX M) : sX M' := by
  unfold sX
  rw [h1, h2, h3]
  exact hr
theorem Rw_tell {M : SMem} {p : Nat} {s hh o g : Int} (hr : Rw M) : Rw (wTellM (wTell M p s hh o g) p s hh o g) := by
  obtain ⟨r1, r2, r3, r4, r5, r6⟩ := hr
  refine ⟨fun q hq => ?_, fun q l hq hl => ?_, fun q l k hq hl hk => ?_, fun q hq => ?_, fun q l hq hl => ?_, fun q l k hq hl hk => ?_⟩
  · obtain ⟨a1, a2, a3, a4, a5, a6⟩ := r1 q hq
    by_cases e : q = p
    · subst e
      simp [wTellM, wTell, supd]
    · simp [wTellM, wTell, supd, e, a1, a2, a3, a4, a5, a6]
  · simpa [wTellM, wTell, supd] using r2 q l hq hl
  · have e : wTellM (wTell M p s hh o g) p s hh o g 95 q = M 95 q := by
      funext i
      simp [wTellM, wTell, supd]
    rw [e]
    simpa [wTellM, wTell, supd] using r3 q l k hq hl hk
  · have := r4 q hq
    by_cases e : q = p
    · subst e
      simp [wTellM, wTell, supd]
    · simpa [wTellM, wTell, supd, e] using this
  · have := r5 q l hq hl
    by_cases e : q = p
    · subst e
      intro z
      simp [wTellM, wTell, supd] at z
      omega
    · simpa [wTellM, wTell, supd, e] using this
  · simpa [wTellM, wTell, supd] using r6 q l k hq hl hk
theorem sX_tell {M : SMem} {p : Nat} {s hh o g : Int} (hr : sX M) : sX (wTellM (wTell M p s hh o g) p s hh o g) := by
  obtain ⟨r1, r2, r3⟩ := hr
  refine ⟨fun i => ?_, fun q k h1 h2 => ?_, fun q => ?_⟩
  · simpa [wTellM, wTell, supd] using r1 i
  · have := r2 q k h1 h2
    by_cases e : q = p
    · subst e
      intro z
      simp [wTellM, wTell, supd] at z
      omega
    · simpa [wTellM, wTell, supd, e] using this
  · simpa [wTellM, wTell, supd] using r3 q
theorem Rw_add {M : SMem} {p sz : Nat} {hd dv n : Int} (hp9 : p < 12) (h6 : sz < 6) (ht : M 22 0 p ≠ 0) (hs : M 27 0 p = (sz : Int)) (ho : sz % 2 = 1 → n = -1) (hr : Rw M) : Rw (wAddM (wAddL M p sz hd dv n) p sz hd dv n) := by
  obtain ⟨r1, r2, r3, r4, r5, r6⟩ := hr
  have ne : ∀ q l, l < 6 → ¬ (q = p ∧ l = sz) → 6 * q + l ≠ 6 * p + sz := fun q l hl h => by omega
  refine ⟨fun q hq => ?_, fun q l hq hl => ?_, fun q l k hq hl hk => ?_, fun q hq => ?_, fun q l hq hl => ?_, fun q l k hq hl hk => ?_⟩
  · obtain ⟨a1, a2, a3, a4, a5, a6⟩ := r1 q hq
    by_cases e : q = p
    · subst e
      simp [wAddM, wAddL, supd, a1, a2, a3, a4, a5]
    · simp [wAddM, wAddL, supd, e, a1, a2, a3, a4, a5, a6]
  · obtain ⟨a1, a2, a3, a4⟩ := r2 q l hq hl
    by_cases e : q = p ∧ l = sz
    · obtain ⟨rfl, rfl⟩ := e
      simp [wAddM, wAddL, supd]
    · have e2 := ne q l hl e
      simp [wAddM, wAddL, supd, e, e2, a1, a2, a3, a4]
  · have e : wAddM (wAddL M p sz hd dv n) p sz hd dv n 95 q = M 95 q := by
      funext i
      simp [wAddM, wAddL, supd]
    rw [e]
    simpa [wAddM, wAddL, supd] using r3 q l k hq hl hk
  · have := r4 q hq
    by_cases e : q = p
    · subst e
      intro z
      simp [wAddM, wAddL, supd] at z
      exact absurd z ht
    · simpa [wAddM, wAddL, supd, e] using this
  · by_cases e : q = p ∧ l = sz
    · obtain ⟨rfl, rfl⟩ := e
      intro _ z
      simp [wAddM, wAddL, supd, ho z]
    · have e2 := ne q l hl e
      intro z1 z2
      have z3 : (l : Int) < M 27 0 q := by
        by_cases e3 : q = p
        · subst e3
          simp [wAddM, wAddL, supd] at z1
          omega
        · simpa [wAddM, wAddL, supd, e3] using z1
      have := r5 q l hq hl z3 z2
      simpa [wAddM, wAddL, supd, e2] using this
  · intro z
    have z2 : (k : Int) < M 94 q l := by
      by_cases e : q = p ∧ l = sz
      · obtain ⟨rfl, rfl⟩ := e
        simp [wAddM, wAddL, supd] at z
        omega
      · simpa [wAddM, wAddL, supd, e] using z
    simpa [wAddM, wAddL, supd] using r6 q l k hq hl hk z2
theorem sX_add {M : SMem} {p sz : Nat} {hd dv n : Int} (h6 : sz < 6) (hs : M 27 0 p = (sz : Int)) (hv : sD1 sz dv) (h0 : 1 ≤ sz → dv ≠ 0) (hr : sX M) : sX (wAddM (wAddL M p sz hd dv n) p sz hd dv n) := by
  obtain ⟨r1, r2, r3⟩ := hr
  refine ⟨fun i => ?_, fun q k h1 h2 z => ?_, fun q => ?_⟩
  · by_cases e : i = 6 * p + sz
    · subst e
      rw [show (6 * p + sz) % 6 = sz by omega]
      simpa [wAddM, wAddL, supd] using hv
    · simpa [wAddM, wAddL, supd, e] using r1 i
  · by_cases e : q = p ∧ k = sz
    · obtain ⟨rfl, rfl⟩ := e
      simpa [wAddM, wAddL, supd] using h0 h1
    · have e2 : 6 * q + k ≠ 6 * p + sz := by omega
      have z3 : (k : Int) < M 27 0 q := by
        by_cases e3 : q = p
        · subst e3
          simp [wAddM, wAddL, supd] at z
          omega
        · simpa [wAddM, wAddL, supd, e3] using z
      simpa [wAddM, wAddL, supd, e2] using r2 q k h1 h2 z3
  · simpa [wAddM, wAddL, supd] using r3 q
theorem Rw_rem {M : SMem} {p sz : Nat} (hp9 : p < 12) (h0 : 0 < sz) (h6 : sz ≤ 6) (hs : M 27 0 p = (sz : Int)) (hr : Rw M) : Rw (wRemM (wRem M p sz) p sz) := by
  obtain ⟨r1, r2, r3, r4, r5, r6⟩ := hr
  have ne : ∀ q l, l < 6 → 2 ≤ sz → ¬ (q = p ∧ l = sz - 2) → 6 * q + l ≠ 6 * p + (sz - 1) - 1 := fun q l hl h2 h => by omega
  have ev : ∀ f j i, f ≠ 64 → f ≠ 27 → f ≠ 94 → f ≠ 31 → wRemM (wRem M p sz) p sz f j i = M f j i := fun f j i z1 z2 z3 z4 => by
    unfold wRemM wRem
    by_cases e : sz = 1
    · simp [e, supd, z1, z2]
    · simp [e, supd, z1, z2, z3, z4]
  have e64 : ∀ q i, wRemM (wRem M p sz) p sz 64 q i = if q = p ∧ i = 5 then (sz : Int) - 1 else M 64 q i := fun q i => by
    unfold wRemM wRem
    by_cases e : sz = 1 <;> simp [e, supd]
  have e27 : ∀ q, wRemM (wRem M p sz) p sz 27 0 q = if q = p then (sz : Int) - 1 else M 27 0 q := fun q => by
    unfold wRemM wRem
    by_cases e : sz = 1 <;> simp [e, supd]
  have e94 : ∀ q i, wRemM (wRem M p sz) p sz 94 q i = if q = p ∧ i = sz - 2 ∧ 2 ≤ sz then 0 else M 94 q i := fun q i => by
    unfold wRemM wRem
    by_cases e : sz = 1
    · simp [e, supd]
    · have : 2 ≤ sz := by omega
      simp [e, supd, this]
  have e31 : ∀ i, wRemM (wRem M p sz) p sz 31 0 i = if i = 6 * p + (sz - 1) - 1 ∧ 2 ≤ sz then 0 else M 31 0 i := fun i => by
    unfold wRemM wRem
    by_cases e : sz = 1
    · simp [e, supd]
    · have : 2 ≤ sz := by omega
      simp [e, supd, this]
  generalize wRemM (wRem M p sz) p sz = N at *
  refine ⟨fun q hq => ?_, fun q l hq hl => ?_, fun q l k hq hl hk => ?_, fun q hq => ?_, fun q l hq hl => ?_, fun q l k hq hl hk => ?_⟩
  · obtain ⟨a1, a2, a3, a4, a5, a6⟩ := r1 q hq
    rw [e64, e64, e64, e64, e64, e64, e27, ev 22 0 q (by decide) (by decide) (by decide) (by decide), ev 23 0 q (by decide) (by decide) (by decide) (by decide), ev 24 0 q (by decide) (by decide) (by decide) (by decide), ev 25 0 q (by decide) (by decide) (by decide) (by decide), ev 26 0 q (by decide) (by decide) (by decide) (by decide)]
    by_cases e : q = p
    · simp [e]
      rw [← e]
      exact ⟨a1, a2, a3, a4, a5⟩
    · simp [e]
      exact ⟨a1, a2, a3, a4, a5, a6⟩
  · obtain ⟨a1, a2, a3, a4⟩ := r2 q l hq hl
    rw [ev 91 q l (by decide) (by decide) (by decide) (by decide), ev 92 q l (by decide) (by decide) (by decide) (by decide), ev 93 q l (by decide) (by decide) (by decide) (by decide), ev 28 0 _ (by decide) (by decide) (by decide) (by decide), ev 29 0 _ (by decide) (by decide) (by decide) (by decide), ev 30 0 _ (by decide) (by decide) (by decide) (by decide), e94, e31]
    refine ⟨a1, a2, a3, ?_⟩
    by_cases e : q = p ∧ l = sz - 2 ∧ 2 ≤ sz
    · rw [if_pos e, if_pos (by omega)]
    · rw [if_neg e, if_neg (by omega), a4]
  · have e : N 95 q = M 95 q := by
      funext i
      exact ev 95 q i (by decide) (by decide) (by decide) (by decide)
    rw [e, ev 32 0 _ (by decide) (by decide) (by decide) (by decide)]
    exact r3 q l k hq hl hk
  · have := r4 q hq
    rw [ev 22 0 q (by decide) (by decide) (by decide) (by decide), e27]
    intro z
    have z2 := this z
    by_cases e : q = p
    · subst e
      omega
    · rw [if_neg e, z2]
  · rw [ev 30 0 _ (by decide) (by decide) (by decide) (by decide), e27]
    intro z1 z2
    refine r5 q l hq hl ?_ z2
    by_cases e : q = p
    · rw [if_pos e] at z1
      subst e
      omega
    · rw [if_neg e] at z1
      exact z1
  · rw [ev 95 q _ (by decide) (by decide) (by decide) (by decide), e94]
    intro z
    refine r6 q l k hq hl hk ?_
    by_cases e : q = p ∧ l = sz - 2 ∧ 2 ≤ sz
    · rw [if_pos e] at z
      omega
    · rw [if_neg e] at z
      exact z
theorem sX_rem {M : SMem} {p sz : Nat} (h0 : 0 < sz) (hs : M 27 0 p = (sz : Int)) (hr : sX M) : sX (wRemM (wRem M p sz) p sz) := by
  obtain ⟨r1, r2, r3⟩ := hr
  have ev : ∀ f j i, f ≠ 64 → f ≠ 27 → f ≠ 94 → f ≠ 31 → wRemM (wRem M p sz) p sz f j i = M f j i := fun f j i z1 z2 z3 z4 => by
    unfold wRemM wRem
    by_cases e : sz = 1
    · simp [e, supd, z1, z2]
    · simp [e, supd, z1, z2, z3, z4]
  have e27 : ∀ q, wRemM (wRem M p sz) p sz 27 0 q = if q = p then (sz : Int) - 1 else M 27 0 q := fun q => by
    unfold wRemM wRem
    by_cases e : sz = 1 <;> simp [e, supd]
  generalize wRemM (wRem M p sz) p sz = N at *
  refine ⟨fun i => ?_, fun q k h1 h2 z => ?_, fun q => ?_⟩
  · rw [ev 29 0 i (by decide) (by decide) (by decide) (by decide)]
    exact r1 i
  · rw [ev 29 0 _ (by decide) (by decide) (by decide) (by decide)]
    refine r2 q k h1 h2 ?_
    rw [e27] at z
    by_cases e : q = p
    · rw [if_pos e] at z
      subst e
      omega
    · rw [if_neg e] at z
      exact z
  · rw [ev 50 0 _ (by decide) (by decide) (by decide) (by decide)]
    exact r3 q
theorem wTv_eq {A B : Nat → Int} {k l : Nat} (h : A k = B l) : wTv A k = wTv B l := by
  unfold wTv
  rw [h]
theorem Rw_tr {M : SMem} {p l fr len : Nat} (hp9 : p < 12) (hl6 : l < 6) (hlen : len ≤ 8) (hT : M 57 0 = M 12 0) (ht : ∀ k, k < len → (97 ≤ M 57 0 (fr + k) ∧ M 57 0 (fr + k) ≤ 122) ∨ M 57 0 (fr + k) = 46) (hr : Rw M) : Rw (wTrM (wTr M p l fr len len) (6 * p + l) fr len len) := by
  obtain ⟨r1, r2, r3, r4, r5, r6⟩ := hr
  have ne : ∀ q m, m < 6 → ¬ (q = p ∧ m = l) → 6 * q + m ≠ 6 * p + l := fun q m hl h => by omega
  have ev : ∀ f j i, f ≠ 95 → f ≠ 94 → f ≠ 32 → f ≠ 31 → wTrM (wTr M p l fr len len) (6 * p + l) fr len len f j i = M f j i := fun f j i z1 z2 z3 z4 => by
    unfold wTrM wTr
    simp [z1, z2, z3, z4]
  have e94 : ∀ q i, wTrM (wTr M p l fr len len) (6 * p + l) fr len len 94 q i = if q = p ∧ i = l then (len : Int) else M 94 q i := fun q i => by
    unfold wTrM wTr
    simp
  have e31 : ∀ i, wTrM (wTr M p l fr len len) (6 * p + l) fr len len 31 0 i = if i = 6 * p + l then (len : Int) else M 31 0 i := fun i => by
    unfold wTrM wTr
    simp
  have e95 : ∀ q i, wTrM (wTr M p l fr len len) (6 * p + l) fr len len 95 q i = if q = p ∧ 8 * l ≤ i ∧ i < 8 * l + len then M 57 0 (fr + (i - 8 * l)) else M 95 q i := fun q i => by
    unfold wTrM wTr
    simp
  have e12 : wTr M p l fr len len 12 0 = M 12 0 := by
    funext i
    unfold wTr
    simp
  have e32 : ∀ i, wTrM (wTr M p l fr len len) (6 * p + l) fr len len 32 0 i = if 8 * (6 * p + l) ≤ i ∧ i < 8 * (6 * p + l) + len then wTv (M 12 0) (fr + (i - 8 * (6 * p + l))) else M 32 0 i := fun i => by
    unfold wTrM
    rw [e12]
    unfold wTr
    simp
  generalize wTrM (wTr M p l fr len len) (6 * p + l) fr len len = N at *
  refine ⟨fun q hq => ?_, fun q m hq hm => ?_, fun q m k hq hm hk => ?_, fun q hq => ?_, fun q m hq hm => ?_, fun q m k hq hm hk => ?_⟩
  · have := r1 q hq
    simpa [ev] using this
  · obtain ⟨a1, a2, a3, a4⟩ := r2 q m hq hm
    rw [ev 91 q m (by decide) (by decide) (by decide) (by decide), ev 92 q m (by decide) (by decide) (by decide) (by decide), ev 93 q m (by decide) (by decide) (by decide) (by decide), ev 28 0 _ (by decide) (by decide) (by decide) (by decide), ev 29 0 _ (by decide) (by decide) (by decide) (by decide), ev 30 0 _ (by decide) (by decide) (by decide) (by decide), e94, e31]
    refine ⟨a1, a2, a3, ?_⟩
    by_cases e : q = p ∧ m = l
    · rw [if_pos e, if_pos (by omega)]
    · rw [if_neg e, if_neg (ne q m hm e), a4]
  · rw [e32]
    by_cases e : q = p ∧ m = l ∧ k < len
    · obtain ⟨rfl, rfl, e3⟩ := e
      rw [if_pos (by omega)]
      exact wTv_eq (by rw [e95, if_pos (by omega), show fr + (8 * (6 * q + m) + k - 8 * (6 * q + m)) = fr + k by omega, show fr + (8 * m + k - 8 * m) = fr + k by omega, hT])
    · rw [if_neg (by omega), r3 q m k hq hm hk]
      exact wTv_eq (by rw [e95, if_neg (by omega)])
  · have := r4 q hq
    simpa [ev] using this
  · have := r5 q m hq hm
    simpa [ev] using this
  · rw [e94, e95]
    intro z
    by_cases e : q = p ∧ m = l
    · obtain ⟨rfl, rfl⟩ := e
      rw [if_pos ⟨rfl, rfl⟩] at z
      rw [if_pos (by omega), show fr + (8 * m + k - 8 * m) = fr + k by omega]
      exact ht k (by omega)
    · rw [if_neg e] at z
      rw [if_neg (by omega)]
      exact r6 q m k hq hm hk z
theorem sX_tr {M : SMem} {p l fr len : Nat} (hr : sX M) : sX (wTrM (wTr M p l fr len len) (6 * p + l) fr len len) := by
  have ev : ∀ f, f ≠ 95 → f ≠ 94 → f ≠ 32 → f ≠ 31 → wTrM (wTr M p l fr len len) (6 * p + l) fr len len f = M f := fun f z1 z2 z3 z4 => by
    funext j i
    unfold wTrM wTr
    simp [z1, z2, z3, z4]
  exact sX_congr (ev 29 (by decide) (by decide) (by decide) (by decide)) (ev 27 (by decide) (by decide) (by decide) (by decide)) (ev 50 (by decide) (by decide) (by decide) (by decide)) hr
