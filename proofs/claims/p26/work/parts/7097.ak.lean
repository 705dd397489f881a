/-! what the methods do: names that are alike -/
def wAk (A B : Nat → Int) (s t : Nat) : Prop := (s = t ∧ ∃ k, k < s ∧ A k ≠ B k ∧ ∀ i, i < s → i ≠ k → A i = B i) ∨ (s = t + 1 ∧ ∃ k, k ≤ t ∧ (∀ i, i < k → B i = A i) ∧ ∀ i, k ≤ i → i < t → B i = A (i + 1)) ∨ (t = s + 1 ∧ ∃ k, k ≤ s ∧ (∀ i, i < k → A i = B i) ∧ ∀ i, k ≤ i → i < s → A i = B (i + 1))
/-- p alike at the head, q alike at the end: one letter is left -/
theorem wAk_iff {A B : Nat → Int} {s t p q : Nat} (hp : p ≤ s ∧ p ≤ t) (hq : p + q ≤ s ∧ p + q ≤ t) (h1 : ∀ i, i < p → A i = B i) (h2 : p = s ∨ p = t ∨ A p ≠ B p) (h3 : ∀ j, j < q → A (s - 1 - j) = B (t - 1 - j)) (h4 : p + q = s ∨ p + q = t ∨ A (s - 1 - q) ≠ B (t - 1 - q)) : (s = p + q + 1 ∧ t ≤ s ∨ t = p + q + 1 ∧ s ≤ t) ↔ wAk A B s t := by
  have h3' : ∀ i, s - q ≤ i → i < s → A i = B (t - (s - i)) := fun i a b => by
    have := h3 (s - 1 - i) (by omega)
    rw [show s - 1 - (s - 1 - i) = i by omega, show t - 1 - (s - 1 - i) = t - (s - i) by omega] at this
    exact this
  constructor
  · intro h
    by_cases est : s = t
    · subst est
      refine Or.inl ⟨rfl, p, by omega, ?_, fun i a b => ?_⟩
      · rcases h2 with h2 | h2 | h2
        · omega
        · omega
        · exact h2
      · by_cases hi : i < p
        · exact h1 i hi
        · have := h3' i (by omega) a
          rw [show s - (s - i) = i by omega] at this
          exact this
    · by_cases es : s = t + 1
      · refine Or.inr (Or.inl ⟨es, p, by omega, fun i a => (h1 i a).symm, fun i a b => ?_⟩)
        have := h3' (i + 1) (by omega) (by omega)
        rw [show t - (s - (i + 1)) = i by omega] at this
        exact this.symm
      · by_cases et : t = s + 1
        · refine Or.inr (Or.inr ⟨et, p, by omega, fun i a => h1 i a, fun i a b => ?_⟩)
          have := h3' i (by omega) b
          rw [show t - (s - i) = i + 1 by omega] at this
          exact this
        · omega
  · intro h
    rcases h with ⟨rfl, k, a1, a2, a3⟩ | ⟨rfl, k, a1, a2, a3⟩ | ⟨rfl, k, a1, a2, a3⟩
    · have ek : p = k := by
        by_cases c : p < k
        · rcases h2 with h2 | h2 | h2
          · omega
          · omega
          · exact absurd (a3 p (by omega) (by omega)) h2
        · by_cases c2 : k < p
          · exact absurd (h1 k c2) a2
          · omega
      subst ek
      have eq : p + q + 1 = s := by
        by_cases c : p + q + 1 = s
        · exact c
        · have c2 : p + q < s := by
            by_cases c3 : p + q < s
            · exact c3
            · have := h3' p (by omega) (by omega)
              rw [show s - (s - p) = p by omega] at this
              exact absurd this a2
          rcases h4 with h4 | h4 | h4
          · omega
          · omega
          · exact absurd (a3 (s - 1 - q) (by omega) (by omega)) h4
      omega
    · have ep : k ≤ p := by
        by_cases c : k ≤ p
        · exact c
        · rcases h2 with h2 | h2 | h2
          · omega
          · omega
          · exact absurd (a2 p (by omega)).symm h2
      have eq : p + q = t := by
        by_cases c : p + q = t
        · exact c
        · rcases h4 with h4 | h4 | h4
          · omega
          · omega
          · have := a3 (t - 1 - q) (by omega) (by omega)
            rw [show t - 1 - q + 1 = t + 1 - 1 - q by omega] at this
            exact absurd this.symm h4
      omega
    · have ep : k ≤ p := by
        by_cases c : k ≤ p
        · exact c
        · rcases h2 with h2 | h2 | h2
          · omega
          · omega
          · exact absurd (a2 p (by omega)) h2
      have eq : p + q = s := by
        by_cases c : p + q = s
        · exact c
        · rcases h4 with h4 | h4 | h4
          · omega
          · omega
          · have := a3 (s - 1 - q) (by omega) (by omega)
            rw [show s - 1 - q + 1 = s + 1 - 1 - q by omega] at this
            exact absurd this h4
      omega
section CAK
variable {EX : SEx} {l : Launch} {dC : Nat → ClassId} {dI : Nat → Nat → Nat} {cA : Nat → ClassId} {ad : SAd} {scrS d : Nat}
theorem b_areAlike (hp : cPl tm tc tf EX) {a b s t : Nat} {M : SMem} (ha : a < 8) (hb : b < 8) (hs : M 61 0 a = (s : Int)) (ht : M 61 0 b = (t : Int)) (h8 : s ≤ 8 ∧ t ≤ 8) : cBG tm tf EX l dC dI cA ad scrS (d + 1) kX2_areAlike [(2, 4, 0), (0, 0, (a : Int)), (0, 0, (b : Int))] M (fun rr MM => MM = M ∧ ((rr = [1] ∧ wAk (fun i => M 63 0 (8 * a + i)) (fun i => M 63 0 (8 * b + i)) s t) ∨ (rr = [0] ∧ ¬ wAk (fun i => M 63 0 (8 * a + i)) (fun i => M 63 0 (8 * b + i)) s t))) := by
  refine cMeth (v := [(a : Int), (b : Int)]) (Fd := 60) hp (by decide) gX2_areAlike_ok gX2_areAlike_m0 (by simp [cAs, cE2, sev, svl, cen]) ?_
  obtain ⟨sh, hsh⟩ : ∃ sh : Nat, sh = min s t := ⟨_, rfl⟩
  obtain ⟨lo, hlo⟩ : ∃ lo : Nat, lo = max s t := ⟨_, rfl⟩
  have loop2 : ∀ (m p q : Nat), p + q + m = sh → (∀ i, i < p → M 63 0 (8 * a + i) = M 63 0 (8 * b + i)) → (p = s ∨ p = t ∨ M 63 0 (8 * a + p) ≠ M 63 0 (8 * b + p)) → (∀ j, j < q → M 63 0 (8 * a + (s - 1 - j)) = M 63 0 (8 * b + (t - 1 - j))) → cEnds (cBG tm tf EX l dC dI cA ad scrS d) (fun rr MM => MM = M ∧ ((rr = [1] ∧ wAk (fun i => M 63 0 (8 * a + i)) (fun i => M 63 0 (8 * b + i)) s t) ∨ (rr = [0] ∧ ¬ wAk (fun i => M 63 0 (8 * a + i)) (fun i => M 63 0 (8 * b + i)) s t))) 60 gX2_areAlike 108 [(sh : Int), (lo : Int), (p : Int), 8 * (a : Int) + s - 1, 8 * (b : Int) + t - 1, (q : Int)] M := by
    intro m
    have fin : ∀ (p q k : Nat) (v : List Int) (r : List CN), p + q ≤ sh → (∀ i, i < p → M 63 0 (8 * a + i) = M 63 0 (8 * b + i)) → (p = s ∨ p = t ∨ M 63 0 (8 * a + p) ≠ M 63 0 (8 * b + p)) → (∀ j, j < q → M 63 0 (8 * a + (s - 1 - j)) = M 63 0 (8 * b + (t - 1 - j))) → (p + q = s ∨ p + q = t ∨ M 63 0 (8 * a + (s - 1 - q)) ≠ M 63 0 (8 * b + (t - 1 - q))) → ∀ b9 : Nat, cen v 1 = (lo : Int) → cen v 2 = (p : Int) → cen v 5 = (q : Int) → cden (cBG tm tf EX l dC dI cA ad scrS d) (fun rr MM => MM = M ∧ ((rr = [1] ∧ wAk (fun i => M 63 0 (8 * a + i)) (fun i => M 63 0 (8 * b + i)) s t) ∨ (rr = [0] ∧ ¬ wAk (fun i => M 63 0 (8 * a + i)) (fun i => M 63 0 (8 * b + i)) s t))) (cEnds (cBG tm tf EX l dC dI cA ad scrS d) (fun rr MM => MM = M ∧ ((rr = [1] ∧ wAk (fun i => M 63 0 (8 * a + i)) (fun i => M 63 0 (8 * b + i)) s t) ∨ (rr = [0] ∧ ¬ wAk (fun i => M 63 0 (8 * a + i)) (fun i => M 63 0 (8 * b + i)) s t))) 60 gX2_areAlike) (k + 6) ((6, 0, 0, [(0, 0, (0, [(1, 1), (2, -1)]))]) :: (6, 0, 0, [(0, 0, (0, [(1, 1), (2, -1), (5, -1)]))]) :: (4, 1, 1, [(0, 0, (-1, [(1, 1), (2, -1), (5, -1)]))]) :: (10, 1, 0, [(0, 0, (0, []))]) :: (10, 1, 0, [(0, 0, (1, []))]) :: r) v M := by
      intro p q k v r hpq h1 h2 h3 h4 b9 v1 v2 v5
      have hi := wAk_iff (A := fun i => M 63 0 (8 * a + i)) (B := fun i => M 63 0 (8 * b + i)) (s := s) (t := t) (p := p) (q := q) (by omega) (by omega) h1 h2 h3 h4
      refine d_rng (by simp only [clo, chi, cE2, sev, svl, v1, v2, v5]; omega) ?_
      refine d_rng (by simp only [clo, chi, cE2, sev, svl, v1, v2, v5]; omega) ?_
      refine d_br (fun h => ?_) (fun h => ?_)
      · simp only [cCmp, cE2, sev, svl, v1, v2, v5] at h
        exact d_ret [0] rfl (by decide) ⟨rfl, Or.inr ⟨rfl, fun z => by have := hi.mpr z; omega⟩⟩
      · simp only [cCmp, cE2, sev, svl, v1, v2, v5] at h
        exact d_ret [1] rfl (by decide) ⟨rfl, Or.inl ⟨rfl, hi.mp (by omega)⟩⟩
    induction m with
    | zero =>
      intro p q hm h1 h2 h3
      refine cEnds_at gX2_areAlike_m108 rfl ?_
      refine d_rng (by simp only [clo, chi, cE2, sev, svl, cen, List.cons_append, List.nil_append]; omega) ?_
      refine d_br (fun h => ?_) (fun h => ?_)
      · exact fin p q _ _ _ (by omega) h1 h2 h3 (by omega) 0 rfl rfl rfl
      · simp only [cCmp, cE2, sev, svl, cen, List.cons_append, List.nil_append] at h
        omega
    | succ m ih =>
      intro p q hm h1 h2 h3
      refine cEnds_at gX2_areAlike_m108 rfl ?_
      refine d_rng (by simp only [clo, chi, cE2, sev, svl, cen, List.cons_append, List.nil_append]; omega) ?_
      refine d_br (fun h => ?_) (fun h => ?_)
      · simp only [cCmp, cE2, sev, svl, cen, List.cons_append, List.nil_append] at h
        omega
      · refine d_rng (by simp only [clo, chi, cE2, sev, svl, cen, List.cons_append, List.nil_append]; omega) ?_
        refine d_row 0 (8 * a + (s - 1 - q)) (by simp only [cE2, sev, svl, cen, List.cons_append, List.nil_append]; omega) (by simp only [cE2, sev, svl, cen, List.cons_append, List.nil_append]; omega) (by omega) ?_
        refine d_rng (by simp only [clo, chi, cE2, sev, svl, cen, List.cons_append, List.nil_append]; omega) ?_
        refine d_row 0 (8 * b + (t - 1 - q)) (by simp only [cE2, sev, svl, cen, List.cons_append, List.nil_append]; omega) (by simp only [cE2, sev, svl, cen, List.cons_append, List.nil_append]; omega) (by omega) ?_
        refine d_br (fun h => ?_) (fun h => ?_)
        · simp only [cCmp, cE2, sev, svl, cen, List.cons_append, List.nil_append] at h
          exact fin p q _ _ _ (by omega) h1 h2 h3 (Or.inr (Or.inr (by omega))) 0 rfl rfl rfl
        · simp only [cCmp, cE2, sev, svl, cen, List.cons_append, List.nil_append] at h
          refine d_rng (by simp only [clo, chi, cE2, sev, svl, cen, List.cons_append, List.nil_append]; omega) ?_
          refine d_cut [(sh : Int), (lo : Int), (p : Int), 8 * (a : Int) + s - 1, 8 * (b : Int) + t - 1, ((q + 1 : Nat) : Int)] (by simp [cE2, sev, svl, cen] <;> omega) ?_
          refine ih p (q + 1) (by omega) h1 h2 (fun j hj => ?_)
          by_cases hjq : j = q
          · rw [hjq]
            omega
          · exact h3 j (by omega)
  have loop1 : ∀ (m p : Nat), p + m = sh → (∀ i, i < p → M 63 0 (8 * a + i) = M 63 0 (8 * b + i)) → cEnds (cBG tm tf EX l dC dI cA ad scrS d) (fun rr MM => MM = M ∧ ((rr = [1] ∧ wAk (fun i => M 63 0 (8 * a + i)) (fun i => M 63 0 (8 * b + i)) s t) ∨ (rr = [0] ∧ ¬ wAk (fun i => M 63 0 (8 * a + i)) (fun i => M 63 0 (8 * b + i)) s t))) 60 gX2_areAlike 36 [(a : Int), (b : Int), (sh : Int), (lo : Int), (p : Int)] M := by
    intro m
    induction m with
    | zero =>
      intro p hm h1
      refine cEnds_at gX2_areAlike_m36 rfl ?_
      refine d_br (fun h => ?_) (fun h => ?_)
      · refine d_rng (by simp only [clo, chi, cE2, sev, svl, cen, List.cons_append, List.nil_append]; omega) ?_
        refine d_row 0 a (by simp only [cE2, sev, svl, cen, List.cons_append, List.nil_append]; omega) (by simp only [cE2, sev, svl, cen, List.cons_append, List.nil_append]; omega) ha ?_
        rw [hs]
        refine d_rng (by simp only [clo, chi, cE2, sev, svl, cen, List.cons_append, List.nil_append]; omega) ?_
        refine d_rng (by simp only [clo, chi, cE2, sev, svl, cen, List.cons_append, List.nil_append]; omega) ?_
        refine d_rng (by simp only [clo, chi, cE2, sev, svl, cen, List.cons_append, List.nil_append]; omega) ?_
        refine d_row 0 b (by simp only [cE2, sev, svl, cen, List.cons_append, List.nil_append]; omega) (by simp only [cE2, sev, svl, cen, List.cons_append, List.nil_append]; omega) hb ?_
        rw [ht]
        refine d_rng (by simp only [clo, chi, cE2, sev, svl, cen, List.cons_append, List.nil_append]; omega) ?_
        refine d_rng (by simp only [clo, chi, cE2, sev, svl, cen, List.cons_append, List.nil_append]; omega) ?_
        refine d_cut [(sh : Int), (lo : Int), (p : Int), 8 * (a : Int) + s - 1, 8 * (b : Int) + t - 1, ((0 : Nat) : Int)] (by simp [cE2, sev, svl, cen] <;> omega) ?_
        exact loop2 (sh - p) p 0 (by omega) h1 (by omega) (fun j hj => by omega)
      · simp only [cCmp, cE2, sev, svl, cen, List.cons_append, List.nil_append] at h
        omega
    | succ m ih =>
      intro p hm h1
      refine cEnds_at gX2_areAlike_m36 rfl ?_
      refine d_br (fun h => ?_) (fun h => ?_)
      · simp only [cCmp, cE2, sev, svl, cen, List.cons_append, List.nil_append] at h
        omega
      · refine d_rng (by simp only [clo, chi, cE2, sev, svl, cen, List.cons_append, List.nil_append]; omega) ?_
        refine d_rng (by simp only [clo, chi, cE2, sev, svl, cen, List.cons_append, List.nil_append]; omega) ?_
        refine d_row 0 (8 * a + p) (by simp only [cE2, sev, svl, cen, List.cons_append, List.nil_append]; omega) (by simp only [cE2, sev, svl, cen, List.cons_append, List.nil_append]; omega) (by omega) ?_
        refine d_rng (by simp only [clo, chi, cE2, sev, svl, cen, List.cons_append, List.nil_append]; omega) ?_
        refine d_rng (by simp only [clo, chi, cE2, sev, svl, cen, List.cons_append, List.nil_append]; omega) ?_
        refine d_row 0 (8 * b + p) (by simp only [cE2, sev, svl, cen, List.cons_append, List.nil_append]; omega) (by simp only [cE2, sev, svl, cen, List.cons_append, List.nil_append]; omega) (by omega) ?_
        refine d_br (fun h => ?_) (fun h => ?_)
        · simp only [cCmp, cE2, sev, svl, cen, List.cons_append, List.nil_append] at h
          refine d_rng (by simp only [clo, chi, cE2, sev, svl, cen, List.cons_append, List.nil_append]; omega) ?_
          refine d_row 0 a (by simp only [cE2, sev, svl, cen, List.cons_append, List.nil_append]; omega) (by simp only [cE2, sev, svl, cen, List.cons_append, List.nil_append]; omega) ha ?_
          rw [hs]
          refine d_rng (by simp only [clo, chi, cE2, sev, svl, cen, List.cons_append, List.nil_append]; omega) ?_
          refine d_rng (by simp only [clo, chi, cE2, sev, svl, cen, List.cons_append, List.nil_append]; omega) ?_
          refine d_rng (by simp only [clo, chi, cE2, sev, svl, cen, List.cons_append, List.nil_append]; omega) ?_
          refine d_row 0 b (by simp only [cE2, sev, svl, cen, List.cons_append, List.nil_append]; omega) (by simp only [cE2, sev, svl, cen, List.cons_append, List.nil_append]; omega) hb ?_
          rw [ht]
          refine d_rng (by simp only [clo, chi, cE2, sev, svl, cen, List.cons_append, List.nil_append]; omega) ?_
          refine d_rng (by simp only [clo, chi, cE2, sev, svl, cen, List.cons_append, List.nil_append]; omega) ?_
          refine d_cut [(sh : Int), (lo : Int), (p : Int), 8 * (a : Int) + s - 1, 8 * (b : Int) + t - 1, ((0 : Nat) : Int)] (by simp [cE2, sev, svl, cen] <;> omega) ?_
          exact loop2 (sh - p) p 0 (by omega) h1 (Or.inr (Or.inr (by omega))) (fun j hj => by omega)
        · simp only [cCmp, cE2, sev, svl, cen, List.cons_append, List.nil_append] at h
          refine d_rng (by simp only [clo, chi, cE2, sev, svl, cen, List.cons_append, List.nil_append]; omega) ?_
          refine d_cut [(a : Int), (b : Int), (sh : Int), (lo : Int), ((p + 1 : Nat) : Int)] (by simp [cE2, sev, svl, cen] <;> omega) ?_
          refine ih (p + 1) (by omega) (fun i hi => ?_)
          by_cases hip : i = p
          · rw [hip]
            omega
          · exact h1 i (by omega)
  refine cEnds_at gX2_areAlike_m0 rfl ?_
  refine d_row 0 a (by simp only [cE2, sev, svl, cen, List.cons_append, List.nil_append]; omega) (by simp only [cE2, sev, svl, cen, List.cons_append, List.nil_append]; omega) ha ?_
  refine d_row 0 b (by simp only [cE2, sev, svl, cen, List.cons_append, List.nil_append]; omega) (by simp only [cE2, sev, svl, cen, List.cons_append, List.nil_append]; omega) hb ?_
  rw [hs, ht]
  refine d_op (sh : Int) (by simp only [cfn, cE2, sev, svl, cen, List.cons_append, List.nil_append]; split <;> omega) ?_
  refine d_row 0 a (by simp only [cE2, sev, svl, cen, List.cons_append, List.nil_append]; omega) (by simp only [cE2, sev, svl, cen, List.cons_append, List.nil_append]; omega) ha ?_
  refine d_row 0 b (by simp only [cE2, sev, svl, cen, List.cons_append, List.nil_append]; omega) (by simp only [cE2, sev, svl, cen, List.cons_append, List.nil_append]; omega) hb ?_
  rw [hs, ht]
  refine d_op (lo : Int) (by simp only [cfn, cE2, sev, svl, cen, List.cons_append, List.nil_append]; split <;> omega) ?_
  refine d_cut [(a : Int), (b : Int), (sh : Int), (lo : Int), ((0 : Nat) : Int)] (by simp [cE2, sev, svl, cen] <;> omega) ?_
  exact loop1 sh 0 (by omega) (fun i hi => by omega)
/-- b is a without its place k -/
def wWo (A B : Nat → Int) (k t : Nat) : Prop := ∀ i, i < t → B i = (if i < k then A i else A (i + 1))
theorem m_isWithout (hp : cPl tm tc tf EX) {a b k t : Nat} {M : SMem} (ha : a < 8) (hb : b < 8) (ht : M 20 0 b = (t : Int)) (h8 : t < 8) : cBG tm tf EX l dC dI cA ad scrS (d + 1) kX10_isWithout [(2, 1, 0), (0, 0, (a : Int)), (0, 0, (k : Int)), (0, 0, (b : Int))] M (fun rr MM => MM = M ∧ ((rr = [1] ∧ wWo (fun i => M 21 0 (8 * a + i)) (fun i => M 21 0 (8 * b + i)) k t) ∨ (rr = [0] ∧ ¬ wWo (fun i => M 21 0 (8 * a + i)) (fun i => M 21 0 (8 * b + i)) k t))) := by
  refine cMeth (v := [(a : Int), (k : Int), (b : Int)]) (Fd := 60) hp (by decide) gX10_isWithout_ok gX10_isWithout_m0 (by simp [cAs, cE2, sev, svl, cen]) ?_
  have loop : ∀ (m j : Nat) (f : Int), j + m = t → ((f = 1 ∧ ∀ i, i < j → M 21 0 (8 * b + i) = (if i < k then M 21 0 (8 * a + i) else M 21 0 (8 * a + (i + 1)))) ∨ (f = 0 ∧ ¬ wWo (fun i => M 21 0 (8 * a + i)) (fun i => M 21 0 (8 * b + i)) k t)) → cEnds (cBG tm tf EX l dC dI cA ad scrS d) (fun rr MM => MM = M ∧ ((rr = [1] ∧ wWo (fun i => M 21 0 (8 * a + i)) (fun i => M 21 0 (8 * b + i)) k t) ∨ (rr = [0] ∧ ¬ wWo (fun i => M 21 0 (8 * a + i)) (fun i => M 21 0 (8 * b + i)) k t))) 60 gX10_isWithout 6 [(a : Int), (k : Int), (b : Int), f, (j : Int)] M := by
    intro m
    induction m with
    | zero =>
      intro j f hj hl
      refine cEnds_at gX10_isWithout_m6 rfl ?_
      refine d_row 0 b (by simp only [cE2, sev, svl, cen, List.cons_append, List.nil_append]; omega) (by simp only [cE2, sev, svl, cen, List.cons_append, List.nil_append]; omega) hb ?_
      rw [ht]
      refine d_br (fun h => ?_) (fun h => ?_)
      · rcases hl with ⟨rfl, hl⟩ | ⟨rfl, hl⟩
        · exact d_ret [1] rfl (by decide) ⟨rfl, Or.inl ⟨rfl, fun i hi => hl i (by omega)⟩⟩
        · exact d_ret [0] rfl (by decide) ⟨rfl, Or.inr ⟨rfl, hl⟩⟩
      · simp only [cCmp, cE2, sev, svl, cen, List.cons_append, List.nil_append] at h
        omega
    | succ m ih =>
      intro j f hj hl
      refine cEnds_at gX10_isWithout_m6 rfl ?_
      refine d_row 0 b (by simp only [cE2, sev, svl, cen, List.cons_append, List.nil_append]; omega) (by simp only [cE2, sev, svl, cen, List.cons_append, List.nil_append]; omega) hb ?_
      rw [ht]
      refine d_br (fun h => ?_) (fun h => ?_)
      · simp only [cCmp, cE2, sev, svl, cen, List.cons_append, List.nil_append] at h
        omega
      · rcases hl with ⟨rfl, hl⟩ | ⟨rfl, hl⟩
        · refine d_br (fun h => ?_) (fun h => ?_)
          · simp only [cCmp, cE2, sev, svl, cen, List.cons_append, List.nil_append] at h
            omega
          · refine d_rng (by simp only [clo, chi, cE2, sev, svl, cen, List.cons_append, List.nil_append]; omega) ?_
            refine d_rng (by simp only [clo, chi, cE2, sev, svl, cen, List.cons_append, List.nil_append]; omega) ?_
            refine d_row 0 (8 * b + j) (by simp only [cE2, sev, svl, cen, List.cons_append, List.nil_append]; omega) (by simp only [cE2, sev, svl, cen, List.cons_append, List.nil_append]; omega) (by omega) ?_
            refine d_rng (by simp only [clo, chi, cE2, sev, svl, cen, List.cons_append, List.nil_append]; omega) ?_
            refine d_br (fun h => ?_) (fun h => ?_)
            · simp only [cCmp, cE2, sev, svl, cen, List.cons_append, List.nil_append] at h
              have hjk : ¬ j < k := by omega
              refine d_rng (by simp only [clo, chi, cE2, sev, svl, cen, List.cons_append, List.nil_append]; omega) ?_
              refine d_rng (by simp only [clo, chi, cE2, sev, svl, cen, List.cons_append, List.nil_append]; omega) ?_
              refine d_row 0 (8 * a + (j + 1)) (by simp only [cE2, sev, svl, cen, List.cons_append, List.nil_append]; omega) (by simp only [cE2, sev, svl, cen, List.cons_append, List.nil_append]; omega) (by omega) ?_
              refine d_br (fun h => ?_) (fun h => ?_)
              · simp only [cCmp, cE2, sev, svl, cen, List.cons_append, List.nil_append] at h
                refine d_rng (by simp only [clo, chi, cE2, sev, svl, cen, List.cons_append, List.nil_append]; omega) ?_
                refine d_cut [(a : Int), (k : Int), (b : Int), 0, ((j + 1 : Nat) : Int)] (by simp [cE2, sev, svl, cen] <;> omega) ?_
                refine ih (j + 1) 0 (by omega) (Or.inr ⟨rfl, fun q => ?_⟩)
                have := q j (by omega)
                rw [if_neg hjk] at this
                simp only at this
                omega
              · simp only [cCmp, cE2, sev, svl, cen, List.cons_append, List.nil_append] at h
                refine d_rng (by simp only [clo, chi, cE2, sev, svl, cen, List.cons_append, List.nil_append]; omega) ?_
                refine d_cut [(a : Int), (k : Int), (b : Int), 1, ((j + 1 : Nat) : Int)] (by simp [cE2, sev, svl, cen] <;> omega) ?_
                refine ih (j + 1) 1 (by omega) (Or.inl ⟨rfl, fun i hi => ?_⟩)
                by_cases hij : i = j
                · rw [hij, if_neg hjk]
                  omega
                · exact hl i (by omega)
            · simp only [cCmp, cE2, sev, svl, cen, List.cons_append, List.nil_append] at h
              have hjk : j < k := by omega
              refine d_rng (by simp only [clo, chi, cE2, sev, svl, cen, List.cons_append, List.nil_append]; omega) ?_
              refine d_row 0 (8 * a + j) (by simp only [cE2, sev, svl, cen, List.cons_append, List.nil_append]; omega) (by simp only [cE2, sev, svl, cen, List.cons_append, List.nil_append]; omega) (by omega) ?_
              refine d_br (fun h => ?_) (fun h => ?_)
              · simp only [cCmp, cE2, sev, svl, cen, List.cons_append, List.nil_append] at h
                refine d_rng (by simp only [clo, chi, cE2, sev, svl, cen, List.cons_append, List.nil_append]; omega) ?_
                refine d_cut [(a : Int), (k : Int), (b : Int), 0, ((j + 1 : Nat) : Int)] (by simp [cE2, sev, svl, cen] <;> omega) ?_
                refine ih (j + 1) 0 (by omega) (Or.inr ⟨rfl, fun q => ?_⟩)
                have := q j (by omega)
                rw [if_pos hjk] at this
                simp only at this
                omega
              · simp only [cCmp, cE2, sev, svl, cen, List.cons_append, List.nil_append] at h
                refine d_rng (by simp only [clo, chi, cE2, sev, svl, cen, List.cons_append, List.nil_append]; omega) ?_
                refine d_cut [(a : Int), (k : Int), (b : Int), 1, ((j + 1 : Nat) : Int)] (by simp [cE2, sev, svl, cen] <;> omega) ?_
                refine ih (j + 1) 1 (by omega) (Or.inl ⟨rfl, fun i hi => ?_⟩)
                by_cases hij : i = j
                · rw [hij, if_pos hjk]
                  omega
                · exact hl i (by omega)
        · refine d_br (fun h => ?_) (fun h => ?_)
          · exact d_ret [0] rfl (by decide) ⟨rfl, Or.inr ⟨rfl, hl⟩⟩
          · simp only [cCmp, cE2, sev, svl, cen, List.cons_append, List.nil_append] at h
            omega
  refine cEnds_at gX10_isWithout_m0 rfl ?_
  refine d_cut [(a : Int), (k : Int), (b : Int), 1, ((0 : Nat) : Int)] (by simp [cE2, sev, svl, cen] <;> omega) ?_
  exact loop t 0 1 (by omega) (Or.inl ⟨rfl, fun i hi => by omega⟩)
/-- how many places differ -/
def wDf (A B : Nat → Int) : Nat → Int
  | 0 => 0
  | k + 1 => wDf A B k + (if A k = B k then 0 else 1)
theorem wDf_le (A B : Nat → Int) : ∀ k, 0 ≤ wDf A B k ∧ wDf A B k ≤ k := by
  intro k
  induction k with
  | zero => exact ⟨Int.le_refl _, Int.le_refl _⟩
  | succ k ih =>
    unfold wDf
    split <;> omega
theorem wDf_0 {A B : Nat → Int} : ∀ k, wDf A B k = 0 ↔ ∀ i, i < k → A i = B i := by
  intro k
  induction k with
  | zero => exact ⟨fun _ i hi => by omega, fun _ => rfl⟩
  | succ k ih =>
    have hb := wDf_le A B k
    unfold wDf
    constructor
    · intro h i hi
      by_cases hk : A k = B k
      · rw [if_pos hk] at h
        by_cases hik : i = k
        · rw [hik]; exact hk
        · exact ih.mp (by omega) i (by omega)
      · rw [if_neg hk] at h
        omega
    · intro h
      rw [if_pos (h k (by omega)), ih.mpr (fun i hi => h i (by omega))]
      rfl
theorem wDf_1 {A B : Nat → Int} : ∀ k, wDf A B k = 1 ↔ ∃ j, j < k ∧ A j ≠ B j ∧ ∀ i, i < k → i ≠ j → A i = B i := by
  intro k
  induction k with
  | zero => exact ⟨fun h => by have h0 : wDf A B 0 = 0 := rfl; omega, fun ⟨j, hj, _⟩ => by omega⟩
  | succ k ih =>
    have hb := wDf_le A B k
    unfold wDf
    by_cases hk : A k = B k
    · rw [if_pos hk, Int.add_zero, ih]
      constructor
      · rintro ⟨j, h1, h2, h3⟩
        refine ⟨j, by omega, h2, fun i hi hij => ?_⟩
        by_cases hik : i = k
        · rw [hik]; exact hk
        · exact h3 i (by omega) hij
      · rintro ⟨j, h1, h2, h3⟩
        have hjk : j ≠ k := fun q => h2 (by rw [q]; exact hk)
        exact ⟨j, by omega, h2, fun i hi hij => h3 i (by omega) hij⟩
    · rw [if_neg hk]
      constructor
      · intro h
        have h0 := (wDf_0 k).mp (show wDf A B k = 0 by omega)
        exact ⟨k, by omega, hk, fun i hi hij => h0 i (by omega)⟩
      · rintro ⟨j, h1, h2, h3⟩
        have hjk : j = k := by
          by_cases q : j = k
          · exact q
          · exact absurd (h3 k (by omega) (fun z => q z.symm)) hk
        rw [(wDf_0 k).mpr (fun i hi => h3 i (by omega) (by omega))]
        rfl
theorem m_areAlike (hp : cPl tm tc tf EX) {a b s t : Nat} {M : SMem} (ha : a < 8) (hb : b < 8) (hs : M 20 0 a = (s : Int)) (ht : M 20 0 b = (t : Int)) (h8 : s ≤ 8 ∧ t ≤ 8) : cBG tm tf EX l dC dI cA ad scrS (d + 2) kX10_areAlike [(2, 1, 0), (0, 0, (a : Int)), (0, 0, (b : Int))] M (fun rr MM => MM = M ∧ ((rr = [1] ∧ wAk (fun i => M 21 0 (8 * a + i)) (fun i => M 21 0 (8 * b + i)) s t) ∨ (rr = [0] ∧ ¬ wAk (fun i => M 21 0 (8 * a + i)) (fun i => M 21 0 (8 * b + i)) s t))) := by
  refine cMeth (v := [(a : Int), (b : Int)]) (Fd := 60) hp (by decide) gX10_areAlike_ok gX10_areAlike_m0 (by simp [cAs, cE2, sev, svl, cen]) ?_
  generalize hPo : (fun (rr : List Int) (MM : SMem) => MM = M ∧ ((rr = [1] ∧ wAk (fun i => M 21 0 (8 * a + i)) (fun i => M 21 0 (8 * b + i)) s t) ∨ (rr = [0] ∧ ¬ wAk (fun i => M 21 0 (8 * a + i)) (fun i => M 21 0 (8 * b + i)) s t))) = Po
  have yes : wAk (fun i => M 21 0 (8 * a + i)) (fun i => M 21 0 (8 * b + i)) s t → Po [1] M := fun h => by rw [← hPo]; exact ⟨rfl, Or.inl ⟨rfl, h⟩⟩
  have no : ¬ wAk (fun i => M 21 0 (8 * a + i)) (fun i => M 21 0 (8 * b + i)) s t → Po [0] M := fun h => by rw [← hPo]; exact ⟨rfl, Or.inr ⟨rfl, h⟩⟩
  -- as long
  have loop1 : ∀ (m k : Nat), s = t → k + m = s → cEnds (cBG tm tf EX l dC dI cA ad scrS (d + 1)) Po 60 gX10_areAlike 20 [(a : Int), (b : Int), wDf (fun i => M 21 0 (8 * a + i)) (fun i => M 21 0 (8 * b + i)) k, (k : Int)] M := by
    intro m
    induction m with
    | zero =>
      intro k est hk
      have e1 := wDf_1 (A := fun i => M 21 0 (8 * a + i)) (B := fun i => M 21 0 (8 * b + i)) k
      refine cEnds_at gX10_areAlike_m20 rfl ?_
      refine d_row 0 a (by simp only [cE2, sev, svl, cen, List.cons_append, List.nil_append]; omega) (by simp only [cE2, sev, svl, cen, List.cons_append, List.nil_append]; omega) ha ?_
      rw [hs]
      refine d_br (fun h => ?_) (fun h => ?_)
      · refine d_br (fun h => ?_) (fun h => ?_)
        · simp only [cCmp, cE2, sev, svl, cen, List.cons_append, List.nil_append] at h
          refine d_ret [0] rfl (by decide) (no (fun q => ?_))
          rcases q with ⟨_, q⟩ | ⟨q, _⟩ | ⟨q, _⟩
          · rw [show s = k by omega] at q
            have := e1.mpr q
            omega
          · omega
          · omega
        · simp only [cCmp, cE2, sev, svl, cen, List.cons_append, List.nil_append] at h
          refine d_ret [1] rfl (by decide) (yes (Or.inl ⟨est, ?_⟩))
          rw [show s = k by omega]
          exact e1.mp (by omega)
      · simp only [cCmp, cE2, sev, svl, cen, List.cons_append, List.nil_append] at h
        omega
    | succ m ih =>
      intro k est hk
      have b1 := wDf_le (fun i => M 21 0 (8 * a + i)) (fun i => M 21 0 (8 * b + i)) k
      refine cEnds_at gX10_areAlike_m20 rfl ?_
      refine d_row 0 a (by simp only [cE2, sev, svl, cen, List.cons_append, List.nil_append]; omega) (by simp only [cE2, sev, svl, cen, List.cons_append, List.nil_append]; omega) ha ?_
      rw [hs]
      refine d_br (fun h => ?_) (fun h => ?_)
      · simp only [cCmp, cE2, sev, svl, cen, List.cons_append, List.nil_append] at h
        omega
      · refine d_rng (by simp only [clo, chi, cE2, sev, svl, cen, List.cons_append, List.nil_append]; omega) ?_
        refine d_rng (by simp only [clo, chi, cE2, sev, svl, cen, List.cons_append, List.nil_append]; omega) ?_
        refine d_row 0 (8 * a + k) (by simp only [cE2, sev, svl, cen, List.cons_append, List.nil_append]; omega) (by simp only [cE2, sev, svl, cen, List.cons_append, List.nil_append]; omega) (by omega) ?_
        refine d_rng (by simp only [clo, chi, cE2, sev, svl, cen, List.cons_append, List.nil_append]; omega) ?_
        refine d_rng (by simp only [clo, chi, cE2, sev, svl, cen, List.cons_append, List.nil_append]; omega) ?_
        refine d_row 0 (8 * b + k) (by simp only [cE2, sev, svl, cen, List.cons_append, List.nil_append]; omega) (by simp only [cE2, sev, svl, cen, List.cons_append, List.nil_append]; omega) (by omega) ?_
        refine d_br (fun h => ?_) (fun h => ?_)
        · simp only [cCmp, cE2, sev, svl, cen, List.cons_append, List.nil_append] at h
          refine d_rng (by simp only [clo, chi, cE2, sev, svl, cen, List.cons_append, List.nil_append]; omega) ?_
          refine d_rng (by simp only [clo, chi, cE2, sev, svl, cen, List.cons_append, List.nil_append]; omega) ?_
          refine d_cut [(a : Int), (b : Int), wDf (fun i => M 21 0 (8 * a + i)) (fun i => M 21 0 (8 * b + i)) (k + 1), ((k + 1 : Nat) : Int)] ?_ (ih (k + 1) est (by omega))
          have e : wDf (fun i => M 21 0 (8 * a + i)) (fun i => M 21 0 (8 * b + i)) (k + 1) = wDf (fun i => M 21 0 (8 * a + i)) (fun i => M 21 0 (8 * b + i)) k + 1 := by
            show _ + (if M 21 0 (8 * a + k) = M 21 0 (8 * b + k) then (0 : Int) else 1) = _
            rw [if_neg (by omega)]
          rw [e]
          simp [cE2, sev, svl, cen] <;> omega
        · simp only [cCmp, cE2, sev, svl, cen, List.cons_append, List.nil_append] at h
          refine d_rng (by simp only [clo, chi, cE2, sev, svl, cen, List.cons_append, List.nil_append]; omega) ?_
          refine d_rng (by simp only [clo, chi, cE2, sev, svl, cen, List.cons_append, List.nil_append]; omega) ?_
          refine d_cut [(a : Int), (b : Int), wDf (fun i => M 21 0 (8 * a + i)) (fun i => M 21 0 (8 * b + i)) (k + 1), ((k + 1 : Nat) : Int)] ?_ (ih (k + 1) est (by omega))
          have e : wDf (fun i => M 21 0 (8 * a + i)) (fun i => M 21 0 (8 * b + i)) (k + 1) = wDf (fun i => M 21 0 (8 * a + i)) (fun i => M 21 0 (8 * b + i)) k := by
            show _ + (if M 21 0 (8 * a + k) = M 21 0 (8 * b + k) then (0 : Int) else 1) = _
            rw [if_pos (by omega), Int.add_zero]
          rw [e]
          simp [cE2, sev, svl, cen] <;> omega
  -- one is longer: x without a letter is y
  have loop2 : ∀ (x y sx sy m k : Nat) (f : Int), x < 8 → y < 8 → M 20 0 x = (sx : Int) → M 20 0 y = (sy : Int) → sx ≤ 8 → sy < sx → k + m = sx → (wAk (fun i => M 21 0 (8 * a + i)) (fun i => M 21 0 (8 * b + i)) s t ↔ (sx = sy + 1 ∧ ∃ k, k < sx ∧ wWo (fun i => M 21 0 (8 * x + i)) (fun i => M 21 0 (8 * y + i)) k sy)) → ((f = 1 ∧ sx = sy + 1 ∧ ∃ k', k' < k ∧ wWo (fun i => M 21 0 (8 * x + i)) (fun i => M 21 0 (8 * y + i)) k' sy) ∨ (f = 0 ∧ ∀ k', k' < k → ¬ wWo (fun i => M 21 0 (8 * x + i)) (fun i => M 21 0 (8 * y + i)) k' sy)) → cEnds (cBG tm tf EX l dC dI cA ad scrS (d + 1)) Po 60 gX10_areAlike 122 [(x : Int), (y : Int), f, (k : Int)] M := by
    intro x y sx sy m
    induction m with
    | zero =>
      intro k f hx hy esx esy h8x hlt hk hiff hl
      refine cEnds_at gX10_areAlike_m122 rfl ?_
      refine d_row 0 x (by simp only [cE2, sev, svl, cen, List.cons_append, List.nil_append]; omega) (by simp only [cE2, sev, svl, cen, List.cons_append, List.nil_append]; omega) hx ?_
      rw [esx]
      refine d_br (fun h => ?_) (fun h => ?_)
      · rcases hl with ⟨rfl, e, k', h1, h2⟩ | ⟨rfl, hl⟩
        · exact d_ret [1] rfl (by decide) (yes (hiff.mpr ⟨e, k', by omega, h2⟩))
        · refine d_ret [0] rfl (by decide) (no (fun q => ?_))
          obtain ⟨-, k', h1, h2⟩ := hiff.mp q
          exact hl k' (by omega) h2
      · simp only [cCmp, cE2, sev, svl, cen, List.cons_append, List.nil_append] at h
        omega
    | succ m ih =>
      intro k f hx hy esx esy h8x hlt hk hiff hl
      refine cEnds_at gX10_areAlike_m122 rfl ?_
      refine d_row 0 x (by simp only [cE2, sev, svl, cen, List.cons_append, List.nil_append]; omega) (by simp only [cE2, sev, svl, cen, List.cons_append, List.nil_append]; omega) hx ?_
      rw [esx]
      refine d_br (fun h => ?_) (fun h => ?_)
      · simp only [cCmp, cE2, sev, svl, cen, List.cons_append, List.nil_append] at h
        omega
      · refine d_row 0 x (by simp only [cE2, sev, svl, cen, List.cons_append, List.nil_append]; omega) (by simp only [cE2, sev, svl, cen, List.cons_append, List.nil_append]; omega) hx ?_
        refine d_row 0 y (by simp only [cE2, sev, svl, cen, List.cons_append, List.nil_append]; omega) (by simp only [cE2, sev, svl, cen, List.cons_append, List.nil_append]; omega) hy ?_
        rw [esx, esy]
        refine d_rng (by simp only [clo, chi, cE2, sev, svl, cen, List.cons_append, List.nil_append]; omega) ?_
        refine d_br (fun h => ?_) (fun h => ?_)
        · simp only [cCmp, cE2, sev, svl, cen, List.cons_append, List.nil_append] at h
          rcases hl with ⟨rfl, e, -⟩ | ⟨rfl, hl⟩
          · omega
          · refine d_ret [0] rfl (by decide) (no (fun q => ?_))
            have := (hiff.mp q).1
            omega
        · simp only [cCmp, cE2, sev, svl, cen, List.cons_append, List.nil_append] at h
          have e1 : sx = sy + 1 := by omega
          rcases hl with ⟨rfl, e, k', h1, h2⟩ | ⟨rfl, hl⟩
          · refine d_br (fun h => ?_) (fun h => ?_)
            · refine d_rng (by simp only [clo, chi, cE2, sev, svl, cen, List.cons_append, List.nil_append]; omega) ?_
              refine d_cut [(x : Int), (y : Int), 1, ((k + 1 : Nat) : Int)] (by simp [cE2, sev, svl, cen] <;> omega) ?_
              exact ih (k + 1) 1 hx hy esx esy h8x hlt (by omega) hiff (Or.inl ⟨rfl, e, k', by omega, h2⟩)
            · simp only [cCmp, cE2, sev, svl, cen, List.cons_append, List.nil_append] at h
              omega
          · refine d_br (fun h => ?_) (fun h => ?_)
            · simp only [cCmp, cE2, sev, svl, cen, List.cons_append, List.nil_append] at h
              omega
            · refine d_call (m_isWithout hp (a := x) (b := y) (k := k) hx hy esy (by omega)) (by simp [cAs, cE2, sev, svl, cen]) ?_
              rintro rr M' ⟨rfl, hb9⟩
              rcases hb9 with ⟨rfl, hw⟩ | ⟨rfl, hw⟩
              · refine ⟨rfl, ?_⟩
                refine d_br (fun h => ?_) (fun h => ?_)
                · simp only [cCmp, cE2, sev, svl, cen, List.cons_append, List.nil_append] at h
                  omega
                · refine d_rng (by simp only [clo, chi, cE2, sev, svl, cen, List.cons_append, List.nil_append]; omega) ?_
                  refine d_cut [(x : Int), (y : Int), 1, ((k + 1 : Nat) : Int)] (by simp [cE2, sev, svl, cen] <;> omega) ?_
                  exact ih (k + 1) 1 hx hy esx esy h8x hlt (by omega) hiff (Or.inl ⟨rfl, e1, k, by omega, hw⟩)
              · refine ⟨rfl, ?_⟩
                refine d_br (fun h => ?_) (fun h => ?_)
                · refine d_rng (by simp only [clo, chi, cE2, sev, svl, cen, List.cons_append, List.nil_append]; omega) ?_
                  refine d_cut [(x : Int), (y : Int), 0, ((k + 1 : Nat) : Int)] (by simp [cE2, sev, svl, cen] <;> omega) ?_
                  refine ih (k + 1) 0 hx hy esx esy h8x hlt (by omega) hiff (Or.inr ⟨rfl, fun k' hk' => ?_⟩)
                  by_cases hkk : k' = k
                  · rw [hkk]; exact hw
                  · exact hl k' (by omega)
                · simp only [cCmp, cE2, sev, svl, cen, List.cons_append, List.nil_append] at h
                  omega
  have hwo : ∀ (A B : Nat → Int) (k n : Nat), wWo A B k n ↔ ((∀ i, i < n → i < k → B i = A i) ∧ ∀ i, k ≤ i → i < n → B i = A (i + 1)) := by
    intro A B k n
    constructor
    · intro q
      refine ⟨fun i h1 h2 => ?_, fun i h1 h2 => ?_⟩
      · have := q i h1
        rw [if_pos h2] at this
        exact this
      · have := q i h2
        rw [if_neg (by omega)] at this
        exact this
    · rintro ⟨q1, q2⟩ i hi
      by_cases h : i < k
      · rw [if_pos h]; exact q1 i hi h
      · rw [if_neg h]; exact q2 i (by omega) hi
  have iff1 : t < s → (wAk (fun i => M 21 0 (8 * a + i)) (fun i => M 21 0 (8 * b + i)) s t ↔ (s = t + 1 ∧ ∃ k, k < s ∧ wWo (fun i => M 21 0 (8 * a + i)) (fun i => M 21 0 (8 * b + i)) k t)) := by
    intro hlt
    constructor
    · intro q
      rcases q with ⟨q, _⟩ | ⟨e, k, h1, h2, h3⟩ | ⟨q, _⟩
      · omega
      · exact ⟨e, k, by omega, (hwo _ _ k t).mpr ⟨fun i _ h => h2 i h, h3⟩⟩
      · omega
    · rintro ⟨e, k, h1, h2⟩
      obtain ⟨q1, q2⟩ := (hwo _ _ k t).mp h2
      exact Or.inr (Or.inl ⟨e, k, by omega, fun i h => q1 i (by omega) h, q2⟩)
  have iff2 : s < t → (wAk (fun i => M 21 0 (8 * a + i)) (fun i => M 21 0 (8 * b + i)) s t ↔ (t = s + 1 ∧ ∃ k, k < t ∧ wWo (fun i => M 21 0 (8 * b + i)) (fun i => M 21 0 (8 * a + i)) k s)) := by
    intro hlt
    constructor
    · intro q
      rcases q with ⟨q, _⟩ | ⟨q, _⟩ | ⟨e, k, h1, h2, h3⟩
      · omega
      · omega
      · exact ⟨e, k, by omega, (hwo _ _ k s).mpr ⟨fun i _ h => h2 i h, h3⟩⟩
    · rintro ⟨e, k, h1, h2⟩
      obtain ⟨q1, q2⟩ := (hwo _ _ k s).mp h2
      exact Or.inr (Or.inr ⟨e, k, by omega, fun i h => q1 i (by omega) h, q2⟩)
  refine cEnds_at gX10_areAlike_m0 rfl ?_
  refine d_row 0 a (by simp only [cE2, sev, svl, cen, List.cons_append, List.nil_append]; omega) (by simp only [cE2, sev, svl, cen, List.cons_append, List.nil_append]; omega) ha ?_
  refine d_row 0 b (by simp only [cE2, sev, svl, cen, List.cons_append, List.nil_append]; omega) (by simp only [cE2, sev, svl, cen, List.cons_append, List.nil_append]; omega) hb ?_
  rw [hs, ht]
  refine d_br (fun h => ?_) (fun h => ?_)
  · simp only [cCmp, cE2, sev, svl, cen, List.cons_append, List.nil_append] at h
    refine d_row 0 a (by simp only [cE2, sev, svl, cen, List.cons_append, List.nil_append]; omega) (by simp only [cE2, sev, svl, cen, List.cons_append, List.nil_append]; omega) ha ?_
    refine d_row 0 b (by simp only [cE2, sev, svl, cen, List.cons_append, List.nil_append]; omega) (by simp only [cE2, sev, svl, cen, List.cons_append, List.nil_append]; omega) hb ?_
    rw [hs, ht]
    refine d_br (fun h => ?_) (fun h => ?_)
    · simp only [cCmp, cE2, sev, svl, cen, List.cons_append, List.nil_append] at h
      refine d_br (fun h => ?_) (fun h => ?_)
      · simp only [cCmp, cE2, sev, svl, cen, List.cons_append, List.nil_append] at h
        refine d_cut [(b : Int), (a : Int), 0, ((0 : Nat) : Int)] (by simp [cE2, sev, svl, cen] <;> omega) ?_
        exact loop2 b a t s t 0 0 hb ha ht hs h8.2 (by omega) (by omega) (iff2 (by omega)) (Or.inr ⟨rfl, fun k' hk' => by omega⟩)
      · simp only [cCmp, cE2, sev, svl, cen, List.cons_append, List.nil_append] at h
        exfalso
        have : a = b := by omega
        subst this
        rw [hs] at ht
        omega
    · simp only [cCmp, cE2, sev, svl, cen, List.cons_append, List.nil_append] at h
      refine d_cut [(a : Int), (b : Int), 0, ((0 : Nat) : Int)] (by simp [cE2, sev, svl, cen] <;> omega) ?_
      exact loop2 a b s t s 0 0 ha hb hs ht h8.1 (by omega) (by omega) (iff1 (by omega)) (Or.inr ⟨rfl, fun k' hk' => by omega⟩)
  · simp only [cCmp, cE2, sev, svl, cen, List.cons_append, List.nil_append] at h
    refine d_cut [(a : Int), (b : Int), 0, ((0 : Nat) : Int)] (by simp [cE2, sev, svl, cen] <;> omega) ?_
    exact loop1 s 0 (by omega) (by omega)
/-- the answer of alike -/
def wLk (D : Nat → Int) (P : Nat → Nat → Prop) (a b r : Int) : Prop := (r = -1 ∧ ¬ ((0 ≤ a ∧ a < 8 ∧ D a.toNat ≠ 0) ∧ (0 ≤ b ∧ b < 8 ∧ D b.toNat ≠ 0))) ∨ (((0 ≤ a ∧ a < 8 ∧ D a.toNat ≠ 0) ∧ (0 ≤ b ∧ b < 8 ∧ D b.toNat ≠ 0)) ∧ ((r = 1 ∧ P a.toNat b.toNat) ∨ (r = 0 ∧ ¬ P a.toNat b.toNat)))
theorem wLk_eq {D : Nat → Int} {P : Nat → Nat → Prop} {a b r r' : Int} (h : wLk D P a b r) (h' : wLk D P a b r') : r = r' := by
  rcases h with ⟨h1, h2⟩ | ⟨h1, h2⟩ <;> rcases h' with ⟨k1, k2⟩ | ⟨k1, k2⟩
  · rw [h1, k1]
  · exact absurd k1 h2
  · exact absurd h1 k2
  · rcases h2 with ⟨h2, h3⟩ | ⟨h2, h3⟩ <;> rcases k2 with ⟨k2, k3⟩ | ⟨k2, k3⟩
    · rw [h2, k2]
    · exact absurd h3 k3
    · exact absurd k3 h3
    · rw [h2, k2]
theorem b_alike (hp : cPl tm tc tf EX) {a b : Int} {M : SMem} (hI : sI tg M) : cBG tm tf EX l dC dI cA ad scrS (d + 3) kX9_alike [(2, 0, 0), (0, 0, a), (0, 0, b)] M (fun rr MM => MM = M ∧ ∃ r, rr = [r] ∧ wLk (M 58 0) (fun x y => wAk (fun i => M 63 0 (8 * x + i)) (fun i => M 63 0 (8 * y + i)) (M 61 0 x).toNat (M 61 0 y).toNat) a b r) := by
  refine cMeth (v := [a, b]) (Fd := 60) hp (by decide) gX9_alike_ok gX9_alike_m0 (by simp [cAs, cE2, sev, svl, cen]) ?_
  refine cEnds_at gX9_alike_m0 rfl ?_
  refine d_call (b_isTold hp (a := a)) (by simp [cAs, cE2, sev, svl, cen]) ?_
  rintro rr M' ⟨rfl, hb⟩
  rcases hb with ⟨rfl, ha⟩ | ⟨rfl, ha⟩
  · refine ⟨rfl, ?_⟩
    refine d_br (fun h => ?_) (fun h => ?_)
    · simp only [cCmp, cE2, sev, svl, cen, List.cons_append, List.nil_append] at h
      omega
    · refine d_call (b_isTold hp (a := b)) (by simp [cAs, cE2, sev, svl, cen]) ?_
      rintro rr M' ⟨rfl, hb⟩
      rcases hb with ⟨rfl, hb⟩ | ⟨rfl, hb⟩
      · refine ⟨rfl, ?_⟩
        refine d_br (fun h => ?_) (fun h => ?_)
        · have b1 := wIb (f := 61) (i := a.toNat) (lo := 0) (hi := 8) hI 0 rfl
          have b2 := wIb (f := 61) (i := b.toNat) (lo := 0) (hi := 8) hI 0 rfl
          refine d_call (b_areAlike (d := d + 1) hp (a := a.toNat) (b := b.toNat) (s := (M' 61 0 a.toNat).toNat) (t := (M' 61 0 b.toNat).toNat) (by omega) (by omega) (by omega) (by omega) (by omega)) (by simp [cAs, cE2, sev, svl, cen]; omega) ?_
          rintro rr M' ⟨rfl, hq⟩
          rcases hq with ⟨rfl, hq⟩ | ⟨rfl, hq⟩
          · refine ⟨rfl, ?_⟩
            refine d_br (fun h => ?_) (fun h => ?_)
            · simp only [cCmp, cE2, sev, svl, cen, List.cons_append, List.nil_append] at h
              omega
            · exact d_ret [1] rfl (by decide) ⟨rfl, 1, rfl, Or.inr ⟨⟨ha, hb⟩, Or.inl ⟨rfl, hq⟩⟩⟩
          · refine ⟨rfl, ?_⟩
            refine d_br (fun h => ?_) (fun h => ?_)
            · exact d_ret [0] rfl (by decide) ⟨rfl, 0, rfl, Or.inr ⟨⟨ha, hb⟩, Or.inr ⟨rfl, hq⟩⟩⟩
            · simp only [cCmp, cE2, sev, svl, cen, List.cons_append, List.nil_append] at h
              omega
        · simp only [cCmp, cE2, sev, svl, cen, List.cons_append, List.nil_append] at h
          omega
      · refine ⟨rfl, ?_⟩
        refine d_br (fun h => ?_) (fun h => ?_)
        · simp only [cCmp, cE2, sev, svl, cen, List.cons_append, List.nil_append] at h
          omega
        · exact d_ret [-1] rfl (by decide) ⟨rfl, -1, rfl, Or.inl ⟨rfl, fun q => hb q.2⟩⟩
  · refine ⟨rfl, ?_⟩
    refine d_br (fun h => ?_) (fun h => ?_)
    · exact d_ret [-1] rfl (by decide) ⟨rfl, -1, rfl, Or.inl ⟨rfl, fun q => ha q.1⟩⟩
    · simp only [cCmp, cE2, sev, svl, cen, List.cons_append, List.nil_append] at h
      omega
theorem m_alike (hp : cPl tm tc tf EX) {a b : Int} {M : SMem} (hI : sI tg M) : cBG tm tf EX l dC dI cA ad scrS (d + 3) kX10_alike [(2, 1, 0), (0, 0, a), (0, 0, b)] M (fun rr MM => sI tg MM ∧ (∀ f j i, ¬ (f = 1 ∧ i = 0) → MM f j i = M f j i) ∧ ∃ r, rr = [r] ∧ wLk (M 17 0) (fun x y => wAk (fun i => M 21 0 (8 * x + i)) (fun i => M 21 0 (8 * y + i)) (M 20 0 x).toNat (M 20 0 y).toNat) a b r) := by
  refine cMeth (v := [a, b]) (Fd := 60) hp (by decide) gX10_alike_ok gX10_alike_m0 (by simp [cAs, cE2, sev, svl, cen]) ?_
  refine cEnds_at gX10_alike_m0 rfl ?_
  refine d_put 0 0 rfl rfl ?_
  have i0 : sI tg (supd M 1 0 0 0) := wI (lo := 0) (hi := 1) hI rfl ⟨by omega, by omega⟩
  have f0 : ∀ f j i, ¬ (f = 1 ∧ i = 0) → supd M 1 0 0 0 f j i = M f j i := fun f j i q => if_neg (fun z => q ⟨z.1, z.2.2⟩)
  have r0 : ∀ f, f ≠ 1 → supd M 1 0 0 0 f = M f := fun f q => supd_ff q
  generalize supd M 1 0 0 0 = M1 at i0 f0 r0 ⊢
  refine d_call (m_isName hp (a := a)) (by simp [cAs, cE2, sev, svl, cen]) ?_
  rintro rr M' ⟨rfl, hb⟩
  rw [r0 17 (by decide)] at hb
  rcases hb with ⟨rfl, ha⟩ | ⟨rfl, ha⟩
  · refine ⟨rfl, ?_⟩
    refine d_br (fun h => ?_) (fun h => ?_)
    · simp only [cCmp, cE2, sev, svl, cen, List.cons_append, List.nil_append] at h
      omega
    · refine d_call (m_isName hp (a := b)) (by simp [cAs, cE2, sev, svl, cen]) ?_
      rintro rr M' ⟨rfl, hb⟩
      rw [r0 17 (by decide)] at hb
      rcases hb with ⟨rfl, hb⟩ | ⟨rfl, hb⟩
      · refine ⟨rfl, ?_⟩
        refine d_br (fun h => ?_) (fun h => ?_)
        · have b1 := wIb (f := 20) (i := a.toNat) (lo := 0) (hi := 8) i0 0 rfl
          have b2 := wIb (f := 20) (i := b.toNat) (lo := 0) (hi := 8) i0 0 rfl
          refine d_call (m_areAlike hp (a := a.toNat) (b := b.toNat) (s := (M' 20 0 a.toNat).toNat) (t := (M' 20 0 b.toNat).toNat) (by omega) (by omega) (by omega) (by omega) (by omega)) (by simp [cAs, cE2, sev, svl, cen]; omega) ?_
          rintro rr M' ⟨rfl, hq⟩
          rw [r0 20 (by decide), r0 21 (by decide)] at hq
          rcases hq with ⟨rfl, hq⟩ | ⟨rfl, hq⟩
          · refine ⟨rfl, ?_⟩
            refine d_br (fun h => ?_) (fun h => ?_)
            · simp only [cCmp, cE2, sev, svl, cen, List.cons_append, List.nil_append] at h
              omega
            · exact d_ret [1] rfl (by decide) ⟨i0, f0, 1, rfl, Or.inr ⟨⟨ha, hb⟩, Or.inl ⟨rfl, hq⟩⟩⟩
          · refine ⟨rfl, ?_⟩
            refine d_br (fun h => ?_) (fun h => ?_)
            · exact d_ret [0] rfl (by decide) ⟨i0, f0, 0, rfl, Or.inr ⟨⟨ha, hb⟩, Or.inr ⟨rfl, hq⟩⟩⟩
            · simp only [cCmp, cE2, sev, svl, cen, List.cons_append, List.nil_append] at h
              omega
        · simp only [cCmp, cE2, sev, svl, cen, List.cons_append, List.nil_append] at h
          omega
      · refine ⟨rfl, ?_⟩
        refine d_br (fun h => ?_) (fun h => ?_)
        · simp only [cCmp, cE2, sev, svl, cen, List.cons_append, List.nil_append] at h
          omega
        · exact d_ret [-1] rfl (by decide) ⟨i0, f0, -1, rfl, Or.inl ⟨rfl, fun q => hb q.2⟩⟩
  · refine ⟨rfl, ?_⟩
    refine d_br (fun h => ?_) (fun h => ?_)
    · exact d_ret [-1] rfl (by decide) ⟨i0, f0, -1, rfl, Or.inl ⟨rfl, fun q => ha q.1⟩⟩
    · simp only [cCmp, cE2, sev, svl, cen, List.cons_append, List.nil_append] at h
      omega
end CAK
