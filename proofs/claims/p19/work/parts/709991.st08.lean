/-! stories: all of them, in their order -/
noncomputable def stL (bz : Nat → Bool) (V : (Nat → Int) → Prop) : Nat → (Nat → Int) → List (Nat → Int)
  | 0, r => @ite _ (V r) (Classical.propDecidable (V r)) [r] []
  | k + 1, r => cond (bz (5 - k)) ((List.range 6).flatMap (fun x : Nat => stL bz V k (wSt r (5 - k) (x : Int)))) (stL bz V k r)
theorem stL_0y {bz : Nat → Bool} {V : (Nat → Int) → Prop} {r : Nat → Int} (h : V r) : stL bz V 0 r = [r] := by
  unfold stL
  exact @if_pos _ (Classical.propDecidable (V r)) h _ _ _
theorem stL_0n {bz : Nat → Bool} {V : (Nat → Int) → Prop} {r : Nat → Int} (h : ¬ V r) : stL bz V 0 r = [] := by
  unfold stL
  exact @if_neg _ (Classical.propDecidable (V r)) h _ _ _
theorem stL_b {bz : Nat → Bool} {V : (Nat → Int) → Prop} {k : Nat} {r : Nat → Int} (h : bz (5 - k) = true) : stL bz V (k + 1) r = (List.range 6).flatMap (fun x : Nat => stL bz V k (wSt r (5 - k) (x : Int))) := by
  show cond _ _ _ = _
  rw [h, cond_true]
theorem stL_n {bz : Nat → Bool} {V : (Nat → Int) → Prop} {k : Nat} {r : Nat → Int} (h : bz (5 - k) = false) : stL bz V (k + 1) r = stL bz V k r := by
  show cond _ _ _ = _
  rw [h, cond_false]
/-- each is a story that goes on what was set -/
theorem stL_mem {bz : Nat → Bool} {V : (Nat → Int) → Prop} : ∀ k, k ≤ 6 → ∀ r s, s ∈ stL bz V k r → V s ∧ (∀ i, (i < 6 - k ∨ bz i = false ∨ 6 ≤ i) → s i = r i) ∧ ∀ i, 6 - k ≤ i → i < 6 → bz i = true → 0 ≤ s i ∧ s i ≤ 5 := by
  intro k
  induction k with
  | zero =>
    intro _ r s h
    by_cases hV : V r
    · rw [stL_0y hV, List.mem_singleton] at h
      subst h
      exact ⟨hV, fun _ _ => rfl, fun i h1 h2 => by omega⟩
    · rw [stL_0n hV] at h
      cases h
  | succ k ih =>
    intro hk r s h
    cases hb : bz (5 - k) with
    | true =>
      rw [stL_b hb, List.mem_flatMap] at h
      obtain ⟨x, hx, h⟩ := h
      rw [List.mem_range] at hx
      obtain ⟨a1, a2, a3⟩ := ih (by omega) _ _ h
      refine ⟨a1, fun i hi => ?_, fun i h1 h2 h3 => ?_⟩
      · have ne : i ≠ 5 - k := fun z => by
          rcases hi with q | q | q
          · omega
          · rw [z, hb] at q
            cases q
          · omega
        rw [a2 i (by rcases hi with q | q | q; { exact Or.inl (by omega) }; { exact Or.inr (Or.inl q) }; { exact Or.inr (Or.inr q) }), wSt_ne ne]
      · by_cases e : i = 5 - k
        · rw [a2 i (Or.inl (by omega)), e, wSt_at]
          omega
        · exact a3 i (by omega) h2 h3
    | false =>
      rw [stL_n hb] at h
      obtain ⟨a1, a2, a3⟩ := ih (by omega) _ _ h
      refine ⟨a1, fun i hi => a2 i (by rcases hi with q | q | q; { exact Or.inl (by omega) }; { exact Or.inr (Or.inl q) }; { exact Or.inr (Or.inr q) }), fun i h1 h2 h3 => ?_⟩
      by_cases e : i = 5 - k
      · rw [e, hb] at h3
        cases h3
      · exact a3 i (by omega) h2 h3
/-- none goes on, where what was set lets none -/
theorem stL_nil {bz : Nat → Bool} {V : (Nat → Int) → Prop} {k : Nat} (hk : k ≤ 6) {r : Nat → Int} (h : ∀ s, V s → (∀ i, (i < 6 - k ∨ bz i = false ∨ 6 ≤ i) → s i = r i) → False) : stL bz V k r = [] := by
  cases e : stL bz V k r with
  | nil => rfl
  | cons s t =>
    have hm : s ∈ stL bz V k r := by rw [e]; exact List.mem_cons_self
    obtain ⟨a1, a2, -⟩ := stL_mem k hk r s hm
    exact (h s a1 a2).elim
/-- every story is among them -/
theorem stL_all {bz : Nat → Bool} {V : (Nat → Int) → Prop} (hV : ∀ r s, (∀ i, i < 6 → bz i = true → r i = s i) → V r → V s) : ∀ k, k ≤ 6 → ∀ r s, V s → (∀ i, i < 6 - k → bz i = true → s i = r i) → (∀ i, 6 - k ≤ i → i < 6 → bz i = true → 0 ≤ s i ∧ s i ≤ 5) → ∃ s' ∈ stL bz V k r, ∀ i, i < 6 → bz i = true → s' i = s i := by
  intro k
  induction k with
  | zero =>
    intro _ r s h1 h2 h3
    have : V r := hV s r (fun i hi hb => h2 i (by omega) hb) h1
    exact ⟨r, by rw [stL_0y this]; exact List.mem_singleton.mpr rfl, fun i hi hb => (h2 i (by omega) hb).symm⟩
  | succ k ih =>
    intro hk r s h1 h2 h3
    cases hb : bz (5 - k) with
    | true =>
      obtain ⟨b0, b5⟩ := h3 (5 - k) (by omega) (by omega) hb
      have hA : ∀ i, i < 6 - k → bz i = true → s i = wSt r (5 - k) (s (5 - k)) i := fun i hi hbi => by
        by_cases e : i = 5 - k
        · rw [e, wSt_at]
        · rw [wSt_ne e]
          exact h2 i (by omega) hbi
      obtain ⟨s', m1, m2⟩ := ih (by omega) (wSt r (5 - k) (s (5 - k))) s h1 hA (fun i q1 q2 q3 => h3 i (by omega) q2 q3)
      refine ⟨s', ?_, m2⟩
      rw [stL_b hb, List.mem_flatMap]
      refine ⟨(s (5 - k)).toNat, List.mem_range.mpr (by omega), ?_⟩
      rw [show (((s (5 - k)).toNat : Nat) : Int) = s (5 - k) by omega]
      exact m1
    | false =>
      have hA : ∀ i, i < 6 - k → bz i = true → s i = r i := fun i hi hbi => by
        by_cases e : i = 5 - k
        · rw [e, hb] at hbi
          cases hbi
        · exact h2 i (by omega) hbi
      obtain ⟨s', m1, m2⟩ := ih (by omega) r s h1 hA (fun i q1 q2 q3 => h3 i (by omega) q2 q3)
      exact ⟨s', by rw [stL_n hb]; exact m1, m2⟩
