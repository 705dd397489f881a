/-! fits: both alike -/
theorem wDc_cg {P Q : Nat → Prop} {i : Nat} (h : P i ↔ Q i) : wDc P i = wDc Q i := by
  by_cases hp : P i
  · rw [wDc_y hp, wDc_y (h.mp hp)]
  · rw [wDc_n hp, wDc_n (fun q => hp (h.mpr q))]
theorem ht_iff {M : SMem} {p nm a : Nat} (hI : sI tg M) (hR : Rr M) (hp9 : p < 12) (h6 : a < 6) : wHT M p a nm ↔ ((M 31 0 (6 * p + a) = 0 ∨ M 31 0 (6 * p + a) = M 20 0 nm) ∧ vHT M (6 * p + a) nm) := by
  obtain ⟨g1, g2, g3, g4, g5, g6, g7⟩ := hR.1
  obtain ⟨w1, w2, w3, w4, w5, w6⟩ := hR.2
  have e94 := (w2 p a hp9 h6).2.2.2
  have b1 := wIb (f := 31) (i := 6 * p + a) (lo := 0) (hi := 8) hI 0 rfl
  unfold wHT vHT
  rw [e94, g5, g6]
  constructor
  · intro h
    rcases h with z | ⟨z1, z2⟩
    · exact ⟨Or.inl z, fun k hk => by omega⟩
    · refine ⟨Or.inr z1, fun k hk => ?_⟩
      rw [w3 p a k hp9 h6 (by omega)]
      unfold wTv
      by_cases e : M 95 p (8 * a + k) = 46
      · rw [if_pos e]
        exact Or.inl rfl
      · rw [if_neg e]
        rcases z2 k hk with z | z
        · exact absurd z e
        · exact Or.inr z
  · rintro ⟨z1 | z1, z2⟩
    · exact Or.inl z1
    · refine Or.inr ⟨z1, fun k hk => ?_⟩
      have z := z2 k hk
      rw [w3 p a k hp9 h6 (by omega)] at z
      unfold wTv at z
      by_cases e : M 95 p (8 * a + k) = 46
      · exact Or.inl e
      · rw [if_neg e] at z
        have w := w6 p a k hp9 h6 (by omega) (by rw [e94]; exact hk)
        rcases z with z | z
        · omega
        · exact Or.inr z
theorem ff_iff {M : SMem} {p nm : Nat} (hR : Rr M) (hp9 : p < 12) (hn : nm < 8) : wFF M p nm ↔ vFF M p nm := by
  obtain ⟨g1, g2, g3, g4, g5, g6, g7⟩ := hR.1
  obtain ⟨c1, c2, c3, c4, c5, c6⟩ := hR.2.1 p hp9
  unfold wFF vFF
  rw [c2, c5, g3, g7 nm hn, g5, g6]
theorem fit_iff {M : SMem} {p nm ly : Nat} (hI : sI tg M) (hR : Rr M) (hp9 : p < 12) (hn : nm < 8) : ∀ a, a < 6 → ((M 58 0 nm ≠ 0 ∧ wFt M p nm ly 0 a) ↔ vFt M p nm a) := by
  intro a
  induction a using Nat.strongRecOn with
  | _ a ih =>
    intro h6
    obtain ⟨g1, g2, g3, g4, g5, g6, g7⟩ := hR.1
    obtain ⟨c1, c2, c3, c4, c5, c6⟩ := hR.2.1 p hp9
    obtain ⟨d1, d2, d3, d4⟩ := hR.2.2.1 p a hp9 h6
    have ht := ht_iff (nm := nm) hI hR hp9 h6
    have hf := ff_iff (nm := nm) hR hp9 hn
    have e1 := wFt_iff (M := M) (p := p) (nm := nm) (ly := ly) (bare := 0) a
    have e2 := vFt_iff (M := M) (p := p) (nm := nm) a
    have ew : M 62 0 nm = wSm (M 21 0) (8 * nm) (M 20 0 nm).toNat := by rw [g7 nm hn, g5, g6]
    have e58 : M 58 0 nm = M 17 0 nm := by rw [g2]
    unfold wOk at e1
    unfold vA at e2
    rw [e1, e2, d2, d3, ew, c2, e58]
    constructor
    · rintro ⟨t, ⟨n1, n2⟩, h⟩
      have n3 := ht.mp (n2.elim (fun z => absurd rfl z.1) id)
      refine ⟨⟨⟨t, n1, n3.1⟩, n3.2⟩, ?_⟩
      rcases h with h | h | h
      · exact Or.inl ⟨h.1, hf.mp h.2⟩
      · exact Or.inr (Or.inl h)
      · exact Or.inr (Or.inr ⟨h.1, h.2.1, h.2.2.1, (ih (a - 2) (by omega) (by omega)).mp ⟨by rw [e58]; exact t, h.2.2.2⟩⟩)
    · rintro ⟨⟨⟨t, n1, n2⟩, n3⟩, h⟩
      refine ⟨t, ⟨n1, Or.inr (ht.mpr ⟨n2, n3⟩)⟩, ?_⟩
      rcases h with h | h | h
      · exact Or.inl ⟨h.1, hf.mpr h.2⟩
      · exact Or.inr (Or.inl h)
      · exact Or.inr (Or.inr ⟨h.1, h.2.1, h.2.2.1, ((ih (a - 2) (by omega) (by omega)).mpr h.2.2.2).2⟩)
theorem nam_iff {M : SMem} {a b : Int} (hI : sI tg M) (hR : Rr M) : (0 ≤ a ∧ a < 12 ∧ M 64 a.toNat 0 ≠ 0 ∧ 0 ≤ b ∧ b < M 64 a.toNat 5 ∧ ¬ (M 92 a.toNat b.toNat = 1 ∨ M 92 a.toNat b.toNat = 2)) ↔ (0 ≤ a ∧ a < 12 ∧ M 22 0 a.toNat ≠ 0 ∧ 0 ≤ b ∧ b < M 27 0 a.toNat ∧ (M 29 0 (6 * a.toNat + b.toNat) = 0 ∨ M 29 0 (6 * a.toNat + b.toNat) = 3 ∨ M 29 0 (6 * a.toNat + b.toNat) = 4)) := by
  obtain ⟨w1, w2, -⟩ := hR.2
  by_cases hb : 0 ≤ a ∧ a < 12
  · obtain ⟨c1, -, -, -, -, c6⟩ := w1 a.toNat (by omega)
    rw [c1, c6]
    by_cases ha : 0 ≤ b ∧ b < M 27 0 a.toNat
    · have b6 := wIb (f := 27) (i := a.toNat) (lo := 0) (hi := 6) hI 0 rfl
      have d1 := (w2 a.toNat b.toNat (by omega) (by omega)).2.1
      have b1 := wIb (f := 29) (i := 6 * a.toNat + b.toNat) (lo := 0) (hi := 4) hI 0 rfl
      rw [d1]
      constructor <;> intro h <;> omega
    · constructor <;> intro h <;> omega
  · constructor <;> intro h <;> omega
theorem fin_fits {M : SMem} {a b r r' : Int} (hI : sI tg M) (hR : Rr M) (hx : (¬ (0 ≤ a ∧ a < 12 ∧ M 64 a.toNat 0 ≠ 0 ∧ 0 ≤ b ∧ b < M 64 a.toNat 5 ∧ ¬ (M 92 a.toNat b.toNat = 1 ∨ M 92 a.toNat b.toNat = 2)) ∧ r = -1) ∨ ((0 ≤ a ∧ a < 12 ∧ M 64 a.toNat 0 ≠ 0 ∧ 0 ≤ b ∧ b < M 64 a.toNat 5 ∧ ¬ (M 92 a.toNat b.toNat = 1 ∨ M 92 a.toNat b.toNat = 2)) ∧ r = wBt (wDc (fun nm => M 58 0 nm ≠ 0 ∧ wFt M a.toNat nm b.toNat 0 b.toNat)) 8)) (hm : (¬ (0 ≤ a ∧ a < 12 ∧ M 22 0 a.toNat ≠ 0 ∧ 0 ≤ b ∧ b < M 27 0 a.toNat ∧ (M 29 0 (6 * a.toNat + b.toNat) = 0 ∨ M 29 0 (6 * a.toNat + b.toNat) = 3 ∨ M 29 0 (6 * a.toNat + b.toNat) = 4)) ∧ r' = -1) ∨ ((0 ≤ a ∧ a < 12 ∧ M 22 0 a.toNat ≠ 0 ∧ 0 ≤ b ∧ b < M 27 0 a.toNat ∧ (M 29 0 (6 * a.toNat + b.toNat) = 0 ∨ M 29 0 (6 * a.toNat + b.toNat) = 3 ∨ M 29 0 (6 * a.toNat + b.toNat) = 4)) ∧ r' = wBt (wDc (fun nm => vFt M a.toNat nm b.toNat)) 8)) : r = r' := by
  have e := nam_iff (a := a) (b := b) hI hR
  rcases hx with ⟨h1, h2⟩ | ⟨h1, h2⟩
  · rcases hm with ⟨k1, k2⟩ | ⟨k1, k2⟩
    · rw [h2, k2]
    · exact absurd (e.mpr k1) h1
  · rcases hm with ⟨k1, k2⟩ | ⟨k1, k2⟩
    · exact absurd (e.mp h1) k1
    · rw [h2, k2]
      have b6 := wIb (f := 27) (i := a.toNat) (lo := 0) (hi := 6) hI 0 rfl
      exact wBt_cg 8 (fun i hi => wDc_cg (fit_iff hI hR (by omega) hi b.toNat (by omega)))
