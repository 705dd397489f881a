/-! stories: what the hands ahead let a hand have -/
section CS9
variable {EX : SEx} {l : Launch} {dC : Nat → ClassId} {dI : Nat → Nat → Nat} {cA : Nat → ClassId} {ad : SAd} {scrS d : Nat}
theorem b_lowest (hp : cPl tm tc tf EX) {hn : Nat} {M : SMem} (hI : sI tg M) (hh : hn < 6) (h20 : M 70 0 hn ≤ 20) : cBG tm tf EX l dC dI cA ad scrS (d + 1) kX6_lowest [(2, 7, 0), (0, 0, (hn : Int))] M (fun rr MM => MM = M ∧ ∃ x : Int, rr = [x] ∧ (∀ y, x ≤ y ↔ (M 70 0 hn ≤ y ∧ ∀ i, i < hn → 0 ≤ M 67 0 (hn + 6 * i) → M 72 0 i + M 67 0 (hn + 6 * i) ≤ y)) ∧ 0 ≤ x ∧ x ≤ 20) := by
  refine cMeth (v := [(hn : Int)]) (Fd := 90) hp (by decide) gX6_lowest_ok gX6_lowest_m0 (by simp [cAs, cE2, sev, svl, cen]) ?_
  have d70 := wIb (f := 70) (i := hn) (lo := 0) (hi := 2147483647) hI 0 rfl
  have loop : ∀ (m k : Nat), k + m = hn → ∀ x : Int, ((∀ y, x ≤ y ↔ (M 70 0 hn ≤ y ∧ ∀ i, i < k → 0 ≤ M 67 0 (hn + 6 * i) → M 72 0 i + M 67 0 (hn + 6 * i) ≤ y)) ∧ 0 ≤ x ∧ x ≤ 20) → cEnds (cBG tm tf EX l dC dI cA ad scrS d) (fun rr MM => MM = M ∧ ∃ x : Int, rr = [x] ∧ (∀ y, x ≤ y ↔ (M 70 0 hn ≤ y ∧ ∀ i, i < hn → 0 ≤ M 67 0 (hn + 6 * i) → M 72 0 i + M 67 0 (hn + 6 * i) ≤ y)) ∧ 0 ≤ x ∧ x ≤ 20) 90 gX6_lowest 9 [(hn : Int), x, (k : Int)] M := by
    intro m
    induction m with
    | zero =>
      intro k hk x hx
      have ek : k = hn := by omega
      subst ek
      have b1 := hx.2
      refine cEnds_at gX6_lowest_m9 rfl ?_
      refine d_br (fun h => ?_) (fun h => ?_)
      · exact wret1 x (by simp only [cE2, sev, svl, cen, List.cons_append, List.nil_append]; omega) (by omega) ⟨rfl, x, rfl, hx⟩
      · simp only [cCmp, cE2, sev, svl, cen, List.cons_append, List.nil_append] at h
        omega
    | succ m ih =>
      intro k hk x hx
      obtain ⟨hx, b1⟩ := hx
      have b67 := wIb (f := 67) (i := hn + 6 * k) (lo := -1) (hi := 1) hI 0 rfl
      have b72 := wIb (f := 72) (i := k) (lo := 0) (hi := 5) hI 0 rfl
      refine cEnds_at gX6_lowest_m9 rfl ?_
      refine d_br (fun h => ?_) (fun h => ?_)
      · simp only [cCmp, cE2, sev, svl, cen, List.cons_append, List.nil_append] at h
        first
        | omega
        | skip
          exact wret1 x (by simp only [cE2, sev, svl, cen, List.cons_append, List.nil_append]; omega) (by omega) (by omega)
      · simp only [cCmp, cE2, sev, svl, cen, List.cons_append, List.nil_append] at h
        first
        | omega
        | skip
          refine d_rng (by simp only [clo, chi, cE2, sev, svl, cen, List.cons_append, List.nil_append]; omega) ?_
          refine d_rng (by simp only [clo, chi, cE2, sev, svl, cen, List.cons_append, List.nil_append]; omega) ?_
          refine d_row 0 (hn + 6 * k) (by simp only [cE2, sev, svl, cen, List.cons_append, List.nil_append]; omega) (by simp only [cE2, sev, svl, cen, List.cons_append, List.nil_append]; omega) (by omega) ?_
          refine d_br (fun h => ?_) (fun h => ?_)
          · simp only [cCmp, cE2, sev, svl, cen, List.cons_append, List.nil_append] at h
            first
            | omega
            | skip
              refine d_rng (by simp only [clo, chi, cE2, sev, svl, cen, List.cons_append, List.nil_append]; omega) ?_
              refine d_cut [(hn : Int), x, ((k + 1 : Nat) : Int)] (by simp [cE2, sev, svl, cen] <;> omega) ?_
              refine ih (k + 1) (by omega) x ⟨fun y => ?_, b1⟩
              rw [hx y]
              exact ⟨fun q => ⟨q.1, fun i hi hs => (Nat.lt_succ_iff_lt_or_eq.mp hi).elim (fun z => q.2 i z hs) (fun z => by rw [z] at hs; omega)⟩, fun q => ⟨q.1, fun i hi => q.2 i (by omega)⟩⟩
          · simp only [cCmp, cE2, sev, svl, cen, List.cons_append, List.nil_append] at h
            first
            | omega
            | skip
              refine d_row 0 k (by simp only [cE2, sev, svl, cen, List.cons_append, List.nil_append]; omega) (by simp only [cE2, sev, svl, cen, List.cons_append, List.nil_append]; omega) (by omega) ?_
              refine d_rng (by simp only [clo, chi, cE2, sev, svl, cen, List.cons_append, List.nil_append]; omega) ?_
              refine d_opw x ((M 67 0 (hn + 6 * k)) + (M 72 0 k)) (by simp [cE2, sev, svl, cen] <;> omega) (by simp [cE2, sev, svl, cen] <;> omega) ?_
              refine d_rng (by simp only [clo, chi, cE2, sev, svl, cen, List.cons_append, List.nil_append]; omega) ?_
              have e3 := @cfn11 x (M 67 0 (hn + 6 * k) + M 72 0 k)
              refine d_cut [(hn : Int), cfn 11 x (M 67 0 (hn + 6 * k) + M 72 0 k), ((k + 1 : Nat) : Int)] (by simp [cE2, sev, svl, cen] <;> omega) ?_
              refine ih (k + 1) (by omega) _ ⟨fun y => ?_, by omega⟩
              have ey := hx y
              exact ⟨fun q => ⟨(ey.mp (by omega)).1, fun i hi hs => (Nat.lt_succ_iff_lt_or_eq.mp hi).elim (fun z => (ey.mp (by omega)).2 i z hs) (fun z => by rw [z]; omega)⟩, fun q => by have w1 := ey.mpr ⟨q.1, fun i hi => q.2 i (by omega)⟩; have w2 := q.2 k (by omega) (by omega); omega⟩
  refine cEnds_at gX6_lowest_m0 rfl ?_
  refine d_row 0 hn (by simp only [cE2, sev, svl, cen, List.cons_append, List.nil_append]; omega) (by simp only [cE2, sev, svl, cen, List.cons_append, List.nil_append]; omega) hh ?_
  refine d_cut [(hn : Int), M 70 0 hn, ((0 : Nat) : Int)] (by simp [cE2, sev, svl, cen] <;> omega) ?_
  exact loop hn 0 (by omega) _ ⟨fun y => ⟨fun q => ⟨q, fun i hi => absurd hi (Nat.not_lt_zero _)⟩, fun q => q.1⟩, by omega, h20⟩
end CS9
