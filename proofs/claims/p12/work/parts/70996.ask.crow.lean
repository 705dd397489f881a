/-! what the methods do: crowded -/
section CWC
variable {EX : SEx} {l : Launch} {dC : Nat → ClassId} {dI : Nat → Nat → Nat} {cA : Nat → ClassId} {ad : SAd} {scrS d : Nat}
theorem b_crowded (hp : cPl tm tc tf EX) {a b : Int} {M : SMem} (hI : sI tg M) (hw : ∀ i, i < 8 → 0 ≤ M 62 0 i ∧ M 62 0 i ≤ 24) : cBG tm tf EX l dC dI cA ad scrS (d + 3) kX9_crowded [(2, 0, 0), (0, 0, a), (0, 0, b)] M (fun rr MM => MM = M ∧ ∃ r : Int, rr = [r] ∧ ((¬ ((0 ≤ a ∧ a < 12 ∧ M 64 a.toNat 0 ≠ 0) ∧ (0 ≤ b ∧ b < 8 ∧ M 58 0 b.toNat ≠ 0)) ∧ r = -1) ∨ (((0 ≤ a ∧ a < 12 ∧ M 64 a.toNat 0 ≠ 0) ∧ (0 ≤ b ∧ b < 8 ∧ M 58 0 b.toNat ≠ 0)) ∧ ((M 62 0 b.toNat ≤ M 64 a.toNat 1 ∧ r = 0) ∨ (M 64 a.toNat 1 < M 62 0 b.toNat ∧ M 62 0 b.toNat ≤ M 64 a.toNat 1 + 2 ∧ r = 1) ∨ (M 64 a.toNat 1 + 2 < M 62 0 b.toNat ∧ r = 2))))) := by
  have b1 := wIb (f := 64) (i := 1) (lo := 0) (hi := 24) hI a.toNat rfl
  have b2 : 0 ≤ b → b < 8 → 0 ≤ M 62 0 b.toNat ∧ M 62 0 b.toNat ≤ 24 := fun _ _ => hw b.toNat (by omega)
  refine cMeth (v := [a, b]) (Fd := 90) hp (by decide) gX9_crowded_ok gX9_crowded_m0 (by simp [cAs, cE2, sev, svl, cen]) ?_
  refine cEnds_at gX9_crowded_m0 rfl ?_
  refine d_call (b_isPlace hp (a := a)) (by simp [cAs, cE2, sev, svl, cen] <;> omega) ?_
  intro rr M' hq
  obtain ⟨hM', hq⟩ := hq
  rw [hM']
  rcases hq with ⟨rfl, q2⟩ | ⟨rfl, q2⟩
  · refine ⟨rfl, ?_⟩
    refine d_br (fun h => ?_) (fun h => ?_)
    · simp only [cCmp, cE2, sev, svl, cen, List.cons_append, List.nil_append] at h
      omega
    · clear h
      refine d_call (b_isTold hp (a := b)) (by simp [cAs, cE2, sev, svl, cen] <;> omega) ?_
      intro rr M' hq
      obtain ⟨hM', hq⟩ := hq
      rw [hM']
      rcases hq with ⟨rfl, q3⟩ | ⟨rfl, q3⟩
      · refine ⟨rfl, ?_⟩
        refine d_br (fun h => ?_) (fun h => ?_)
        · clear h
          refine d_row 0 b.toNat (by simp only [cE2, sev, svl, cen, List.cons_append, List.nil_append]; omega) (by simp only [cE2, sev, svl, cen, List.cons_append, List.nil_append]; omega) (by omega) ?_
          refine d_idx (by simp only [cE2, sev, svl, cen, List.cons_append, List.nil_append]; omega) ?_
          refine d_fld a.toNat (by simp only [cE2, sev, svl, cen, List.cons_append, List.nil_append]; omega) ?_
          refine d_rng (by simp only [clo, chi, cE2, sev, svl, cen, List.cons_append, List.nil_append]; omega) ?_
          refine d_br (fun h => ?_) (fun h => ?_)
          · simp only [cCmp, cE2, sev, svl, cen, List.cons_append, List.nil_append] at h
            first
            | omega
            | skip
              refine d_br (fun h => ?_) (fun h => ?_)
              · simp only [cCmp, cE2, sev, svl, cen, List.cons_append, List.nil_append] at h
                first
                | omega
                | skip
                  exact d_ret [0] rfl (by decide) ⟨rfl, 0, rfl, by omega⟩
              · simp only [cCmp, cE2, sev, svl, cen, List.cons_append, List.nil_append] at h
                first
                | omega
                | skip
                  exact d_ret [1] rfl (by decide) ⟨rfl, 1, rfl, by omega⟩
          · simp only [cCmp, cE2, sev, svl, cen, List.cons_append, List.nil_append] at h
            first
            | omega
            | skip
              exact d_ret [2] rfl (by decide) ⟨rfl, 2, rfl, by omega⟩
        · simp only [cCmp, cE2, sev, svl, cen, List.cons_append, List.nil_append] at h
          omega
      · refine ⟨rfl, ?_⟩
        refine d_br (fun h => ?_) (fun h => ?_)
        · simp only [cCmp, cE2, sev, svl, cen, List.cons_append, List.nil_append] at h
          omega
        · clear h
          exact d_ret [(-1)] rfl (by decide) ⟨rfl, -1, rfl, by omega⟩
  · refine ⟨rfl, ?_⟩
    refine d_br (fun h => ?_) (fun h => ?_)
    · clear h
      exact d_ret [(-1)] rfl (by decide) ⟨rfl, -1, rfl, by omega⟩
    · simp only [cCmp, cE2, sev, svl, cen, List.cons_append, List.nil_append] at h
      omega
theorem m_crowded (hp : cPl tm tc tf EX) {a b : Int} {M : SMem} (hI : sI tg M) : cBG tm tf EX l dC dI cA ad scrS (d + 4) kX10_crowded [(2, 1, 0), (0, 0, a), (0, 0, b)] M (fun rr MM => MM = supd M 1 0 0 0 ∧ ∃ r : Int, rr = [r] ∧ ((¬ ((0 ≤ a ∧ a < 12 ∧ M 22 0 a.toNat ≠ 0) ∧ (0 ≤ b ∧ b < 8 ∧ M 17 0 b.toNat ≠ 0)) ∧ r = -1) ∨ (((0 ≤ a ∧ a < 12 ∧ M 22 0 a.toNat ≠ 0) ∧ (0 ≤ b ∧ b < 8 ∧ M 17 0 b.toNat ≠ 0)) ∧ ((wSm (M 21 0) (8 * b.toNat) (M 20 0 b.toNat).toNat ≤ M 23 0 a.toNat ∧ r = 0) ∨ (M 23 0 a.toNat < wSm (M 21 0) (8 * b.toNat) (M 20 0 b.toNat).toNat ∧ wSm (M 21 0) (8 * b.toNat) (M 20 0 b.toNat).toNat ≤ M 23 0 a.toNat + 2 ∧ r = 1) ∨ (M 23 0 a.toNat + 2 < wSm (M 21 0) (8 * b.toNat) (M 20 0 b.toNat).toNat ∧ r = 2))))) := by
  refine cMeth (v := [a, b]) (Fd := 90) hp (by decide) gX10_crowded_ok gX10_crowded_m0 (by simp [cAs, cE2, sev, svl, cen]) ?_
  refine cEnds_at gX10_crowded_m0 rfl ?_
  refine d_put 0 0 (by simp only [cE2, sev, svl, cen, List.cons_append, List.nil_append]; omega) (by simp only [cE2, sev, svl, cen, List.cons_append, List.nil_append]; omega) ?_
  have i1 : sI tg (supd M 1 0 0 0) := wI (lo := 0) (hi := 1) hI rfl ⟨by omega, by omega⟩
  have r1 : ∀ f, f ≠ 1 → supd M 1 0 0 0 f = M f := fun f q => supd_ff q
  have b1 := wIb (f := 23) (i := a.toNat) (lo := 0) (hi := 24) hI 0 rfl
  rw [← r1 17 (by decide), ← r1 20 (by decide), ← r1 21 (by decide), ← r1 22 (by decide), ← r1 23 (by decide)]
  rw [← r1 23 (by decide)] at b1
  generalize supd M 1 0 0 0 = M1 at i1 b1 ⊢
  refine d_call (m_isPlace hp (a := a)) (by simp [cAs, cE2, sev, svl, cen] <;> omega) ?_
  intro rr M' hq
  obtain ⟨hM', hq⟩ := hq
  rw [hM']
  rcases hq with ⟨rfl, q2⟩ | ⟨rfl, q2⟩
  · refine ⟨rfl, ?_⟩
    refine d_br (fun h => ?_) (fun h => ?_)
    · simp only [cCmp, cE2, sev, svl, cen, List.cons_append, List.nil_append] at h
      omega
    · clear h
      refine d_call (m_isName hp (a := b)) (by simp [cAs, cE2, sev, svl, cen] <;> omega) ?_
      intro rr M' hq
      obtain ⟨hM', hq⟩ := hq
      rw [hM']
      rcases hq with ⟨rfl, q3⟩ | ⟨rfl, q3⟩
      · refine ⟨rfl, ?_⟩
        refine d_br (fun h => ?_) (fun h => ?_)
        · clear h
          refine d_call (m_width hp (nm := b.toNat) i1 (by omega)) (by simp [cAs, cE2, sev, svl, cen] <;> omega) ?_
          intro rr M' hq
          obtain ⟨hM', rfl⟩ := hq
          rw [hM']
          refine ⟨rfl, ?_⟩
          refine d_row 0 a.toNat (by simp only [cE2, sev, svl, cen, List.cons_append, List.nil_append]; omega) (by simp only [cE2, sev, svl, cen, List.cons_append, List.nil_append]; omega) (by omega) ?_
          refine d_br (fun h => ?_) (fun h => ?_)
          · simp only [cCmp, cE2, sev, svl, cen, List.cons_append, List.nil_append] at h
            first
            | omega
            | skip
              refine d_call (m_width hp (nm := b.toNat) i1 (by omega)) (by simp [cAs, cE2, sev, svl, cen] <;> omega) ?_
              intro rr M' hq
              obtain ⟨hM', rfl⟩ := hq
              rw [hM']
              refine ⟨rfl, ?_⟩
              refine d_row 0 a.toNat (by simp only [cE2, sev, svl, cen, List.cons_append, List.nil_append]; omega) (by simp only [cE2, sev, svl, cen, List.cons_append, List.nil_append]; omega) (by omega) ?_
              refine d_rng (by simp only [clo, chi, cE2, sev, svl, cen, List.cons_append, List.nil_append]; omega) ?_
              refine d_br (fun h => ?_) (fun h => ?_)
              · simp only [cCmp, cE2, sev, svl, cen, List.cons_append, List.nil_append] at h
                first
                | omega
                | skip
                  exact d_ret [2] rfl (by decide) ⟨rfl, 2, rfl, by omega⟩
              · simp only [cCmp, cE2, sev, svl, cen, List.cons_append, List.nil_append] at h
                first
                | omega
                | skip
                  exact d_ret [1] rfl (by decide) ⟨rfl, 1, rfl, by omega⟩
          · simp only [cCmp, cE2, sev, svl, cen, List.cons_append, List.nil_append] at h
            first
            | omega
            | skip
              exact d_ret [0] rfl (by decide) ⟨rfl, 0, rfl, by omega⟩
        · simp only [cCmp, cE2, sev, svl, cen, List.cons_append, List.nil_append] at h
          omega
      · refine ⟨rfl, ?_⟩
        refine d_br (fun h => ?_) (fun h => ?_)
        · simp only [cCmp, cE2, sev, svl, cen, List.cons_append, List.nil_append] at h
          omega
        · clear h
          exact d_ret [(-1)] rfl (by decide) ⟨rfl, -1, rfl, by omega⟩
  · refine ⟨rfl, ?_⟩
    refine d_br (fun h => ?_) (fun h => ?_)
    · clear h
      exact d_ret [(-1)] rfl (by decide) ⟨rfl, -1, rfl, by omega⟩
    · simp only [cCmp, cE2, sev, svl, cen, List.cons_append, List.nil_append] at h
      omega
end CWC
