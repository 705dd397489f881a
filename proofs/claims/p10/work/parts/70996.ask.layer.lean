/-! what the reference's layer does -/
def lyW (M : SMem) (a b w : Int) : Int := if w = 0 then M 28 0 (6 * a + b).toNat else if w = 1 then M 29 0 (6 * a + b).toNat else M 30 0 (6 * a + b).toNat
def lyD (M : SMem) (a b w : Int) : Prop := (0 ≤ a ∧ a < 12 ∧ M 22 0 a.toNat ≠ 0 ∧ 0 ≤ b ∧ b < M 27 0 a.toNat) ∧ 0 ≤ w ∧ w ≤ 2
def lyM (M : SMem) (a b w : Int) (rr : List Int) (MM : SMem) : Prop := ∃ r : Int, rr = [r] ∧ ((lyD M a b w ∧ MM = supd M 1 0 0 0 ∧ r = lyW M a b w) ∨ (¬ lyD M a b w ∧ MM = supd M 1 0 0 1))
section LYC
variable {EX : SEx} {l : Launch} {dC : Nat → ClassId} {dI : Nat → Nat → Nat} {cA : Nat → ClassId} {ad : SAd} {scrS d : Nat}
theorem m_thrown (hp : cPl tm tc tf EX) {M : SMem} (hI : sI tg M) : cBG tm tf EX l dC dI cA ad scrS (d + 1) kX10_thrown [(2, 1, 0)] M (fun rr MM => MM = M ∧ rr = [M 1 0 0]) := by
  refine cMeth (v := []) (Fd := 10) hp (by decide) gX10_thrown_ok gX10_thrown_m0 (by simp [cAs, cE2, sev, svl, cen]) ?_
  refine cEnds_at gX10_thrown_m0 rfl ?_
  have b1 : 0 ≤ M 1 0 0 ∧ M 1 0 0 ≤ 1 := hI.1 1 0 (0, 1) rfl 0
  refine d_fld 0 (by simp only [cE2, sev, svl, cen, List.cons_append, List.nil_append]; omega) ?_
  exact wret1 (M 1 0 0) (by simp only [cE2, sev, svl, cen, List.cons_append, List.nil_append]; omega) (by omega) ⟨rfl, rfl⟩
theorem m_layer (hp : cPl tm tc tf EX) {a b w : Int} {M : SMem} (hI : sI tg M) : cBG tm tf EX l dC dI cA ad scrS (d + 5) kX10_layer [(2, 1, 0), (0, 0, a), (0, 0, b), (0, 0, w)] M (lyM M a b w) := by
  refine cMeth (v := [a, b, w]) (Fd := 90) hp (by decide) gX10_layer_ok gX10_layer_m0 (by simp [cAs, cE2, sev, svl, cen]) ?_
  refine cEnds_at gX10_layer_m0 rfl ?_
  refine d_call (m_isCut (d := d + 1) hp (a := a) (b := b)) (by simp [cAs, cE2, sev, svl, cen]) ?_
  rintro rr M1 ⟨hM1, hq9⟩
  rw [hM1]
  rcases hq9 with ⟨rfl, q1⟩ | ⟨rfl, q1⟩
  · refine ⟨rfl, ?_⟩
    have b6 := wIb (f := 27) (i := a.toNat) (lo := 0) (hi := 6) hI 0 rfl
    refine d_br (fun h => ?_) (fun h => ?_)
    · simp only [cCmp, cE2, sev, svl, cen, List.cons_append, List.nil_append] at h
      omega
    · clear h
      refine d_call (m_within (d := d + 3) hp (x := w) (y := 0) (z := 2)) (by simp [cAs, cE2, sev, svl, cen]) ?_
      rintro rr M2 ⟨hM2, hq9⟩
      rw [hM2]
      rcases hq9 with ⟨rfl, q2⟩ | ⟨rfl, q2⟩
      · refine ⟨rfl, ?_⟩
        have hD : lyD M a b w := ⟨q1, q2⟩
        refine d_br (fun h => ?_) (fun h => ?_)
        · simp only [cCmp, cE2, sev, svl, cen, List.cons_append, List.nil_append] at h
          omega
        · clear h
          refine d_put 0 0 (by simp only [cE2, sev, svl, cen, List.cons_append, List.nil_append]; omega) (by simp only [cE2, sev, svl, cen, List.cons_append, List.nil_append]; omega) ?_
          refine d_fld 0 (by simp only [cE2, sev, svl, cen, List.cons_append, List.nil_append]; omega) ?_
          rw [supd_at]
          refine d_br (fun h => ?_) (fun h => ?_)
          · clear h
            refine d_rng (by simp only [clo, chi, cE2, sev, svl, cen, List.cons_append, List.nil_append]; omega) ?_
            refine d_rng (by simp only [clo, chi, cE2, sev, svl, cen, List.cons_append, List.nil_append]; omega) ?_
            refine d_br (fun h => ?_) (fun h => ?_)
            · simp only [cCmp, cE2, sev, svl, cen, List.cons_append, List.nil_append] at h
              refine d_br (fun h => ?_) (fun h => ?_)
              · simp only [cCmp, cE2, sev, svl, cen, List.cons_append, List.nil_append] at h
                have b9 := wIb (f := 30) (i := (6 * a + b).toNat) (lo := -1) (hi := 7) hI 0 rfl
                refine d_row 0 (6 * a + b).toNat (by simp only [cE2, sev, svl, cen, List.cons_append, List.nil_append]; omega) (by simp only [cE2, sev, svl, cen, List.cons_append, List.nil_append]; omega) (by omega) ?_
                rw [supd_f (by decide)]
                exact wret1 (M 30 0 (6 * a + b).toNat) (by simp only [cE2, sev, svl, cen, List.cons_append, List.nil_append]; omega) (by omega) ⟨_, rfl, Or.inl ⟨hD, rfl, by unfold lyW; rw [if_neg (by omega), if_neg (by omega)]⟩⟩
              · simp only [cCmp, cE2, sev, svl, cen, List.cons_append, List.nil_append] at h
                have b9 := wIb (f := 29) (i := (6 * a + b).toNat) (lo := 0) (hi := 4) hI 0 rfl
                refine d_row 0 (6 * a + b).toNat (by simp only [cE2, sev, svl, cen, List.cons_append, List.nil_append]; omega) (by simp only [cE2, sev, svl, cen, List.cons_append, List.nil_append]; omega) (by omega) ?_
                rw [supd_f (by decide)]
                exact wret1 (M 29 0 (6 * a + b).toNat) (by simp only [cE2, sev, svl, cen, List.cons_append, List.nil_append]; omega) (by omega) ⟨_, rfl, Or.inl ⟨hD, rfl, by unfold lyW; rw [if_neg (by omega), if_pos (by omega)]⟩⟩
            · simp only [cCmp, cE2, sev, svl, cen, List.cons_append, List.nil_append] at h
              have b9 := wIb (f := 28) (i := (6 * a + b).toNat) (lo := 0) (hi := 5) hI 0 rfl
              refine d_row 0 (6 * a + b).toNat (by simp only [cE2, sev, svl, cen, List.cons_append, List.nil_append]; omega) (by simp only [cE2, sev, svl, cen, List.cons_append, List.nil_append]; omega) (by omega) ?_
              rw [supd_f (by decide)]
              exact wret1 (M 28 0 (6 * a + b).toNat) (by simp only [cE2, sev, svl, cen, List.cons_append, List.nil_append]; omega) (by omega) ⟨_, rfl, Or.inl ⟨hD, rfl, by unfold lyW; rw [if_pos (by omega)]⟩⟩
          · simp only [cCmp, cE2, sev, svl, cen, List.cons_append, List.nil_append] at h
            omega
      · refine ⟨rfl, ?_⟩
        refine d_br (fun h => ?_) (fun h => ?_)
        · refine d_put 0 1 (by simp only [cE2, sev, svl, cen, List.cons_append, List.nil_append]; omega) (by simp only [cE2, sev, svl, cen, List.cons_append, List.nil_append]; omega) ?_
          refine d_fld 0 (by simp only [cE2, sev, svl, cen, List.cons_append, List.nil_append]; omega) ?_
          rw [supd_at]
          clear h
          refine d_br (fun h => ?_) (fun h => ?_)
          · simp only [cCmp, cE2, sev, svl, cen, List.cons_append, List.nil_append] at h
            omega
          · exact wret1 0 (by simp only [cE2, sev, svl, cen, List.cons_append, List.nil_append]; omega) (by omega) ⟨0, rfl, Or.inr ⟨fun z => q2 z.2, rfl⟩⟩
        · simp only [cCmp, cE2, sev, svl, cen, List.cons_append, List.nil_append] at h
          omega
  · refine ⟨rfl, ?_⟩
    refine d_br (fun h => ?_) (fun h => ?_)
    · refine d_put 0 1 (by simp only [cE2, sev, svl, cen, List.cons_append, List.nil_append]; omega) (by simp only [cE2, sev, svl, cen, List.cons_append, List.nil_append]; omega) ?_
      refine d_fld 0 (by simp only [cE2, sev, svl, cen, List.cons_append, List.nil_append]; omega) ?_
      rw [supd_at]
      clear h
      refine d_br (fun h => ?_) (fun h => ?_)
      · simp only [cCmp, cE2, sev, svl, cen, List.cons_append, List.nil_append] at h
        omega
      · exact wret1 0 (by simp only [cE2, sev, svl, cen, List.cons_append, List.nil_append]; omega) (by omega) ⟨0, rfl, Or.inr ⟨fun z => q1 z.1, rfl⟩⟩
    · simp only [cCmp, cE2, sev, svl, cen, List.cons_append, List.nil_append] at h
      omega
end LYC
