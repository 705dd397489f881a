/-! the run: the reference's small methods, and what a line's codes come to -/
/-- what the reference was told is the same -/
def rZr (Z : RZT) (M : SMem) : Prop := (∀ p, p < 12 → M 22 0 p = Z.1 p 0 ∧ M 23 0 p = Z.1 p 1 ∧ M 24 0 p = Z.1 p 2 ∧ M 25 0 p = Z.1 p 3 ∧ M 27 0 p = Z.1 p 5 ∧ M 30 0 (6 * p) = Z.2.1 p 0) ∧ (∀ n, n < 8 → wSm (M 21 0) (8 * n) (M 20 0 n).toNat = Z.2.2.1 n) ∧ M 20 0 = Z.2.2.2.1 ∧ M 21 0 = Z.2.2.2.2.1 ∧ ∀ r, r < 6 → M 45 0 r = Z.2.2.2.2.2.1 r ∧ M 46 0 r = Z.2.2.2.2.2.2 r
theorem rZr_cg {Z : RZT} {M M' : SMem} (h : ∀ f, f ∈ [20, 21, 22, 23, 24, 25, 27, 30, 45, 46] → M' f = M f) (g : rZr Z M) : rZr Z M' := by
  unfold rZr
  rw [h 20 (by decide), h 21 (by decide), h 22 (by decide), h 23 (by decide), h 24 (by decide), h 25 (by decide), h 27 (by decide), h 30 (by decide), h 45 (by decide), h 46 (by decide)]
  exact g
/-- an order's lines lie there (the reference's) -/
def oMl (M : SMem) (r : Nat) (ls : List OLn) : Prop := M 37 0 r = (ls.length : Int) ∧ ls.length ≤ 12 ∧ (∀ q ∈ ls, oLnk q) ∧ oLs M (12 * r) (1100 * r) 1000 ls
theorem oMl_cg {M M' : SMem} {r : Nat} {ls : List OLn} (h : ∀ f i, 37 ≤ f → f ≤ 42 → M' f 0 i = M f 0 i) (g : oMl M r ls) : oMl M' r ls := by
  obtain ⟨g1, g2, g3, g4⟩ := g
  exact ⟨(h 37 r (by omega) (by omega)).trans g1, g2, g3, oLs_mv (fun f j hf _ => h f _ (by omega) (by omega)) (fun j _ => ⟨h 41 _ (by omega) (by omega), h 42 _ (by omega) (by omega)⟩) g4⟩
section CR6
variable {EX : SEx} {l : Launch} {dC : Nat → ClassId} {dI : Nat → Nat → Nat} {cA : Nat → ClassId} {ad : SAd} {scrS d : Nat}
theorem m_lays (hp : cPl tm tc tf EX) {p n : Nat} {a b c : Int} {M : SMem} (hp9 : p < 12) (h6 : n < 6) (g0 : M 47 0 p = (n : Int)) : cBG tm tf EX l dC dI cA ad scrS (d + 1) kX10_lays [(2, 1, 0), (0, 0, (p : Int)), (0, 0, a), (0, 0, b), (0, 0, c)] M (fun rr MM => rr = [] ∧ MM = rAdd 47 48 49 50 M p n a b c) := by
  refine cMeth (v := [(p : Int), a, b, c]) (Fd := 90) hp (by decide) gX10_lays_ok gX10_lays_m0 (by simp [cAs, cE2, sev, svl, cen]) ?_
  refine cEnds_at gX10_lays_m0 rfl ?_
  refine d_rng (by simp only [clo, chi, cE2, sev, svl, cen, List.cons_append, List.nil_append]; omega) ?_
  refine d_row 0 p (by simp only [cE2, sev, svl, cen, List.cons_append, List.nil_append]; omega) (by simp only [cE2, sev, svl, cen, List.cons_append, List.nil_append]; omega) (by omega) ?_
  rw [g0]
  refine d_rng (by simp only [clo, chi, cE2, sev, svl, cen, List.cons_append, List.nil_append]; omega) ?_
  refine d_set 0 (6 * p + n) a (by simp only [cE2, sev, svl, cen, List.cons_append, List.nil_append]; omega) (by simp only [cE2, sev, svl, cen, List.cons_append, List.nil_append]; omega) (by omega) (by simp only [cE2, sev, svl, cen, List.cons_append, List.nil_append]; omega) ?_
  refine d_set 0 (6 * p + n) b (by simp only [cE2, sev, svl, cen, List.cons_append, List.nil_append]; omega) (by simp only [cE2, sev, svl, cen, List.cons_append, List.nil_append]; omega) (by omega) (by simp only [cE2, sev, svl, cen, List.cons_append, List.nil_append]; omega) ?_
  refine d_set 0 (6 * p + n) c (by simp only [cE2, sev, svl, cen, List.cons_append, List.nil_append]; omega) (by simp only [cE2, sev, svl, cen, List.cons_append, List.nil_append]; omega) (by omega) (by simp only [cE2, sev, svl, cen, List.cons_append, List.nil_append]; omega) ?_
  refine d_row 0 p (by simp only [cE2, sev, svl, cen, List.cons_append, List.nil_append]; omega) (by simp only [cE2, sev, svl, cen, List.cons_append, List.nil_append]; omega) (by omega) ?_
  rw [supd_f (by decide)]
  rw [supd_f (by decide)]
  rw [supd_f (by decide)]
  rw [g0]
  refine d_rng (by simp only [clo, chi, cE2, sev, svl, cen, List.cons_append, List.nil_append]; omega) ?_
  refine d_set 0 p ((n : Int) + 1) (by simp only [cE2, sev, svl, cen, List.cons_append, List.nil_append]; omega) (by simp only [cE2, sev, svl, cen, List.cons_append, List.nil_append]; omega) (by omega) (by simp only [cE2, sev, svl, cen, List.cons_append, List.nil_append]; omega) ?_
  exact d_ret [] rfl (by decide) ⟨rfl, rfl⟩
theorem m_standing (hp : cPl tm tc tf EX) {p : Nat} {st : List RC} {M : SMem} (hI : sI tg M) (hp9 : p < 12) (h6 : st.length ≤ 6) (g : rLg 47 48 49 50 M p st) : cBG tm tf EX l dC dI cA ad scrS (d + 1) kX10_standing [(2, 1, 0), (0, 0, (p : Int))] M (fun rr MM => MM = M ∧ rr = [rTop st]) := by
  obtain ⟨n, hn⟩ : ∃ n, n = st.length := ⟨_, rfl⟩
  have g0 : M 47 0 p = (n : Int) := by rw [hn]; exact g.1
  have b50 := wIb (f := 50) (i := 6 * p + n - 1) (lo := -1) (hi := 7) hI 0 rfl
  refine cMeth (v := [(p : Int)]) (Fd := 90) hp (by decide) gX10_standing_ok gX10_standing_m0 (by simp [cAs, cE2, sev, svl, cen]) ?_
  refine cEnds_at gX10_standing_m0 rfl ?_
  refine d_row 0 p (by simp only [cE2, sev, svl, cen, List.cons_append, List.nil_append]; omega) (by simp only [cE2, sev, svl, cen, List.cons_append, List.nil_append]; omega) (by omega) ?_
  rw [g0]
  refine d_br (fun h => ?_) (fun h => ?_)
  · simp only [cCmp, cE2, sev, svl, cen, List.cons_append, List.nil_append] at h
    first
    | omega
    | skip
      refine d_rng (by simp only [clo, chi, cE2, sev, svl, cen, List.cons_append, List.nil_append]; omega) ?_
      refine d_row 0 p (by simp only [cE2, sev, svl, cen, List.cons_append, List.nil_append]; omega) (by simp only [cE2, sev, svl, cen, List.cons_append, List.nil_append]; omega) (by omega) ?_
      rw [g0]
      refine d_rng (by simp only [clo, chi, cE2, sev, svl, cen, List.cons_append, List.nil_append]; omega) ?_
      refine d_rng (by simp only [clo, chi, cE2, sev, svl, cen, List.cons_append, List.nil_append]; omega) ?_
      refine d_row 0 (6 * p + n - 1) (by simp only [cE2, sev, svl, cen, List.cons_append, List.nil_append]; omega) (by simp only [cE2, sev, svl, cen, List.cons_append, List.nil_append]; omega) (by omega) ?_
      exact wret1 (M 50 0 (6 * p + n - 1)) (by simp only [cE2, sev, svl, cen, List.cons_append, List.nil_append]; omega) (by omega) ⟨rfl, by rw [rLg_top hn (by omega) g]⟩
  · simp only [cCmp, cE2, sev, svl, cen, List.cons_append, List.nil_append] at h
    first
    | omega
    | skip
      exact d_ret [(-1)] rfl (by decide) ⟨rfl, by rw [show st = [] from List.length_eq_zero_iff.mp (by omega)]; rfl⟩
theorem m_both (hp : cPl tm tc tf EX) {k c a b : Int} {M : SMem} (hk : k = 5 ∨ k = 6 ∨ (18 ≤ k ∧ k ≤ 22)) (hc : c = oOp1 k) : cBG tm tf EX l dC dI cA ad scrS (d + 1) kX10_both [(0, 0, c), (0, 0, a), (0, 0, b)] M (fun rr MM => MM = M ∧ rr = [eJ k a b]) := by
  have b4 : -2147483648 ≤ cfn 4 a b ∧ cfn 4 a b ≤ 2147483647 := k32 _
  have b16 : -2147483648 ≤ cfn 16 a b ∧ cfn 16 a b ≤ 2147483647 := k32 _
  have b17 : -2147483648 ≤ cfn 17 a b ∧ cfn 17 a b ≤ 2147483647 := k32 _
  have hc : (k = 5 ∧ c = 9) ∨ (k = 6 ∧ c = 10) ∨ (k = 18 ∧ c = 7) ∨ (k = 19 ∧ c = 8) ∨ (k = 20 ∧ c = 4) ∨ (k = 21 ∧ c = 5) ∨ (k = 22 ∧ c = 6) := by
    have : k = 5 ∨ k = 6 ∨ k = 18 ∨ k = 19 ∨ k = 20 ∨ k = 21 ∨ k = 22 := by omega
    rcases this with rfl | rfl | rfl | rfl | rfl | rfl | rfl
    · exact Or.inl ⟨rfl, hc.trans (by decide)⟩
    · exact Or.inr (Or.inl ⟨rfl, hc.trans (by decide)⟩)
    · exact Or.inr (Or.inr (Or.inl ⟨rfl, hc.trans (by decide)⟩))
    · exact Or.inr (Or.inr (Or.inr (Or.inl ⟨rfl, hc.trans (by decide)⟩)))
    · exact Or.inr (Or.inr (Or.inr (Or.inr (Or.inl ⟨rfl, hc.trans (by decide)⟩))))
    · exact Or.inr (Or.inr (Or.inr (Or.inr (Or.inr (Or.inl ⟨rfl, hc.trans (by decide)⟩)))))
    · exact Or.inr (Or.inr (Or.inr (Or.inr (Or.inr (Or.inr ⟨rfl, hc.trans (by decide)⟩)))))
  refine cMeth (v := [c, a, b]) (Fd := 90) hp (by decide) gX10_both_ok gX10_both_m0 (by simp [cAs, cE2, sev, svl, cen]) ?_
  refine cEnds_at gX10_both_m0 rfl ?_
  refine d_br (fun h => ?_) (fun h => ?_)
  · simp only [cCmp, cE2, sev, svl, cen, List.cons_append, List.nil_append] at h
    first
    | omega
    | skip
      refine d_br (fun h => ?_) (fun h => ?_)
      · simp only [cCmp, cE2, sev, svl, cen, List.cons_append, List.nil_append] at h
        first
        | omega
        | skip
          exact d_ret [1] rfl (by decide) ⟨rfl, by unfold eJ; (repeat' split) <;> first | rfl | omega⟩
      · simp only [cCmp, cE2, sev, svl, cen, List.cons_append, List.nil_append] at h
        first
        | omega
        | skip
          refine d_br (fun h => ?_) (fun h => ?_)
          · simp only [cCmp, cE2, sev, svl, cen, List.cons_append, List.nil_append] at h
            first
            | omega
            | skip
              exact d_ret [0] rfl (by decide) ⟨rfl, by unfold eJ; (repeat' split) <;> first | rfl | omega⟩
          · simp only [cCmp, cE2, sev, svl, cen, List.cons_append, List.nil_append] at h
            first
            | omega
            | skip
              exact d_ret [1] rfl (by decide) ⟨rfl, by unfold eJ; (repeat' split) <;> first | rfl | omega⟩
  · simp only [cCmp, cE2, sev, svl, cen, List.cons_append, List.nil_append] at h
    first
    | omega
    | skip
      refine d_br (fun h => ?_) (fun h => ?_)
      · simp only [cCmp, cE2, sev, svl, cen, List.cons_append, List.nil_append] at h
        first
        | omega
        | skip
          refine d_br (fun h => ?_) (fun h => ?_)
          · simp only [cCmp, cE2, sev, svl, cen, List.cons_append, List.nil_append] at h
            first
            | omega
            | skip
              exact d_ret [1] rfl (by decide) ⟨rfl, by unfold eJ; (repeat' split) <;> first | rfl | omega⟩
          · simp only [cCmp, cE2, sev, svl, cen, List.cons_append, List.nil_append] at h
            first
            | omega
            | skip
              refine d_br (fun h => ?_) (fun h => ?_)
              · simp only [cCmp, cE2, sev, svl, cen, List.cons_append, List.nil_append] at h
                first
                | omega
                | skip
                  exact d_ret [0] rfl (by decide) ⟨rfl, by unfold eJ; (repeat' split) <;> first | rfl | omega⟩
              · simp only [cCmp, cE2, sev, svl, cen, List.cons_append, List.nil_append] at h
                first
                | omega
                | skip
                  exact d_ret [1] rfl (by decide) ⟨rfl, by unfold eJ; (repeat' split) <;> first | rfl | omega⟩
      · simp only [cCmp, cE2, sev, svl, cen, List.cons_append, List.nil_append] at h
        first
        | omega
        | skip
          refine d_br (fun h => ?_) (fun h => ?_)
          · simp only [cCmp, cE2, sev, svl, cen, List.cons_append, List.nil_append] at h
            first
            | omega
            | skip
              refine d_opw a b (by simp [cE2, sev, svl, cen] <;> omega) (by simp [cE2, sev, svl, cen] <;> omega) ?_
              exact wret1 (cfn 16 a b) (by simp only [cE2, sev, svl, cen, List.cons_append, List.nil_append]; omega) (by omega) ⟨rfl, by unfold eJ; (repeat' split) <;> first | rfl | omega⟩
          · simp only [cCmp, cE2, sev, svl, cen, List.cons_append, List.nil_append] at h
            first
            | omega
            | skip
              refine d_br (fun h => ?_) (fun h => ?_)
              · simp only [cCmp, cE2, sev, svl, cen, List.cons_append, List.nil_append] at h
                first
                | omega
                | skip
                  refine d_opw a b (by simp [cE2, sev, svl, cen] <;> omega) (by simp [cE2, sev, svl, cen] <;> omega) ?_
                  exact wret1 (cfn 17 a b) (by simp only [cE2, sev, svl, cen, List.cons_append, List.nil_append]; omega) (by omega) ⟨rfl, by unfold eJ; (repeat' split) <;> first | rfl | omega⟩
              · simp only [cCmp, cE2, sev, svl, cen, List.cons_append, List.nil_append] at h
                first
                | omega
                | skip
                  refine d_br (fun h => ?_) (fun h => ?_)
                  · simp only [cCmp, cE2, sev, svl, cen, List.cons_append, List.nil_append] at h
                    first
                    | omega
                    | skip
                      refine d_opw a b (by simp [cE2, sev, svl, cen] <;> omega) (by simp [cE2, sev, svl, cen] <;> omega) ?_
                      exact wret1 (cfn 4 a b) (by simp only [cE2, sev, svl, cen, List.cons_append, List.nil_append]; omega) (by omega) ⟨rfl, by unfold eJ; (repeat' split) <;> first | rfl | omega⟩
                  · simp only [cCmp, cE2, sev, svl, cen, List.cons_append, List.nil_append] at h
                    first
                    | omega
                    | skip
                      refine d_br (fun h => ?_) (fun h => ?_)
                      · simp only [cCmp, cE2, sev, svl, cen, List.cons_append, List.nil_append] at h
                        first
                        | omega
                        | skip
                          refine d_br (fun h => ?_) (fun h => ?_)
                          · simp only [cCmp, cE2, sev, svl, cen, List.cons_append, List.nil_append] at h
                            first
                            | omega
                            | skip
                              exact d_ret [0] rfl (by decide) ⟨rfl, by unfold eJ; (repeat' split) <;> first | rfl | omega⟩
                          · simp only [cCmp, cE2, sev, svl, cen, List.cons_append, List.nil_append] at h
                            first
                            | omega
                            | skip
                              exact d_ret [1] rfl (by decide) ⟨rfl, by unfold eJ; (repeat' split) <;> first | rfl | omega⟩
                      · simp only [cCmp, cE2, sev, svl, cen, List.cons_append, List.nil_append] at h
                        first
                        | omega
                        | skip
                          refine d_br (fun h => ?_) (fun h => ?_)
                          · simp only [cCmp, cE2, sev, svl, cen, List.cons_append, List.nil_append] at h
                            first
                            | omega
                            | skip
                              refine d_br (fun h => ?_) (fun h => ?_)
                              · simp only [cCmp, cE2, sev, svl, cen, List.cons_append, List.nil_append] at h
                                first
                                | omega
                                | skip
                                  exact d_ret [0] rfl (by decide) ⟨rfl, by unfold eJ; (repeat' split) <;> first | rfl | omega⟩
                              · simp only [cCmp, cE2, sev, svl, cen, List.cons_append, List.nil_append] at h
                                first
                                | omega
                                | skip
                                  exact d_ret [1] rfl (by decide) ⟨rfl, by unfold eJ; (repeat' split) <;> first | rfl | omega⟩
                          · simp only [cCmp, cE2, sev, svl, cen, List.cons_append, List.nil_append] at h
                            first
                            | omega
                            | skip
                              refine d_br (fun h => ?_) (fun h => ?_)
                              · simp only [cCmp, cE2, sev, svl, cen, List.cons_append, List.nil_append] at h
                                first
                                | omega
                                | skip
                                  refine d_br (fun h => ?_) (fun h => ?_)
                                  · simp only [cCmp, cE2, sev, svl, cen, List.cons_append, List.nil_append] at h
                                    first
                                    | omega
                                    | skip
                                      exact d_ret [0] rfl (by decide) ⟨rfl, by unfold eJ; (repeat' split) <;> first | rfl | omega⟩
                                  · simp only [cCmp, cE2, sev, svl, cen, List.cons_append, List.nil_append] at h
                                    first
                                    | omega
                                    | skip
                                      refine d_br (fun h => ?_) (fun h => ?_)
                                      · simp only [cCmp, cE2, sev, svl, cen, List.cons_append, List.nil_append] at h
                                        first
                                        | omega
                                        | skip
                                          exact d_ret [0] rfl (by decide) ⟨rfl, by unfold eJ; (repeat' split) <;> first | rfl | omega⟩
                                      · simp only [cCmp, cE2, sev, svl, cen, List.cons_append, List.nil_append] at h
                                        first
                                        | omega
                                        | skip
                                          exact d_ret [1] rfl (by decide) ⟨rfl, by unfold eJ; (repeat' split) <;> first | rfl | omega⟩
                              · simp only [cCmp, cE2, sev, svl, cen, List.cons_append, List.nil_append] at h
                                first
                                | omega
                                | skip
                                  omega
theorem rFc_all {Z : RZT} {p : Nat} {st : List RC} {M : SMem} (h0 : M 43 0 0 = Z.1 p 2) (h1 : M 43 0 1 = Z.1 p 1) (h2 : M 43 0 2 = Z.1 p 3) (h3 : M 43 0 3 = if rTop st = -1 then 0 else Z.2.2.1 (rTop st).toNat) (h4 : M 43 0 4 = (p : Int)) (h5 : M 43 0 5 = (st.length : Int)) (h6 : M 43 0 6 = if rTop st = -1 then 99 else rTop st) : ∀ k : Nat, k < 7 → M 43 0 k = rFc Z p st (8 + k) := by
  intro k hk
  match k, hk with
  | 0, _ => exact h0
  | 1, _ => exact h1
  | 2, _ => exact h2
  | 3, _ => exact h3
  | 4, _ => exact h4
  | 5, _ => exact h5
  | 6, _ => exact h6
theorem m_findFacts (hp : cPl tm tc tf EX) {Z : RZT} {p : Nat} {st : List RC} {M : SMem} (hI : sI tg M) (hp9 : p < 12) (hw : rWf st) (g : rLg 47 48 49 50 M p st) (hZ : rZr Z M) : cBG tm tf EX l dC dI cA ad scrS (d + 3) kX10_findFacts [(2, 1, 0), (0, 0, (p : Int))] M (fun rr MM => rr = [] ∧ sI tg MM ∧ (∀ f j i, f ≠ 43 → MM f j i = M f j i) ∧ ∀ k : Nat, k < 7 → MM 43 0 k = rFc Z p st (8 + k)) := by
  have tb := rWf_top hw
  have h6 := hw.1
  obtain ⟨z1, z2, -⟩ := hZ
  obtain ⟨-, y1, y2, y3, -⟩ := z1 p hp9
  have b1 := wIb (f := 23) (i := p) (lo := 0) (hi := 24) hI 0 rfl
  have b2 := wIb (f := 24) (i := p) (lo := 0) (hi := 99) hI 0 rfl
  have b3 := wIb (f := 25) (i := p) (lo := 0) (hi := 3) hI 0 rfl
  obtain ⟨W, hW⟩ : ∃ W, W = Z.2.2.1 (rTop st).toNat := ⟨_, rfl⟩
  have ms : ∀ (m : Nat) (MW : SMem), m < 8 → sI tg MW → MW 21 0 = M 21 0 → MW 20 0 = M 20 0 → cBG tm tf EX l dC dI cA ad scrS (d + 2) kX10_width [(2, 1, 0), (0, 0, (m : Int))] MW (fun rr MM => MM = MW ∧ rr = [Z.2.2.1 m] ∧ -2147483648 ≤ Z.2.2.1 m ∧ Z.2.2.1 m ≤ 2147483647) := fun m MW hm i1 e1 e2 => by
    have w9 := m_width (EX := EX) (l := l) (dC := dC) (dI := dI) (cA := cA) (ad := ad) (scrS := scrS) (d := d) hp (nm := m) i1 hm
    rw [e1, e2, z2 m hm] at w9
    have bw := wSm_le (M 21 0) (8 * m) (M 20 0 m).toNat
    have b20 := wIb (f := 20) (i := m) (lo := 0) (hi := 8) hI 0 rfl
    rw [z2 m hm] at bw
    exact oBG_post w9 (fun rr MM h => ⟨h.1, h.2, by omega, by omega⟩)
  have g1 := g.1
  refine cMeth (v := [(p : Int)]) (Fd := 90) hp (by decide) gX10_findFacts_ok gX10_findFacts_m0 (by simp [cAs, cE2, sev, svl, cen]) ?_
  refine cEnds_at gX10_findFacts_m0 rfl ?_
  refine d_call (m_standing (d := d + 1) hp hI hp9 hw.1 g) (by simp [cAs, cE2, sev, svl, cen] <;> omega) ?_
  intro rr M' hq
  obtain ⟨hM', rfl⟩ := hq
  rw [hM']
  refine ⟨rfl, ?_⟩
  refine d_row 0 p (by simp only [cE2, sev, svl, cen, List.cons_append, List.nil_append]; omega) (by simp only [cE2, sev, svl, cen, List.cons_append, List.nil_append]; omega) (by omega) ?_
  rw [y2]
  refine d_set 0 0 (Z.1 p 2) (by simp only [cE2, sev, svl, cen, List.cons_append, List.nil_append]; omega) (by simp only [cE2, sev, svl, cen, List.cons_append, List.nil_append]; omega) (by omega) (by simp only [cE2, sev, svl, cen, List.cons_append, List.nil_append]; omega) ?_
  refine d_row 0 p (by simp only [cE2, sev, svl, cen, List.cons_append, List.nil_append]; omega) (by simp only [cE2, sev, svl, cen, List.cons_append, List.nil_append]; omega) (by omega) ?_
  rw [supd_f (by decide)]
  rw [y1]
  refine d_set 0 1 (Z.1 p 1) (by simp only [cE2, sev, svl, cen, List.cons_append, List.nil_append]; omega) (by simp only [cE2, sev, svl, cen, List.cons_append, List.nil_append]; omega) (by omega) (by simp only [cE2, sev, svl, cen, List.cons_append, List.nil_append]; omega) ?_
  refine d_row 0 p (by simp only [cE2, sev, svl, cen, List.cons_append, List.nil_append]; omega) (by simp only [cE2, sev, svl, cen, List.cons_append, List.nil_append]; omega) (by omega) ?_
  rw [supd_f (by decide)]
  rw [supd_f (by decide)]
  rw [y3]
  refine d_set 0 2 (Z.1 p 3) (by simp only [cE2, sev, svl, cen, List.cons_append, List.nil_append]; omega) (by simp only [cE2, sev, svl, cen, List.cons_append, List.nil_append]; omega) (by omega) (by simp only [cE2, sev, svl, cen, List.cons_append, List.nil_append]; omega) ?_
  refine d_br (fun h => ?_) (fun h => ?_)
  · simp only [cCmp, cE2, sev, svl, cen, List.cons_append, List.nil_append] at h
    first
    | omega
    | skip
      refine d_call (ms (rTop st).toNat _ (by omega) (wI (wI (wI hI (lo := -2147483648) (hi := 2147483647) rfl ⟨by omega, by omega⟩) (lo := -2147483648) (hi := 2147483647) rfl ⟨by omega, by omega⟩) (lo := -2147483648) (hi := 2147483647) rfl ⟨by omega, by omega⟩) (by funext i; rw [supd_f (by decide), supd_f (by decide), supd_f (by decide)]) (by funext i; rw [supd_f (by decide), supd_f (by decide), supd_f (by decide)])) (by simp [cAs, cE2, sev, svl, cen] <;> omega) ?_
      intro rr M' hq
      obtain ⟨hM9, rfl, bW⟩ := hq
      rw [hM9]
      refine ⟨rfl, ?_⟩
      refine d_set 0 3 (Z.2.2.1 (rTop st).toNat) (by simp only [cE2, sev, svl, cen, List.cons_append, List.nil_append]; omega) (by simp only [cE2, sev, svl, cen, List.cons_append, List.nil_append]; omega) (by omega) (by simp only [cE2, sev, svl, cen, List.cons_append, List.nil_append]; omega) ?_
      refine d_set 0 4 (p : Int) (by simp only [cE2, sev, svl, cen, List.cons_append, List.nil_append]; omega) (by simp only [cE2, sev, svl, cen, List.cons_append, List.nil_append]; omega) (by omega) (by simp only [cE2, sev, svl, cen, List.cons_append, List.nil_append]; omega) ?_
      refine d_row 0 p (by simp only [cE2, sev, svl, cen, List.cons_append, List.nil_append]; omega) (by simp only [cE2, sev, svl, cen, List.cons_append, List.nil_append]; omega) (by omega) ?_
      rw [supd_f (by decide)]
      rw [supd_f (by decide)]
      rw [supd_f (by decide)]
      rw [supd_f (by decide)]
      rw [supd_f (by decide)]
      rw [g1]
      refine d_set 0 5 (st.length : Int) (by simp only [cE2, sev, svl, cen, List.cons_append, List.nil_append]; omega) (by simp only [cE2, sev, svl, cen, List.cons_append, List.nil_append]; omega) (by omega) (by simp only [cE2, sev, svl, cen, List.cons_append, List.nil_append]; omega) ?_
      refine d_br (fun h => ?_) (fun h => ?_)
      · simp only [cCmp, cE2, sev, svl, cen, List.cons_append, List.nil_append] at h
        first
        | omega
        | skip
          refine d_set 0 6 (rTop st) (by simp only [cE2, sev, svl, cen, List.cons_append, List.nil_append]; omega) (by simp only [cE2, sev, svl, cen, List.cons_append, List.nil_append]; omega) (by omega) (by simp only [cE2, sev, svl, cen, List.cons_append, List.nil_append]; omega) ?_
          exact d_ret [] rfl (by decide) ⟨rfl, wI (wI (wI (wI (wI (wI (wI hI (lo := -2147483648) (hi := 2147483647) rfl ⟨by omega, by omega⟩) (lo := -2147483648) (hi := 2147483647) rfl ⟨by omega, by omega⟩) (lo := -2147483648) (hi := 2147483647) rfl ⟨by omega, by omega⟩) (lo := -2147483648) (hi := 2147483647) rfl ⟨by omega, by omega⟩) (lo := -2147483648) (hi := 2147483647) rfl ⟨by omega, by omega⟩) (lo := -2147483648) (hi := 2147483647) rfl ⟨by omega, by omega⟩) (lo := -2147483648) (hi := 2147483647) rfl ⟨by omega, by omega⟩, fun f j i hf => by simp only [supd_f hf], rFc_all (by simp [supd]) (by simp [supd]) (by simp [supd]) (by rw [if_neg (by omega)]; simp [supd]) (by simp [supd]) (by simp [supd]) (by rw [if_neg (by omega)]; simp [supd])⟩
      · simp only [cCmp, cE2, sev, svl, cen, List.cons_append, List.nil_append] at h
        first
        | omega
        | skip
          refine d_set 0 6 99 (by simp only [cE2, sev, svl, cen, List.cons_append, List.nil_append]; omega) (by simp only [cE2, sev, svl, cen, List.cons_append, List.nil_append]; omega) (by omega) (by simp only [cE2, sev, svl, cen, List.cons_append, List.nil_append]; omega) ?_
          exact d_ret [] rfl (by decide) (by omega)
  · simp only [cCmp, cE2, sev, svl, cen, List.cons_append, List.nil_append] at h
    first
    | omega
    | skip
      refine d_set 0 3 0 (by simp only [cE2, sev, svl, cen, List.cons_append, List.nil_append]; omega) (by simp only [cE2, sev, svl, cen, List.cons_append, List.nil_append]; omega) (by omega) (by simp only [cE2, sev, svl, cen, List.cons_append, List.nil_append]; omega) ?_
      refine d_set 0 4 (p : Int) (by simp only [cE2, sev, svl, cen, List.cons_append, List.nil_append]; omega) (by simp only [cE2, sev, svl, cen, List.cons_append, List.nil_append]; omega) (by omega) (by simp only [cE2, sev, svl, cen, List.cons_append, List.nil_append]; omega) ?_
      refine d_row 0 p (by simp only [cE2, sev, svl, cen, List.cons_append, List.nil_append]; omega) (by simp only [cE2, sev, svl, cen, List.cons_append, List.nil_append]; omega) (by omega) ?_
      rw [supd_f (by decide)]
      rw [supd_f (by decide)]
      rw [supd_f (by decide)]
      rw [supd_f (by decide)]
      rw [supd_f (by decide)]
      rw [g1]
      refine d_set 0 5 (st.length : Int) (by simp only [cE2, sev, svl, cen, List.cons_append, List.nil_append]; omega) (by simp only [cE2, sev, svl, cen, List.cons_append, List.nil_append]; omega) (by omega) (by simp only [cE2, sev, svl, cen, List.cons_append, List.nil_append]; omega) ?_
      refine d_br (fun h => ?_) (fun h => ?_)
      · simp only [cCmp, cE2, sev, svl, cen, List.cons_append, List.nil_append] at h
        first
        | omega
        | skip
          refine d_set 0 6 (rTop st) (by simp only [cE2, sev, svl, cen, List.cons_append, List.nil_append]; omega) (by simp only [cE2, sev, svl, cen, List.cons_append, List.nil_append]; omega) (by omega) (by simp only [cE2, sev, svl, cen, List.cons_append, List.nil_append]; omega) ?_
          exact d_ret [] rfl (by decide) (by omega)
      · simp only [cCmp, cE2, sev, svl, cen, List.cons_append, List.nil_append] at h
        first
        | omega
        | skip
          refine d_set 0 6 99 (by simp only [cE2, sev, svl, cen, List.cons_append, List.nil_append]; omega) (by simp only [cE2, sev, svl, cen, List.cons_append, List.nil_append]; omega) (by omega) (by simp only [cE2, sev, svl, cen, List.cons_append, List.nil_append]; omega) ?_
          exact d_ret [] rfl (by decide) ⟨rfl, wI (wI (wI (wI (wI (wI (wI hI (lo := -2147483648) (hi := 2147483647) rfl ⟨by omega, by omega⟩) (lo := -2147483648) (hi := 2147483647) rfl ⟨by omega, by omega⟩) (lo := -2147483648) (hi := 2147483647) rfl ⟨by omega, by omega⟩) (lo := -2147483648) (hi := 2147483647) rfl ⟨by omega, by omega⟩) (lo := -2147483648) (hi := 2147483647) rfl ⟨by omega, by omega⟩) (lo := -2147483648) (hi := 2147483647) rfl ⟨by omega, by omega⟩) (lo := -2147483648) (hi := 2147483647) rfl ⟨by omega, by omega⟩, fun f j i hf => by simp only [supd_f hf], rFc_all (by simp [supd]) (by simp [supd]) (by simp [supd]) (by rw [if_pos (by omega)]; simp [supd]) (by simp [supd]) (by simp [supd]) (by rw [if_pos (by omega)]; simp [supd])⟩
theorem m_canDo (hp : cPl tm tc tf EX) {Z : RZT} {r p k : Nat} {st : List RC} {q : OLn} {M : SMem} (hI : sI tg M) (hr : r < 6) (hp9 : p < 12) (hk : k < 84) (hw : rWf st) (g : rLg 47 48 49 50 M p st) (hZ : rZr Z M) (hq : oLnk q) (e38 : M 38 0 k = q.1) (e39 : M 39 0 k = q.2.1) : cBG tm tf EX l dC dI cA ad scrS (d + 3) kX10_canDo [(2, 1, 0), (0, 0, (p : Int)), (0, 0, (r : Int)), (0, 0, (k : Int))] M (fun rr MM => MM = M ∧ ((rr = [1] ∧ (rCn Z r p st (q.1 + 1) q.2.1 ∧ st.length ≠ 0 ∧ Z.1 p 2 ≤ Z.2.2.2.2.2.1 r)) ∨ (rr = [0] ∧ ¬ (rCn Z r p st (q.1 + 1) q.2.1 ∧ st.length ≠ 0 ∧ Z.1 p 2 ≤ Z.2.2.2.2.2.1 r)))) := by
  have tb := rWf_top hw
  have h6 := hw.1
  obtain ⟨m0, m1, m2, m3, m4⟩ := hq
  obtain ⟨z1, z2, z3, z4, z5⟩ := hZ
  obtain ⟨-, y1, y2, y3, -⟩ := z1 p hp9
  obtain ⟨x1, x2⟩ := z5 r hr
  obtain ⟨n, hn⟩ : ∃ n, n = st.length := ⟨_, rfl⟩
  have g0 : M 47 0 p = (n : Int) := by rw [hn]; exact g.1
  have tw : rTop st = -1 → st.length ≠ 0 → 2 ≤ st.length := fun a b => rWf_two hw b a
  obtain ⟨T, hT⟩ : ∃ T, T = rTop st := ⟨_, rfl⟩
  obtain ⟨tn, htn⟩ : ∃ tn, tn = q.2.1.toNat := ⟨_, rfl⟩
  obtain ⟨ak, hak⟩ : ∃ ak : Int, (ak = 1 ∧ rAk Z (rTop st).toNat q.2.1.toNat) ∨ (ak = 0 ∧ ¬ rAk Z (rTop st).toNat q.2.1.toNat) := by
    by_cases z : rAk Z (rTop st).toNat q.2.1.toNat
    · exact ⟨1, Or.inl ⟨rfl, z⟩⟩
    · exact ⟨0, Or.inr ⟨rfl, z⟩⟩
  have e : ak = 1 ↔ rAk Z (rTop st).toNat q.2.1.toNat := by
    rcases hak with ⟨a, b⟩ | ⟨a, b⟩
    · exact ⟨fun _ => b, fun _ => a⟩
    · exact ⟨fun z => by omega, fun z => absurd z b⟩
  have hC : (rCn Z r p st (q.1 + 1) q.2.1 ∧ st.length ≠ 0 ∧ Z.1 p 2 ≤ Z.2.2.2.2.2.1 r) ↔ ((st.length < 6 ∧ (((q.1 + 1 = 1 ∨ q.1 + 1 = 2) ∧ (T = q.2.1 ∨ (T ≠ -1 ∧ Z.2.2.2.2.2.2 r = 0 ∧ ak = 1))) ∨ (¬ (q.1 + 1 = 1 ∨ q.1 + 1 = 2) ∧ T = -1 ∧ Z.2.2.1 tn ≤ Z.1 p 1 + 2 ∧ (q.1 + 1 = 3 ∨ (2 ≤ st.length ∧ rTw st = q.2.1))))) ∧ st.length ≠ 0 ∧ Z.1 p 2 ≤ Z.2.2.2.2.2.1 r) := by
    rw [e, hT, htn]
    exact Iff.rfl
  rw [show (rCn Z r p st (q.1 + 1) q.2.1 ∧ st.length ≠ 0 ∧ Z.1 p 2 ≤ Z.2.2.2.2.2.1 r) = _ from propext hC]
  have b1 := wIb (f := 23) (i := p) (lo := 0) (hi := 24) hI 0 rfl
  have cAk : T ≠ -1 → cBG tm tf EX l dC dI cA ad scrS (d + 2) kX10_areAlike [(2, 1, 0), (0, 0, T), (0, 0, q.2.1)] M (fun rr MM => MM = M ∧ ((rr = [1] ∧ (ak = 1)) ∨ (rr = [0] ∧ ¬ (ak = 1)))) := fun hne => by
    have a1 := wIb (f := 20) (i := (rTop st).toNat) (lo := 0) (hi := 8) hI 0 rfl
    have a2 := wIb (f := 20) (i := q.2.1.toNat) (lo := 0) (hi := 8) hI 0 rfl
    have w := m_areAlike (EX := EX) (l := l) (dC := dC) (dI := dI) (cA := cA) (ad := ad) (scrS := scrS) (d := d) hp (a := (rTop st).toNat) (b := q.2.1.toNat) (s := (M 20 0 (rTop st).toNat).toNat) (t := (M 20 0 q.2.1.toNat).toNat) (M := M) (by omega) (by omega) (by omega) (by omega) (by omega)
    rw [show (((rTop st).toNat : Nat) : Int) = T by omega, show ((q.2.1.toNat : Nat) : Int) = q.2.1 by omega, z3, z4] at w
    refine oBG_post w (fun rr MM h => ⟨h.1, ?_⟩)
    rcases h.2 with ⟨q1, q2⟩ | ⟨q1, q2⟩
    · exact Or.inl ⟨q1, e.mpr q2⟩
    · exact Or.inr ⟨q1, fun z => q2 (e.mp z)⟩
  have cWd : cBG tm tf EX l dC dI cA ad scrS (d + 2) kX10_width [(2, 1, 0), (0, 0, q.2.1)] M (fun rr MM => MM = M ∧ rr = [Z.2.2.1 tn]) := by
    have w9 := m_width (EX := EX) (l := l) (dC := dC) (dI := dI) (cA := cA) (ad := ad) (scrS := scrS) (d := d) hp (nm := q.2.1.toNat) hI (by omega)
    rw [z2 _ (by omega), show ((q.2.1.toNat : Nat) : Int) = q.2.1 by omega, ← htn] at w9
    exact w9
  have cSt : cBG tm tf EX l dC dI cA ad scrS (d + 2) kX10_standing [(2, 1, 0), (0, 0, (p : Int))] M (fun rr MM => MM = M ∧ rr = [T]) := by
    have w9 := m_standing (EX := EX) (l := l) (dC := dC) (dI := dI) (cA := cA) (ad := ad) (scrS := scrS) (d := d + 1) hp hI hp9 hw.1 g
    rw [← hT] at w9
    exact w9
  refine cMeth (v := [(p : Int), (r : Int), (k : Int)]) (Fd := 90) hp (by decide) gX10_canDo_ok gX10_canDo_m0 (by simp [cAs, cE2, sev, svl, cen]) ?_
  refine cEnds_at gX10_canDo_m0 rfl ?_
  refine d_row 0 k (by simp only [cE2, sev, svl, cen, List.cons_append, List.nil_append]; omega) (by simp only [cE2, sev, svl, cen, List.cons_append, List.nil_append]; omega) (by omega) ?_
  rw [e39]
  refine d_call (cSt) (by simp [cAs, cE2, sev, svl, cen] <;> omega) ?_
  intro rr M' hq
  obtain ⟨hM', rfl⟩ := hq
  rw [hM']
  refine ⟨rfl, ?_⟩
  refine d_row 0 p (by simp only [cE2, sev, svl, cen, List.cons_append, List.nil_append]; omega) (by simp only [cE2, sev, svl, cen, List.cons_append, List.nil_append]; omega) (by omega) ?_
  rw [g0]
  refine d_br (fun h => ?_) (fun h => ?_)
  · simp only [cCmp, cE2, sev, svl, cen, List.cons_append, List.nil_append] at h
    first
    | omega
    | skip
      exact d_ret [0] rfl (by decide) ⟨rfl, Or.inr ⟨rfl, by omega⟩⟩
  · simp only [cCmp, cE2, sev, svl, cen, List.cons_append, List.nil_append] at h
    first
    | omega
    | skip
      refine d_row 0 p (by simp only [cE2, sev, svl, cen, List.cons_append, List.nil_append]; omega) (by simp only [cE2, sev, svl, cen, List.cons_append, List.nil_append]; omega) (by omega) ?_
      rw [g0]
      refine d_br (fun h => ?_) (fun h => ?_)
      · simp only [cCmp, cE2, sev, svl, cen, List.cons_append, List.nil_append] at h
        first
        | omega
        | skip
          exact d_ret [0] rfl (by decide) ⟨rfl, Or.inr ⟨rfl, by omega⟩⟩
      · simp only [cCmp, cE2, sev, svl, cen, List.cons_append, List.nil_append] at h
        first
        | omega
        | skip
          refine d_row 0 r (by simp only [cE2, sev, svl, cen, List.cons_append, List.nil_append]; omega) (by simp only [cE2, sev, svl, cen, List.cons_append, List.nil_append]; omega) (by omega) ?_
          rw [x1]
          refine d_row 0 p (by simp only [cE2, sev, svl, cen, List.cons_append, List.nil_append]; omega) (by simp only [cE2, sev, svl, cen, List.cons_append, List.nil_append]; omega) (by omega) ?_
          rw [y2]
          refine d_br (fun h => ?_) (fun h => ?_)
          · simp only [cCmp, cE2, sev, svl, cen, List.cons_append, List.nil_append] at h
            first
            | omega
            | skip
              refine d_row 0 k (by simp only [cE2, sev, svl, cen, List.cons_append, List.nil_append]; omega) (by simp only [cE2, sev, svl, cen, List.cons_append, List.nil_append]; omega) (by omega) ?_
              rw [e38]
              refine d_br (fun h => ?_) (fun h => ?_)
              · simp only [cCmp, cE2, sev, svl, cen, List.cons_append, List.nil_append] at h
                first
                | omega
                | skip
                  refine d_br (fun h => ?_) (fun h => ?_)
                  · simp only [cCmp, cE2, sev, svl, cen, List.cons_append, List.nil_append] at h
                    first
                    | omega
                    | skip
                      exact d_ret [0] rfl (by decide) ⟨rfl, Or.inr ⟨rfl, by omega⟩⟩
                  · simp only [cCmp, cE2, sev, svl, cen, List.cons_append, List.nil_append] at h
                    first
                    | omega
                    | skip
                      refine d_br (fun h => ?_) (fun h => ?_)
                      · simp only [cCmp, cE2, sev, svl, cen, List.cons_append, List.nil_append] at h
                        first
                        | omega
                        | skip
                          exact d_ret [1] rfl (by decide) ⟨rfl, Or.inl ⟨rfl, by omega⟩⟩
                      · simp only [cCmp, cE2, sev, svl, cen, List.cons_append, List.nil_append] at h
                        first
                        | omega
                        | skip
                          refine d_row 0 r (by simp only [cE2, sev, svl, cen, List.cons_append, List.nil_append]; omega) (by simp only [cE2, sev, svl, cen, List.cons_append, List.nil_append]; omega) (by omega) ?_
                          rw [x2]
                          refine d_br (fun h => ?_) (fun h => ?_)
                          · simp only [cCmp, cE2, sev, svl, cen, List.cons_append, List.nil_append] at h
                            first
                            | omega
                            | skip
                              exact d_ret [0] rfl (by decide) ⟨rfl, Or.inr ⟨rfl, by omega⟩⟩
                          · simp only [cCmp, cE2, sev, svl, cen, List.cons_append, List.nil_append] at h
                            first
                            | omega
                            | skip
                              refine d_call (cAk (by omega)) (by simp [cAs, cE2, sev, svl, cen] <;> omega) ?_
                              intro rr M' hq
                              obtain ⟨hM', hq⟩ := hq
                              rw [hM']
                              rcases hq with ⟨rfl, q11⟩ | ⟨rfl, q11⟩
                              · refine ⟨rfl, ?_⟩
                                refine d_br (fun h => ?_) (fun h => ?_)
                                · simp only [cCmp, cE2, sev, svl, cen, List.cons_append, List.nil_append] at h
                                  omega
                                · clear h
                                  exact d_ret [1] rfl (by decide) ⟨rfl, Or.inl ⟨rfl, by omega⟩⟩
                              · refine ⟨rfl, ?_⟩
                                refine d_br (fun h => ?_) (fun h => ?_)
                                · clear h
                                  exact d_ret [0] rfl (by decide) ⟨rfl, Or.inr ⟨rfl, by omega⟩⟩
                                · simp only [cCmp, cE2, sev, svl, cen, List.cons_append, List.nil_append] at h
                                  omega
              · simp only [cCmp, cE2, sev, svl, cen, List.cons_append, List.nil_append] at h
                first
                | omega
                | skip
                  refine d_row 0 k (by simp only [cE2, sev, svl, cen, List.cons_append, List.nil_append]; omega) (by simp only [cE2, sev, svl, cen, List.cons_append, List.nil_append]; omega) (by omega) ?_
                  rw [e38]
                  refine d_br (fun h => ?_) (fun h => ?_)
                  · simp only [cCmp, cE2, sev, svl, cen, List.cons_append, List.nil_append] at h
                    first
                    | omega
                    | skip
                      refine d_br (fun h => ?_) (fun h => ?_)
                      · simp only [cCmp, cE2, sev, svl, cen, List.cons_append, List.nil_append] at h
                        first
                        | omega
                        | skip
                          exact d_ret [0] rfl (by decide) ⟨rfl, Or.inr ⟨rfl, by omega⟩⟩
                      · simp only [cCmp, cE2, sev, svl, cen, List.cons_append, List.nil_append] at h
                        first
                        | omega
                        | skip
                          refine d_call (cWd) (by simp [cAs, cE2, sev, svl, cen] <;> omega) ?_
                          intro rr M' hq
                          obtain ⟨hM', rfl⟩ := hq
                          rw [hM']
                          refine ⟨rfl, ?_⟩
                          refine d_row 0 p (by simp only [cE2, sev, svl, cen, List.cons_append, List.nil_append]; omega) (by simp only [cE2, sev, svl, cen, List.cons_append, List.nil_append]; omega) (by omega) ?_
                          rw [y1]
                          refine d_rng (by simp only [clo, chi, cE2, sev, svl, cen, List.cons_append, List.nil_append]; omega) ?_
                          refine d_br (fun h => ?_) (fun h => ?_)
                          · simp only [cCmp, cE2, sev, svl, cen, List.cons_append, List.nil_append] at h
                            first
                            | omega
                            | skip
                              refine d_row 0 k (by simp only [cE2, sev, svl, cen, List.cons_append, List.nil_append]; omega) (by simp only [cE2, sev, svl, cen, List.cons_append, List.nil_append]; omega) (by omega) ?_
                              rw [e38]
                              refine d_br (fun h => ?_) (fun h => ?_)
                              · simp only [cCmp, cE2, sev, svl, cen, List.cons_append, List.nil_append] at h
                                first
                                | omega
                                | skip
                                  exact d_ret [1] rfl (by decide) ⟨rfl, Or.inl ⟨rfl, by omega⟩⟩
                              · simp only [cCmp, cE2, sev, svl, cen, List.cons_append, List.nil_append] at h
                                first
                                | omega
                                | skip
                                  refine d_rng (by simp only [clo, chi, cE2, sev, svl, cen, List.cons_append, List.nil_append]; omega) ?_
                                  refine d_row 0 p (by simp only [cE2, sev, svl, cen, List.cons_append, List.nil_append]; omega) (by simp only [cE2, sev, svl, cen, List.cons_append, List.nil_append]; omega) (by omega) ?_
                                  rw [g0]
                                  refine d_rng (by simp only [clo, chi, cE2, sev, svl, cen, List.cons_append, List.nil_append]; omega) ?_
                                  refine d_rng (by simp only [clo, chi, cE2, sev, svl, cen, List.cons_append, List.nil_append]; omega) ?_
                                  refine d_row 0 (6 * p + n - 2) (by simp only [cE2, sev, svl, cen, List.cons_append, List.nil_append]; omega) (by simp only [cE2, sev, svl, cen, List.cons_append, List.nil_append]; omega) (by omega) ?_
                                  rw [rLg_two hn (by omega) g]
                                  refine d_br (fun h => ?_) (fun h => ?_)
                                  · simp only [cCmp, cE2, sev, svl, cen, List.cons_append, List.nil_append] at h
                                    first
                                    | omega
                                    | skip
                                      exact d_ret [0] rfl (by decide) ⟨rfl, Or.inr ⟨rfl, by omega⟩⟩
                                  · simp only [cCmp, cE2, sev, svl, cen, List.cons_append, List.nil_append] at h
                                    first
                                    | omega
                                    | skip
                                      exact d_ret [1] rfl (by decide) ⟨rfl, Or.inl ⟨rfl, by omega⟩⟩
                          · simp only [cCmp, cE2, sev, svl, cen, List.cons_append, List.nil_append] at h
                            first
                            | omega
                            | skip
                              exact d_ret [0] rfl (by decide) ⟨rfl, Or.inr ⟨rfl, by omega⟩⟩
                  · simp only [cCmp, cE2, sev, svl, cen, List.cons_append, List.nil_append] at h
                    first
                    | omega
                    | skip
                      refine d_br (fun h => ?_) (fun h => ?_)
                      · simp only [cCmp, cE2, sev, svl, cen, List.cons_append, List.nil_append] at h
                        first
                        | omega
                        | skip
                          exact d_ret [0] rfl (by decide) ⟨rfl, Or.inr ⟨rfl, by omega⟩⟩
                      · simp only [cCmp, cE2, sev, svl, cen, List.cons_append, List.nil_append] at h
                        first
                        | omega
                        | skip
                          refine d_br (fun h => ?_) (fun h => ?_)
                          · simp only [cCmp, cE2, sev, svl, cen, List.cons_append, List.nil_append] at h
                            first
                            | omega
                            | skip
                              exact d_ret [1] rfl (by decide) ⟨rfl, Or.inl ⟨rfl, by omega⟩⟩
                          · simp only [cCmp, cE2, sev, svl, cen, List.cons_append, List.nil_append] at h
                            first
                            | omega
                            | skip
                              refine d_row 0 r (by simp only [cE2, sev, svl, cen, List.cons_append, List.nil_append]; omega) (by simp only [cE2, sev, svl, cen, List.cons_append, List.nil_append]; omega) (by omega) ?_
                              rw [x2]
                              refine d_br (fun h => ?_) (fun h => ?_)
                              · simp only [cCmp, cE2, sev, svl, cen, List.cons_append, List.nil_append] at h
                                first
                                | omega
                                | skip
                                  exact d_ret [0] rfl (by decide) ⟨rfl, Or.inr ⟨rfl, by omega⟩⟩
                              · simp only [cCmp, cE2, sev, svl, cen, List.cons_append, List.nil_append] at h
                                first
                                | omega
                                | skip
                                  refine d_call (cAk (by omega)) (by simp [cAs, cE2, sev, svl, cen] <;> omega) ?_
                                  intro rr M' hq
                                  obtain ⟨hM', hq⟩ := hq
                                  rw [hM']
                                  rcases hq with ⟨rfl, q12⟩ | ⟨rfl, q12⟩
                                  · refine ⟨rfl, ?_⟩
                                    refine d_br (fun h => ?_) (fun h => ?_)
                                    · simp only [cCmp, cE2, sev, svl, cen, List.cons_append, List.nil_append] at h
                                      omega
                                    · clear h
                                      exact d_ret [1] rfl (by decide) ⟨rfl, Or.inl ⟨rfl, by omega⟩⟩
                                  · refine ⟨rfl, ?_⟩
                                    refine d_br (fun h => ?_) (fun h => ?_)
                                    · clear h
                                      exact d_ret [0] rfl (by decide) ⟨rfl, Or.inr ⟨rfl, by omega⟩⟩
                                    · simp only [cCmp, cE2, sev, svl, cen, List.cons_append, List.nil_append] at h
                                      omega
          · simp only [cCmp, cE2, sev, svl, cen, List.cons_append, List.nil_append] at h
            first
            | omega
            | skip
              exact d_ret [0] rfl (by decide) ⟨rfl, Or.inr ⟨rfl, by omega⟩⟩
theorem m_worth (hp : cPl tm tc tf EX) {F : Int → Int} {fr : Nat} {q : List Int} {M : SMem} (hI : sI tg M) (hF : ∀ k : Nat, k < 7 → M 43 0 k = F (8 + k)) (hq : ∀ (j : Nat) (x : Int), q[j]? = some x → M 41 0 (fr + j) = oOp1 x ∧ M 42 0 (fr + j) = oOp2 x) (he : M 41 0 (fr + q.length) = 0) (hm : oMx q 0) (hh : oHt q 0 = some 1) (h9 : fr + q.length ≤ 7600) : cBG tm tf EX l dC dI cA ad scrS (d + 2) kX10_worth [(2, 1, 0), (0, 0, (fr : Int))] M (fun rr MM => rr = [eV F q] ∧ sI tg MM ∧ ∀ f j i, f ≠ 44 → MM f j i = M f j i) := by
  refine cMeth (v := [(fr : Int)]) (Fd := 90) hp (by decide) gX10_worth_ok gX10_worth_m0 (by simp [cAs, cE2, sev, svl, cen]) ?_
  obtain ⟨e, he9⟩ : ∃ e, e = fr + q.length := ⟨_, rfl⟩
  obtain ⟨R0, hR0⟩ : ∃ R0, R0 = eR F q [] := ⟨_, rfl⟩
  rw [← he9] at he
  rw [show eV F q = R0.headD 0 by rw [hR0]; rfl]
  have loop : ∀ (cc : List Int) (i : Nat) (s : List Int) (MW : SMem), sI tg MW → (∀ f j i, f ≠ 44 → MW f j i = M f j i) → i + cc.length = e → (∀ (j : Nat) (x : Int), cc[j]? = some x → M 41 0 (i + j) = oOp1 x ∧ M 42 0 (i + j) = oOp2 x) → oMx cc s.length → oHt cc s.length = some 1 → s.length ≤ 64 → eM 44 MW s → eR F cc s = R0 → cEnds (cBG tm tf EX l dC dI cA ad scrS (d + 1)) (fun rr MM => rr = [R0.headD 0] ∧ sI tg MM ∧ ∀ f j i, f ≠ 44 → MM f j i = M f j i) 90 gX10_worth 4 [(s.length : Int), (i : Int)] MW := by
    intro cc
    induction cc with
    | nil =>
      intro i s MW i1 f1 hi hc hm9 hh9 h64 gs hR
      have hi : i = e := hi
      have hR : s = R0 := hR
      have hh9 : some s.length = some 1 := hh9
      have e41 : MW 41 0 i = 0 := by rw [f1 41 0 i (by decide), hi]; exact he
      rw [← hR]
      match s, gs, hh9 with
      | [a], gs, _ =>
        have ea : MW 44 0 0 = a := gs.1
        have b44 := wIb (f := 44) (i := 0) (lo := -2147483648) (hi := 2147483647) i1 0 rfl
        rw [ea] at b44
        refine cEnds_at gX10_worth_m4 rfl ?_
        refine d_row 0 i (by simp only [cE2, sev, svl, cen, List.cons_append, List.nil_append]; omega) (by simp only [cE2, sev, svl, cen, List.cons_append, List.nil_append]; omega) (by omega) ?_
        rw [e41]
        refine d_br (fun h => ?_) (fun h => ?_)
        · clear h
          refine d_row 0 0 (by simp only [cE2, sev, svl, cen, List.cons_append, List.nil_append]; omega) (by simp only [cE2, sev, svl, cen, List.cons_append, List.nil_append]; omega) (by omega) ?_
          rw [ea]
          exact wret1 a (by simp only [cE2, sev, svl, cen, List.cons_append, List.nil_append]; omega) (by omega) ⟨rfl, i1, f1⟩
        · simp only [cCmp, cE2, sev, svl, cen, List.cons_append, List.nil_append] at h
          omega
    | cons x cc ih =>
      intro i s MW i1 f1 hi hc hm9 hh9 h64 gs hR
      have hi : i + (cc.length + 1) = e := hi
      have hx := hc 0 x rfl
      rw [Nat.add_zero] at hx
      have e41 : MW 41 0 i = oOp1 x := (f1 41 0 i (by decide)).trans hx.1
      have e42 : MW 42 0 i = oOp2 x := (f1 42 0 i (by decide)).trans hx.2
      obtain ⟨n, hn⟩ : ∃ n, n = s.length := ⟨_, rfl⟩
      have hht : ∃ h', cstep (oOp1 x) (oOp2 x) s.length = some h' ∧ oHt cc h' = some 1 := by
        unfold oHt at hh9
        cases hs : cstep (oOp1 x) (oOp2 x) s.length with
        | none => rw [hs] at hh9; cases hh9
        | some h' => rw [hs] at hh9; exact ⟨h', rfl, hh9⟩
      have nxt : ∀ (s' : List Int) (MW' : SMem), cstep (oOp1 x) (oOp2 x) s.length = some s'.length → sI tg MW' → (∀ f j i, f ≠ 44 → MW' f j i = MW f j i) → oMx cc s'.length → s'.length ≤ 64 → eM 44 MW' s' → eS F x s = s' → cEnds (cBG tm tf EX l dC dI cA ad scrS (d + 1)) (fun rr MM => rr = [R0.headD 0] ∧ sI tg MM ∧ ∀ f j i, f ≠ 44 → MM f j i = M f j i) 90 gX10_worth 4 [(s'.length : Int), ((i + 1 : Nat) : Int)] MW' := fun s' MW' j0 j1 j2 j3 j4 j5 j6 => ih (i + 1) s' MW' j1 (fun f j k hf => (j2 f j k hf).trans (f1 f j k hf)) (by omega) (fun j y hj => by have := hc (j + 1) y hj; rw [show i + 1 + j = i + (j + 1) by omega]; exact this) j3 (by obtain ⟨h', a, b⟩ := hht; cases j0.symm.trans a; exact b) j4 j5 (by rw [← j6]; exact hR)
      rw [← hn]
      refine cEnds_at gX10_worth_m4 rfl ?_
      by_cases h7 : x = 7
      · rw [h7] at hm9
        have e41 : MW 41 0 i = 3 := by rw [e41, h7]; exact oCv_7
        obtain ⟨q1, q2⟩ := oMx_not hm9
        match s, gs, hn with
        | [], gs, hn => exact absurd q1 (Nat.not_lt_zero 0)
        | a :: t, gs, hn =>
          have hn : n = t.length + 1 := hn
          have h64 : t.length + 1 ≤ 64 := h64
          have ea : MW 44 0 (n - 1) = a := by rw [hn]; exact gs.1
          have fin : ∀ z : Int, (if a = 0 then 1 else 0) = z → 0 ≤ z ∧ z ≤ 1 → cEnds (cBG tm tf EX l dC dI cA ad scrS (d + 1)) (fun rr MM => rr = [R0.headD 0] ∧ sI tg MM ∧ ∀ f j i, f ≠ 44 → MM f j i = M f j i) 90 gX10_worth 4 [(n : Int), ((i + 1 : Nat) : Int)] (supd MW 44 0 (n - 1) z) := fun z hz hb => by
            have w := nxt (z :: t) (supd MW 44 0 (n - 1) z) (by rw [h7]; exact oHt_7 (by show 1 ≤ t.length + 1; omega)) (wI i1 (lo := -2147483648) (hi := 2147483647) rfl ⟨by omega, by omega⟩) (fun f j i hf => supd_f hf) q2 h64 (eM_push (by omega) gs.2) (by
              unfold eS
              rw [if_pos h7, ← hz])
            rw [show (z :: t).length = n from hn.symm] at w
            exact w
          refine d_row 0 i (by simp only [cE2, sev, svl, cen, List.cons_append, List.nil_append]; omega) (by simp only [cE2, sev, svl, cen, List.cons_append, List.nil_append]; omega) (by omega) ?_
          rw [e41]
          refine d_br (fun h => ?_) (fun h => ?_)
          · simp only [cCmp, cE2, sev, svl, cen, List.cons_append, List.nil_append] at h
            omega
          · clear h
            refine d_row 0 i (by simp only [cE2, sev, svl, cen, List.cons_append, List.nil_append]; omega) (by simp only [cE2, sev, svl, cen, List.cons_append, List.nil_append]; omega) (by omega) ?_
            rw [e41]
            refine d_br (fun h => ?_) (fun h => ?_)
            · simp only [cCmp, cE2, sev, svl, cen, List.cons_append, List.nil_append] at h
              omega
            · clear h
              refine d_br (fun h => ?_) (fun h => ?_)
              · clear h
                refine d_br (fun h => ?_) (fun h => ?_)
                · simp only [cCmp, cE2, sev, svl, cen, List.cons_append, List.nil_append] at h
                  omega
                · clear h
                  refine d_rng (by simp only [clo, chi, cE2, sev, svl, cen, List.cons_append, List.nil_append]; omega) ?_
                  refine d_rng (by simp only [clo, chi, cE2, sev, svl, cen, List.cons_append, List.nil_append]; omega) ?_
                  refine d_row 0 (n - 1) (by simp only [cE2, sev, svl, cen, List.cons_append, List.nil_append]; omega) (by simp only [cE2, sev, svl, cen, List.cons_append, List.nil_append]; omega) (by omega) ?_
                  rw [ea]
                  refine d_br (fun h => ?_) (fun h => ?_)
                  · simp only [cCmp, cE2, sev, svl, cen, List.cons_append, List.nil_append] at h
                    first
                    | omega
                    | skip
                      refine d_set 0 (n - 1) 0 (by simp only [cE2, sev, svl, cen, List.cons_append, List.nil_append]; omega) (by simp only [cE2, sev, svl, cen, List.cons_append, List.nil_append]; omega) (by omega) (by simp only [cE2, sev, svl, cen, List.cons_append, List.nil_append]; omega) ?_
                      refine d_rng (by simp only [clo, chi, cE2, sev, svl, cen, List.cons_append, List.nil_append]; omega) ?_
                      refine d_cut [(n : Int), ((i + 1 : Nat) : Int)] (by simp [cE2, sev, svl, cen] <;> omega) ?_
                      exact fin 0 (if_neg (by omega)) (by omega)
                  · simp only [cCmp, cE2, sev, svl, cen, List.cons_append, List.nil_append] at h
                    first
                    | omega
                    | skip
                      refine d_set 0 (n - 1) 1 (by simp only [cE2, sev, svl, cen, List.cons_append, List.nil_append]; omega) (by simp only [cE2, sev, svl, cen, List.cons_append, List.nil_append]; omega) (by omega) (by simp only [cE2, sev, svl, cen, List.cons_append, List.nil_append]; omega) ?_
                      refine d_rng (by simp only [clo, chi, cE2, sev, svl, cen, List.cons_append, List.nil_append]; omega) ?_
                      refine d_cut [(n : Int), ((i + 1 : Nat) : Int)] (by simp [cE2, sev, svl, cen] <;> omega) ?_
                      exact fin 1 (if_pos (by omega)) (by omega)
              · simp only [cCmp, cE2, sev, svl, cen, List.cons_append, List.nil_append] at h
                omega
      · by_cases h15 : x % 32 = 15 ∨ (8 ≤ x ∧ x ≤ 14)
        · obtain ⟨q1, q2⟩ := oMx_num h15 hm9
          have b44 : ∀ k, -2147483648 ≤ MW 43 0 k ∧ MW 43 0 k ≤ 2147483647 := fun k => wIb (f := 43) (i := k) (lo := -2147483648) (hi := 2147483647) i1 0 rfl
          have cs : cstep (oOp1 x) (oOp2 x) s.length = some (s.length + 1) := by
            rcases h15 with q | q
            · rw [(oCv_15 q).1]
              unfold cstep
              rw [if_pos rfl]
            · rw [(oCv_f q).1, (oCv_f q).2]
              unfold cstep
              rw [if_neg (by decide), if_pos rfl, if_pos (by omega)]
          have fin : ∀ z : Int, eS F x s = z :: s → -2147483648 ≤ z ∧ z ≤ 2147483647 → cEnds (cBG tm tf EX l dC dI cA ad scrS (d + 1)) (fun rr MM => rr = [R0.headD 0] ∧ sI tg MM ∧ ∀ f j i, f ≠ 44 → MM f j i = M f j i) 90 gX10_worth 4 [((n + 1 : Nat) : Int), ((i + 1 : Nat) : Int)] (supd MW 44 0 n z) := fun z hz hb => by
            have w := nxt (z :: s) (supd MW 44 0 n z) cs (wI i1 (lo := -2147483648) (hi := 2147483647) rfl hb) (fun f j i hf => supd_f hf) q2 q1 (eM_push hn gs) hz
            rw [show (z :: s).length = n + 1 by rw [hn]; rfl] at w
            exact w
          rw [← hn] at q1
          by_cases h15' : x % 32 = 15
          · have e41 : MW 41 0 i = 1 := e41.trans (oCv_15 h15').1
            have e42 : MW 42 0 i = x / 32 := e42.trans (oCv_15 h15').2
            have hcv := oMx_cv hm9
            have hx : 0 ≤ x ∧ x ≤ 1000000 := by
              unfold oCv at hcv
              omega
            refine d_row 0 i (by simp only [cE2, sev, svl, cen, List.cons_append, List.nil_append]; omega) (by simp only [cE2, sev, svl, cen, List.cons_append, List.nil_append]; omega) (by omega) ?_
            rw [e41]
            refine d_br (fun h => ?_) (fun h => ?_)
            · simp only [cCmp, cE2, sev, svl, cen, List.cons_append, List.nil_append] at h
              omega
            · clear h
              refine d_row 0 i (by simp only [cE2, sev, svl, cen, List.cons_append, List.nil_append]; omega) (by simp only [cE2, sev, svl, cen, List.cons_append, List.nil_append]; omega) (by omega) ?_
              rw [e41]
              refine d_br (fun h => ?_) (fun h => ?_)
              · clear h
                refine d_br (fun h => ?_) (fun h => ?_)
                · simp only [cCmp, cE2, sev, svl, cen, List.cons_append, List.nil_append] at h
                  omega
                · clear h
                  refine d_row 0 i (by simp only [cE2, sev, svl, cen, List.cons_append, List.nil_append]; omega) (by simp only [cE2, sev, svl, cen, List.cons_append, List.nil_append]; omega) (by omega) ?_
                  rw [e42]
                  refine d_set 0 n (x / 32) (by simp only [cE2, sev, svl, cen, List.cons_append, List.nil_append]; omega) (by simp only [cE2, sev, svl, cen, List.cons_append, List.nil_append]; omega) (by omega) (by simp only [cE2, sev, svl, cen, List.cons_append, List.nil_append]; omega) ?_
                  refine d_rng (by simp only [clo, chi, cE2, sev, svl, cen, List.cons_append, List.nil_append]; omega) ?_
                  refine d_rng (by simp only [clo, chi, cE2, sev, svl, cen, List.cons_append, List.nil_append]; omega) ?_
                  refine d_cut [((n + 1 : Nat) : Int), ((i + 1 : Nat) : Int)] (by simp [cE2, sev, svl, cen] <;> omega) ?_
                  exact fin (x / 32) (by unfold eS; rw [if_neg h7, if_pos h15']) (by omega)
              · simp only [cCmp, cE2, sev, svl, cen, List.cons_append, List.nil_append] at h
                omega
          · have h8 : 8 ≤ x ∧ x ≤ 14 := h15.elim (fun z => absurd z h15') id
            have e41 : MW 41 0 i = 2 := e41.trans (oCv_f h8).1
            have e42 : MW 42 0 i = x - 8 := e42.trans (oCv_f h8).2
            obtain ⟨y, hy⟩ : ∃ y : Nat, (y : Int) = x - 8 := ⟨(x - 8).toNat, by omega⟩
            rw [← hy] at e42
            have e43 : MW 43 0 y = F x := by
              rw [f1 43 0 y (by decide), hF y (by omega), hy]
              exact congrArg F (by omega)
            have b43 := b44 y
            rw [e43] at b43
            refine d_row 0 i (by simp only [cE2, sev, svl, cen, List.cons_append, List.nil_append]; omega) (by simp only [cE2, sev, svl, cen, List.cons_append, List.nil_append]; omega) (by omega) ?_
            rw [e41]
            refine d_br (fun h => ?_) (fun h => ?_)
            · simp only [cCmp, cE2, sev, svl, cen, List.cons_append, List.nil_append] at h
              omega
            · clear h
              refine d_row 0 i (by simp only [cE2, sev, svl, cen, List.cons_append, List.nil_append]; omega) (by simp only [cE2, sev, svl, cen, List.cons_append, List.nil_append]; omega) (by omega) ?_
              rw [e41]
              refine d_br (fun h => ?_) (fun h => ?_)
              · simp only [cCmp, cE2, sev, svl, cen, List.cons_append, List.nil_append] at h
                omega
              · clear h
                refine d_br (fun h => ?_) (fun h => ?_)
                · simp only [cCmp, cE2, sev, svl, cen, List.cons_append, List.nil_append] at h
                  omega
                · clear h
                  refine d_br (fun h => ?_) (fun h => ?_)
                  · clear h
                    refine d_row 0 i (by simp only [cE2, sev, svl, cen, List.cons_append, List.nil_append]; omega) (by simp only [cE2, sev, svl, cen, List.cons_append, List.nil_append]; omega) (by omega) ?_
                    rw [e42]
                    refine d_row 0 y (by simp only [cE2, sev, svl, cen, List.cons_append, List.nil_append]; omega) (by simp only [cE2, sev, svl, cen, List.cons_append, List.nil_append]; omega) (by omega) ?_
                    rw [e43]
                    refine d_set 0 n (F x) (by simp only [cE2, sev, svl, cen, List.cons_append, List.nil_append]; omega) (by simp only [cE2, sev, svl, cen, List.cons_append, List.nil_append]; omega) (by omega) (by simp only [cE2, sev, svl, cen, List.cons_append, List.nil_append]; omega) ?_
                    refine d_rng (by simp only [clo, chi, cE2, sev, svl, cen, List.cons_append, List.nil_append]; omega) ?_
                    refine d_rng (by simp only [clo, chi, cE2, sev, svl, cen, List.cons_append, List.nil_append]; omega) ?_
                    refine d_cut [((n + 1 : Nat) : Int), ((i + 1 : Nat) : Int)] (by simp [cE2, sev, svl, cen] <;> omega) ?_
                    exact fin (F x) (by unfold eS; rw [if_neg h7, if_neg h15', if_pos h8]) b43
                  · simp only [cCmp, cE2, sev, svl, cen, List.cons_append, List.nil_append] at h
                    omega
        · obtain ⟨q1, q2, q3⟩ := oMx_two h7 (fun z => h15 (Or.inl z)) (fun z => h15 (Or.inr z)) hm9
          obtain ⟨c, hc9⟩ : ∃ c, c = oOp1 x := ⟨_, rfl⟩
          rw [← hc9] at e41
          have hc4 : 4 ≤ c ∧ c ≤ 10 := by
            have : x = 5 ∨ x = 6 ∨ x = 18 ∨ x = 19 ∨ x = 20 ∨ x = 21 ∨ x = 22 := by omega
            rw [hc9]
            rcases this with rfl | rfl | rfl | rfl | rfl | rfl | rfl <;> decide
          match s, gs, hn with
          | [], gs, hn => exact absurd q1 (by show ¬ 2 ≤ 0; omega)
          | [_], gs, hn => exact absurd q1 (by show ¬ 2 ≤ 1; omega)
          | b :: a :: t, gs, hn =>
            have hn : n = t.length + 2 := hn
            have h64 : t.length + 2 ≤ 64 := h64
            have eb : MW 44 0 (n - 1) = b := by rw [hn]; exact gs.1
            have ea : MW 44 0 (n - 2) = a := by rw [hn]; exact gs.2.1
            have fin : cEnds (cBG tm tf EX l dC dI cA ad scrS (d + 1)) (fun rr MM => rr = [R0.headD 0] ∧ sI tg MM ∧ ∀ f j i, f ≠ 44 → MM f j i = M f j i) 90 gX10_worth 4 [((n - 1 : Nat) : Int), ((i + 1 : Nat) : Int)] (supd MW 44 0 (n - 2) (eJ x a b)) := by
              have w := nxt (eJ x a b :: t) (supd MW 44 0 (n - 2) (eJ x a b)) (by rw [cstep_b (by rw [← hc9]; exact hc4) q1]; rfl) (wI i1 (lo := -2147483648) (hi := 2147483647) rfl (eJ_b x a b)) (fun f j i hf => supd_f hf) q2 (by show t.length + 1 ≤ 64; omega) (eM_push (by omega) gs.2.2) (by
                unfold eS
                rw [if_neg h7, if_neg (fun z => h15 (Or.inl z)), if_neg (fun z => h15 (Or.inr z))])
              rw [show (eJ x a b :: t).length = n - 1 by show t.length + 1 = n - 1; omega] at w
              exact w
            refine d_row 0 i (by simp only [cE2, sev, svl, cen, List.cons_append, List.nil_append]; omega) (by simp only [cE2, sev, svl, cen, List.cons_append, List.nil_append]; omega) (by omega) ?_
            rw [e41]
            refine d_br (fun h => ?_) (fun h => ?_)
            · simp only [cCmp, cE2, sev, svl, cen, List.cons_append, List.nil_append] at h
              first
              | omega
              | skip
                refine d_row 0 0 (by simp only [cE2, sev, svl, cen, List.cons_append, List.nil_append]; omega) (by simp only [cE2, sev, svl, cen, List.cons_append, List.nil_append]; omega) (by omega) ?_
                exact wret1 (MW 44 0 0) (by simp only [cE2, sev, svl, cen, List.cons_append, List.nil_append]; omega) (by omega) (by omega)
            · simp only [cCmp, cE2, sev, svl, cen, List.cons_append, List.nil_append] at h
              first
              | omega
              | skip
                refine d_row 0 i (by simp only [cE2, sev, svl, cen, List.cons_append, List.nil_append]; omega) (by simp only [cE2, sev, svl, cen, List.cons_append, List.nil_append]; omega) (by omega) ?_
                rw [e41]
                refine d_br (fun h => ?_) (fun h => ?_)
                · simp only [cCmp, cE2, sev, svl, cen, List.cons_append, List.nil_append] at h
                  first
                  | omega
                  | skip
                    refine d_br (fun h => ?_) (fun h => ?_)
                    · simp only [cCmp, cE2, sev, svl, cen, List.cons_append, List.nil_append] at h
                      first
                      | omega
                      | skip
                        refine d_row 0 i (by simp only [cE2, sev, svl, cen, List.cons_append, List.nil_append]; omega) (by simp only [cE2, sev, svl, cen, List.cons_append, List.nil_append]; omega) (by omega) ?_
                        refine d_row 0 (((MW 42 0 i)).toNat) (by simp only [cE2, sev, svl, cen, List.cons_append, List.nil_append]; omega) (by simp only [cE2, sev, svl, cen, List.cons_append, List.nil_append]; omega) (by omega) ?_
                        refine d_set 0 n (MW 43 0 (((MW 42 0 i)).toNat)) (by simp only [cE2, sev, svl, cen, List.cons_append, List.nil_append]; omega) (by simp only [cE2, sev, svl, cen, List.cons_append, List.nil_append]; omega) (by omega) (by simp only [cE2, sev, svl, cen, List.cons_append, List.nil_append]; omega) ?_
                        refine d_rng (by simp only [clo, chi, cE2, sev, svl, cen, List.cons_append, List.nil_append]; omega) ?_
                        refine d_rng (by simp only [clo, chi, cE2, sev, svl, cen, List.cons_append, List.nil_append]; omega) ?_
                        refine d_cut [((n : Int) + 1), ((i : Int) + 1)] (by simp [cE2, sev, svl, cen] <;> omega) ?_
                        exact (by omega)
                    · simp only [cCmp, cE2, sev, svl, cen, List.cons_append, List.nil_append] at h
                      first
                      | omega
                      | skip
                        refine d_row 0 i (by simp only [cE2, sev, svl, cen, List.cons_append, List.nil_append]; omega) (by simp only [cE2, sev, svl, cen, List.cons_append, List.nil_append]; omega) (by omega) ?_
                        refine d_set 0 n (MW 42 0 i) (by simp only [cE2, sev, svl, cen, List.cons_append, List.nil_append]; omega) (by simp only [cE2, sev, svl, cen, List.cons_append, List.nil_append]; omega) (by omega) (by simp only [cE2, sev, svl, cen, List.cons_append, List.nil_append]; omega) ?_
                        refine d_rng (by simp only [clo, chi, cE2, sev, svl, cen, List.cons_append, List.nil_append]; omega) ?_
                        refine d_rng (by simp only [clo, chi, cE2, sev, svl, cen, List.cons_append, List.nil_append]; omega) ?_
                        refine d_cut [((n : Int) + 1), ((i : Int) + 1)] (by simp [cE2, sev, svl, cen] <;> omega) ?_
                        exact (by omega)
                · simp only [cCmp, cE2, sev, svl, cen, List.cons_append, List.nil_append] at h
                  first
                  | omega
                  | skip
                    refine d_br (fun h => ?_) (fun h => ?_)
                    · simp only [cCmp, cE2, sev, svl, cen, List.cons_append, List.nil_append] at h
                      first
                      | omega
                      | skip
                        refine d_br (fun h => ?_) (fun h => ?_)
                        · simp only [cCmp, cE2, sev, svl, cen, List.cons_append, List.nil_append] at h
                          first
                          | omega
                          | skip
                            refine d_rng (by simp only [clo, chi, cE2, sev, svl, cen, List.cons_append, List.nil_append]; omega) ?_
                            refine d_rng (by simp only [clo, chi, cE2, sev, svl, cen, List.cons_append, List.nil_append]; omega) ?_
                            refine d_rng (by simp only [clo, chi, cE2, sev, svl, cen, List.cons_append, List.nil_append]; omega) ?_
                            refine d_row 0 (n - 2) (by simp only [cE2, sev, svl, cen, List.cons_append, List.nil_append]; omega) (by simp only [cE2, sev, svl, cen, List.cons_append, List.nil_append]; omega) (by omega) ?_
                            rw [ea]
                            refine d_row 0 (n - 1) (by simp only [cE2, sev, svl, cen, List.cons_append, List.nil_append]; omega) (by simp only [cE2, sev, svl, cen, List.cons_append, List.nil_append]; omega) (by omega) ?_
                            rw [eb]
                            refine d_call (m_both (d := d) hp (k := x) (c := c) (a := a) (b := b) q3 hc9) (by simp [cAs, cE2, sev, svl, cen] <;> omega) ?_
                            intro rr M' hq
                            obtain ⟨hM', rfl⟩ := hq
                            rw [hM']
                            refine ⟨rfl, ?_⟩
                            refine d_set 0 (n - 2) (eJ x a b) (by simp only [cE2, sev, svl, cen, List.cons_append, List.nil_append]; omega) (by simp only [cE2, sev, svl, cen, List.cons_append, List.nil_append]; omega) (by omega) (by simp only [cE2, sev, svl, cen, List.cons_append, List.nil_append]; omega) ?_
                            refine d_rng (by simp only [clo, chi, cE2, sev, svl, cen, List.cons_append, List.nil_append]; omega) ?_
                            refine d_cut [((n - 1 : Nat) : Int), ((i + 1 : Nat) : Int)] (by simp [cE2, sev, svl, cen] <;> omega) ?_
                            exact fin
                        · simp only [cCmp, cE2, sev, svl, cen, List.cons_append, List.nil_append] at h
                          first
                          | omega
                          | skip
                            refine d_rng (by simp only [clo, chi, cE2, sev, svl, cen, List.cons_append, List.nil_append]; omega) ?_
                            refine d_rng (by simp only [clo, chi, cE2, sev, svl, cen, List.cons_append, List.nil_append]; omega) ?_
                            refine d_row 0 (n - 1) (by simp only [cE2, sev, svl, cen, List.cons_append, List.nil_append]; omega) (by simp only [cE2, sev, svl, cen, List.cons_append, List.nil_append]; omega) (by omega) ?_
                            rw [eb]
                            refine d_br (fun h => ?_) (fun h => ?_)
                            · simp only [cCmp, cE2, sev, svl, cen, List.cons_append, List.nil_append] at h
                              first
                              | omega
                              | skip
                                refine d_set 0 (n - 1) 0 (by simp only [cE2, sev, svl, cen, List.cons_append, List.nil_append]; omega) (by simp only [cE2, sev, svl, cen, List.cons_append, List.nil_append]; omega) (by omega) (by simp only [cE2, sev, svl, cen, List.cons_append, List.nil_append]; omega) ?_
                                refine d_rng (by simp only [clo, chi, cE2, sev, svl, cen, List.cons_append, List.nil_append]; omega) ?_
                                refine d_cut [(n : Int), ((i : Int) + 1)] (by simp [cE2, sev, svl, cen] <;> omega) ?_
                                exact (by omega)
                            · simp only [cCmp, cE2, sev, svl, cen, List.cons_append, List.nil_append] at h
                              first
                              | omega
                              | skip
                                refine d_set 0 (n - 1) 1 (by simp only [cE2, sev, svl, cen, List.cons_append, List.nil_append]; omega) (by simp only [cE2, sev, svl, cen, List.cons_append, List.nil_append]; omega) (by omega) (by simp only [cE2, sev, svl, cen, List.cons_append, List.nil_append]; omega) ?_
                                refine d_rng (by simp only [clo, chi, cE2, sev, svl, cen, List.cons_append, List.nil_append]; omega) ?_
                                refine d_cut [(n : Int), ((i : Int) + 1)] (by simp [cE2, sev, svl, cen] <;> omega) ?_
                                exact (by omega)
                    · simp only [cCmp, cE2, sev, svl, cen, List.cons_append, List.nil_append] at h
                      first
                      | omega
                      | skip
                        refine d_br (fun h => ?_) (fun h => ?_)
                        · simp only [cCmp, cE2, sev, svl, cen, List.cons_append, List.nil_append] at h
                          first
                          | omega
                          | skip
                            refine d_row 0 i (by simp only [cE2, sev, svl, cen, List.cons_append, List.nil_append]; omega) (by simp only [cE2, sev, svl, cen, List.cons_append, List.nil_append]; omega) (by omega) ?_
                            refine d_row 0 (((MW 42 0 i)).toNat) (by simp only [cE2, sev, svl, cen, List.cons_append, List.nil_append]; omega) (by simp only [cE2, sev, svl, cen, List.cons_append, List.nil_append]; omega) (by omega) ?_
                            refine d_set 0 n (MW 43 0 (((MW 42 0 i)).toNat)) (by simp only [cE2, sev, svl, cen, List.cons_append, List.nil_append]; omega) (by simp only [cE2, sev, svl, cen, List.cons_append, List.nil_append]; omega) (by omega) (by simp only [cE2, sev, svl, cen, List.cons_append, List.nil_append]; omega) ?_
                            refine d_rng (by simp only [clo, chi, cE2, sev, svl, cen, List.cons_append, List.nil_append]; omega) ?_
                            refine d_rng (by simp only [clo, chi, cE2, sev, svl, cen, List.cons_append, List.nil_append]; omega) ?_
                            refine d_cut [((n : Int) + 1), ((i : Int) + 1)] (by simp [cE2, sev, svl, cen] <;> omega) ?_
                            exact (by omega)
                        · simp only [cCmp, cE2, sev, svl, cen, List.cons_append, List.nil_append] at h
                          first
                          | omega
                          | skip
                            refine d_row 0 i (by simp only [cE2, sev, svl, cen, List.cons_append, List.nil_append]; omega) (by simp only [cE2, sev, svl, cen, List.cons_append, List.nil_append]; omega) (by omega) ?_
                            refine d_set 0 n (MW 42 0 i) (by simp only [cE2, sev, svl, cen, List.cons_append, List.nil_append]; omega) (by simp only [cE2, sev, svl, cen, List.cons_append, List.nil_append]; omega) (by omega) (by simp only [cE2, sev, svl, cen, List.cons_append, List.nil_append]; omega) ?_
                            refine d_rng (by simp only [clo, chi, cE2, sev, svl, cen, List.cons_append, List.nil_append]; omega) ?_
                            refine d_rng (by simp only [clo, chi, cE2, sev, svl, cen, List.cons_append, List.nil_append]; omega) ?_
                            refine d_cut [((n : Int) + 1), ((i : Int) + 1)] (by simp [cE2, sev, svl, cen] <;> omega) ?_
                            exact (by omega)
  refine cEnds_at gX10_worth_m0 rfl ?_
  refine d_cut [((0 : Nat) : Int), (fr : Int)] (by simp [cE2, sev, svl, cen] <;> omega) ?_
  exact loop q fr [] M hI (fun _ _ _ _ => rfl) he9.symm hq hm hh (Nat.zero_le _) trivial hR0.symm
end CR6
