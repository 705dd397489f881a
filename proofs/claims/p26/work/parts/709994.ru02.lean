/-! the run: the class's small methods, and what a line's codes come to -/
theorem rZ_cg {M M' : SMem} (h : ∀ f, f ∈ [61, 62, 63, 64, 77, 78, 93] → M' f = M f) : rZ M' = rZ M := by
  unfold rZ
  rw [h 64 (by decide), h 93 (by decide), h 62 (by decide), h 61 (by decide), h 63 (by decide), h 77 (by decide), h 78 (by decide)]
section CR2
variable {EX : SEx} {l : Launch} {dC : Nat → ClassId} {dI : Nat → Nat → Nat} {cA : Nat → ClassId} {ad : SAd} {scrS d : Nat}
theorem b_forget5x (hp : cPl tm tc tf EX) {M : SMem} : cBG tm tf EX l dC dI cA ad scrS (d + 1) kX5_forget [(2, 10, 0)] M (fun rr MM => rr = [] ∧ MM = supd M 10 0 13 0) := by
  refine cMeth (v := []) (Fd := 90) hp (by decide) gX5_forget_ok gX5_forget_m0 (by simp [cAs, cE2, sev, svl, cen]) ?_
  refine cEnds_at gX5_forget_m0 rfl ?_
  refine d_rng (by simp only [clo, chi, cE2, sev, svl, cen, List.cons_append, List.nil_append]; omega) ?_
  refine d_put 0 0 (by simp only [cE2, sev, svl, cen, List.cons_append, List.nil_append]; omega) (by simp only [cE2, sev, svl, cen, List.cons_append, List.nil_append]; omega) ?_
  exact d_ret [] rfl (by decide) ⟨rfl, rfl⟩
theorem b_standing (hp : cPl tm tc tf EX) {p : Nat} {st : List RC} {M : SMem} (hI : sI tg M) (hp9 : p < 12) (h6 : st.length ≤ 6) (g : rLg 79 80 81 82 M p st) : cBG tm tf EX l dC dI cA ad scrS (d + 1) kX5_standingAt [(2, 10, 0), (0, 0, (p : Int))] M (fun rr MM => MM = M ∧ rr = [rTop st]) := by
  obtain ⟨n, hn⟩ : ∃ n, n = st.length := ⟨_, rfl⟩
  have g0 : M 79 0 p = (n : Int) := by rw [hn]; exact g.1
  have b82 := wIb (f := 82) (i := 6 * p + n - 1) (lo := -1) (hi := 7) hI 0 rfl
  refine cMeth (v := [(p : Int)]) (Fd := 90) hp (by decide) gX5_standingAt_ok gX5_standingAt_m0 (by simp [cAs, cE2, sev, svl, cen]) ?_
  refine cEnds_at gX5_standingAt_m0 rfl ?_
  refine d_row 0 p (by simp only [cE2, sev, svl, cen, List.cons_append, List.nil_append]; omega) (by simp only [cE2, sev, svl, cen, List.cons_append, List.nil_append]; omega) (by omega) ?_
  rw [g0]
  refine d_br (fun h => ?_) (fun h => ?_)
  · simp only [cCmp, cE2, sev, svl, cen, List.cons_append, List.nil_append] at h
    first
    | omega
    | skip
      refine d_rng (by simp only [clo, chi, cE2, sev, svl, cen, List.cons_append, List.nil_append]; omega) ?_
      refine d_row 0 p (by simp only [cE2, sev, svl, cen, List.cons_append, List.nil_append]; omega) (by simp only [cE2, sev, svl, cen, List.cons_append, List.nil_append]; omega) (by omega) ?_
      rw [g0]
      refine d_rng (by simp only [clo, chi, cE2, sev, svl, cen, List.cons_append, List.nil_append]; omega) ?_
      refine d_rng (by simp only [clo, chi, cE2, sev, svl, cen, List.cons_append, List.nil_append]; omega) ?_
      refine d_row 0 (6 * p + n - 1) (by simp only [cE2, sev, svl, cen, List.cons_append, List.nil_append]; omega) (by simp only [cE2, sev, svl, cen, List.cons_append, List.nil_append]; omega) (by omega) ?_
      exact wret1 (M 82 0 (6 * p + n - 1)) (by simp only [cE2, sev, svl, cen, List.cons_append, List.nil_append]; omega) (by omega) ⟨rfl, by rw [rLg_top hn (by omega) g]⟩
  · simp only [cCmp, cE2, sev, svl, cen, List.cons_append, List.nil_append] at h
    first
    | omega
    | skip
      exact d_ret [(-1)] rfl (by decide) ⟨rfl, by rw [show st = [] from List.length_eq_zero_iff.mp (by omega)]; rfl⟩
theorem b_belowTop (hp : cPl tm tc tf EX) {p : Nat} {st : List RC} {t : Int} {M : SMem} (hp9 : p < 12) (h6 : st.length ≤ 6) (g : rLg 79 80 81 82 M p st) : cBG tm tf EX l dC dI cA ad scrS (d + 1) kX5_isBelowTop [(2, 10, 0), (0, 0, (p : Int)), (0, 0, t)] M (fun rr MM => MM = M ∧ ((rr = [1] ∧ (2 ≤ st.length ∧ rTw st = t)) ∨ (rr = [0] ∧ ¬ (2 ≤ st.length ∧ rTw st = t)))) := by
  obtain ⟨n, hn⟩ : ∃ n, n = st.length := ⟨_, rfl⟩
  have g0 : M 79 0 p = (n : Int) := by rw [hn]; exact g.1
  refine cMeth (v := [(p : Int), t]) (Fd := 90) hp (by decide) gX5_isBelowTop_ok gX5_isBelowTop_m0 (by simp [cAs, cE2, sev, svl, cen]) ?_
  refine cEnds_at gX5_isBelowTop_m0 rfl ?_
  refine d_row 0 p (by simp only [cE2, sev, svl, cen, List.cons_append, List.nil_append]; omega) (by simp only [cE2, sev, svl, cen, List.cons_append, List.nil_append]; omega) (by omega) ?_
  rw [g0]
  refine d_br (fun h => ?_) (fun h => ?_)
  · simp only [cCmp, cE2, sev, svl, cen, List.cons_append, List.nil_append] at h
    first
    | omega
    | skip
      exact d_ret [0] rfl (by decide) ⟨rfl, Or.inr ⟨rfl, by omega⟩⟩
  · simp only [cCmp, cE2, sev, svl, cen, List.cons_append, List.nil_append] at h
    first
    | omega
    | skip
      refine d_rng (by simp only [clo, chi, cE2, sev, svl, cen, List.cons_append, List.nil_append]; omega) ?_
      refine d_row 0 p (by simp only [cE2, sev, svl, cen, List.cons_append, List.nil_append]; omega) (by simp only [cE2, sev, svl, cen, List.cons_append, List.nil_append]; omega) (by omega) ?_
      rw [g0]
      refine d_rng (by simp only [clo, chi, cE2, sev, svl, cen, List.cons_append, List.nil_append]; omega) ?_
      refine d_rng (by simp only [clo, chi, cE2, sev, svl, cen, List.cons_append, List.nil_append]; omega) ?_
      refine d_row 0 (6 * p + n - 2) (by simp only [cE2, sev, svl, cen, List.cons_append, List.nil_append]; omega) (by simp only [cE2, sev, svl, cen, List.cons_append, List.nil_append]; omega) (by omega) ?_
      rw [rLg_two hn (by omega) g]
      refine d_br (fun h => ?_) (fun h => ?_)
      · simp only [cCmp, cE2, sev, svl, cen, List.cons_append, List.nil_append] at h
        first
        | omega
        | skip
          exact d_ret [0] rfl (by decide) ⟨rfl, Or.inr ⟨rfl, by omega⟩⟩
      · simp only [cCmp, cE2, sev, svl, cen, List.cons_append, List.nil_append] at h
        first
        | omega
        | skip
          exact d_ret [1] rfl (by decide) ⟨rfl, Or.inl ⟨rfl, by omega⟩⟩
theorem b_radd (hp : cPl tm tc tf EX) {p n : Nat} {a b c : Int} {M : SMem} (hp9 : p < 12) (h6 : n < 6) (g0 : M 79 0 p = (n : Int)) : cBG tm tf EX l dC dI cA ad scrS (d + 1) kX5_add [(2, 10, 0), (0, 0, (p : Int)), (0, 0, a), (0, 0, b), (0, 0, c)] M (fun rr MM => rr = [] ∧ MM = rAdd 79 80 81 82 M p n a b c) := by
  refine cMeth (v := [(p : Int), a, b, c]) (Fd := 90) hp (by decide) gX5_add_ok gX5_add_m0 (by simp [cAs, cE2, sev, svl, cen]) ?_
  refine cEnds_at gX5_add_m0 rfl ?_
  refine d_row 0 p (by simp only [cE2, sev, svl, cen, List.cons_append, List.nil_append]; omega) (by simp only [cE2, sev, svl, cen, List.cons_append, List.nil_append]; omega) (by omega) ?_
  rw [g0]
  refine d_br (fun h => ?_) (fun h => ?_)
  · simp only [cCmp, cE2, sev, svl, cen, List.cons_append, List.nil_append] at h
    first
    | omega
    | skip
      exact d_ret [] rfl (by decide) (by omega)
  · simp only [cCmp, cE2, sev, svl, cen, List.cons_append, List.nil_append] at h
    first
    | omega
    | skip
      refine d_rng (by simp only [clo, chi, cE2, sev, svl, cen, List.cons_append, List.nil_append]; omega) ?_
      refine d_row 0 p (by simp only [cE2, sev, svl, cen, List.cons_append, List.nil_append]; omega) (by simp only [cE2, sev, svl, cen, List.cons_append, List.nil_append]; omega) (by omega) ?_
      rw [g0]
      refine d_rng (by simp only [clo, chi, cE2, sev, svl, cen, List.cons_append, List.nil_append]; omega) ?_
      refine d_set 0 (6 * p + n) a (by simp only [cE2, sev, svl, cen, List.cons_append, List.nil_append]; omega) (by simp only [cE2, sev, svl, cen, List.cons_append, List.nil_append]; omega) (by omega) (by simp only [cE2, sev, svl, cen, List.cons_append, List.nil_append]; omega) ?_
      refine d_set 0 (6 * p + n) b (by simp only [cE2, sev, svl, cen, List.cons_append, List.nil_append]; omega) (by simp only [cE2, sev, svl, cen, List.cons_append, List.nil_append]; omega) (by omega) (by simp only [cE2, sev, svl, cen, List.cons_append, List.nil_append]; omega) ?_
      refine d_set 0 (6 * p + n) c (by simp only [cE2, sev, svl, cen, List.cons_append, List.nil_append]; omega) (by simp only [cE2, sev, svl, cen, List.cons_append, List.nil_append]; omega) (by omega) (by simp only [cE2, sev, svl, cen, List.cons_append, List.nil_append]; omega) ?_
      refine d_row 0 p (by simp only [cE2, sev, svl, cen, List.cons_append, List.nil_append]; omega) (by simp only [cE2, sev, svl, cen, List.cons_append, List.nil_append]; omega) (by omega) ?_
      rw [supd_f (by decide)]
      rw [supd_f (by decide)]
      rw [supd_f (by decide)]
      rw [g0]
      refine d_rng (by simp only [clo, chi, cE2, sev, svl, cen, List.cons_append, List.nil_append]; omega) ?_
      refine d_set 0 p ((n : Int) + 1) (by simp only [cE2, sev, svl, cen, List.cons_append, List.nil_append]; omega) (by simp only [cE2, sev, svl, cen, List.cons_append, List.nil_append]; omega) (by omega) (by simp only [cE2, sev, svl, cen, List.cons_append, List.nil_append]; omega) ?_
      exact d_ret [] rfl (by decide) ⟨rfl, rfl⟩
theorem b_join (hp : cPl tm tc tf EX) {k a b : Int} {M : SMem} (hk : k = 5 ∨ k = 6 ∨ (18 ≤ k ∧ k ≤ 22)) : cBG tm tf EX l dC dI cA ad scrS (d + 1) kX5_join [(0, 0, k), (0, 0, a), (0, 0, b)] M (fun rr MM => MM = M ∧ rr = [eJ k a b]) := by
  have b4 : -2147483648 ≤ cfn 4 a b ∧ cfn 4 a b ≤ 2147483647 := k32 _
  have b16 : -2147483648 ≤ cfn 16 a b ∧ cfn 16 a b ≤ 2147483647 := k32 _
  have b17 : -2147483648 ≤ cfn 17 a b ∧ cfn 17 a b ≤ 2147483647 := k32 _
  refine cMeth (v := [k, a, b]) (Fd := 90) hp (by decide) gX5_join_ok gX5_join_m0 (by simp [cAs, cE2, sev, svl, cen]) ?_
  refine cEnds_at gX5_join_m0 rfl ?_
  refine d_br (fun h => ?_) (fun h => ?_)
  · simp only [cCmp, cE2, sev, svl, cen, List.cons_append, List.nil_append] at h
    first
    | omega
    | skip
      refine d_opw a b (by simp [cE2, sev, svl, cen] <;> omega) (by simp [cE2, sev, svl, cen] <;> omega) ?_
      exact wret1 (cfn 4 a b) (by simp only [cE2, sev, svl, cen, List.cons_append, List.nil_append]; omega) (by omega) ⟨rfl, by unfold eJ; (repeat' split) <;> first | rfl | omega⟩
  · simp only [cCmp, cE2, sev, svl, cen, List.cons_append, List.nil_append] at h
    first
    | omega
    | skip
      refine d_br (fun h => ?_) (fun h => ?_)
      · simp only [cCmp, cE2, sev, svl, cen, List.cons_append, List.nil_append] at h
        first
        | omega
        | skip
          refine d_opw a b (by simp [cE2, sev, svl, cen] <;> omega) (by simp [cE2, sev, svl, cen] <;> omega) ?_
          exact wret1 (cfn 4 a b) (by simp only [cE2, sev, svl, cen, List.cons_append, List.nil_append]; omega) (by omega) ⟨rfl, by unfold eJ; (repeat' split) <;> first | rfl | omega⟩
      · simp only [cCmp, cE2, sev, svl, cen, List.cons_append, List.nil_append] at h
        first
        | omega
        | skip
          refine d_br (fun h => ?_) (fun h => ?_)
          · simp only [cCmp, cE2, sev, svl, cen, List.cons_append, List.nil_append] at h
            first
            | omega
            | skip
              refine d_br (fun h => ?_) (fun h => ?_)
              · simp only [cCmp, cE2, sev, svl, cen, List.cons_append, List.nil_append] at h
                first
                | omega
                | skip
                  exact d_ret [0] rfl (by decide) ⟨rfl, by unfold eJ; (repeat' split) <;> first | rfl | omega⟩
              · simp only [cCmp, cE2, sev, svl, cen, List.cons_append, List.nil_append] at h
                first
                | omega
                | skip
                  refine d_br (fun h => ?_) (fun h => ?_)
                  · simp only [cCmp, cE2, sev, svl, cen, List.cons_append, List.nil_append] at h
                    first
                    | omega
                    | skip
                      exact d_ret [0] rfl (by decide) ⟨rfl, by unfold eJ; (repeat' split) <;> first | rfl | omega⟩
                  · simp only [cCmp, cE2, sev, svl, cen, List.cons_append, List.nil_append] at h
                    first
                    | omega
                    | skip
                      exact d_ret [1] rfl (by decide) ⟨rfl, by unfold eJ; (repeat' split) <;> first | rfl | omega⟩
          · simp only [cCmp, cE2, sev, svl, cen, List.cons_append, List.nil_append] at h
            first
            | omega
            | skip
              refine d_br (fun h => ?_) (fun h => ?_)
              · simp only [cCmp, cE2, sev, svl, cen, List.cons_append, List.nil_append] at h
                first
                | omega
                | skip
                  refine d_br (fun h => ?_) (fun h => ?_)
                  · simp only [cCmp, cE2, sev, svl, cen, List.cons_append, List.nil_append] at h
                    first
                    | omega
                    | skip
                      exact d_ret [1] rfl (by decide) ⟨rfl, by unfold eJ; (repeat' split) <;> first | rfl | omega⟩
                  · simp only [cCmp, cE2, sev, svl, cen, List.cons_append, List.nil_append] at h
                    first
                    | omega
                    | skip
                      refine d_br (fun h => ?_) (fun h => ?_)
                      · simp only [cCmp, cE2, sev, svl, cen, List.cons_append, List.nil_append] at h
                        first
                        | omega
                        | skip
                          exact d_ret [0] rfl (by decide) ⟨rfl, by unfold eJ; (repeat' split) <;> first | rfl | omega⟩
                      · simp only [cCmp, cE2, sev, svl, cen, List.cons_append, List.nil_append] at h
                        first
                        | omega
                        | skip
                          exact d_ret [1] rfl (by decide) ⟨rfl, by unfold eJ; (repeat' split) <;> first | rfl | omega⟩
              · simp only [cCmp, cE2, sev, svl, cen, List.cons_append, List.nil_append] at h
                first
                | omega
                | skip
                  refine d_br (fun h => ?_) (fun h => ?_)
                  · simp only [cCmp, cE2, sev, svl, cen, List.cons_append, List.nil_append] at h
                    first
                    | omega
                    | skip
                      refine d_opw a b (by simp [cE2, sev, svl, cen] <;> omega) (by simp [cE2, sev, svl, cen] <;> omega) ?_
                      exact wret1 (cfn 4 a b) (by simp only [cE2, sev, svl, cen, List.cons_append, List.nil_append]; omega) (by omega) ⟨rfl, by unfold eJ; (repeat' split) <;> first | rfl | omega⟩
                  · simp only [cCmp, cE2, sev, svl, cen, List.cons_append, List.nil_append] at h
                    first
                    | omega
                    | skip
                      refine d_br (fun h => ?_) (fun h => ?_)
                      · simp only [cCmp, cE2, sev, svl, cen, List.cons_append, List.nil_append] at h
                        first
                        | omega
                        | skip
                          refine d_opw a b (by simp [cE2, sev, svl, cen] <;> omega) (by simp [cE2, sev, svl, cen] <;> omega) ?_
                          exact wret1 (cfn 4 a b) (by simp only [cE2, sev, svl, cen, List.cons_append, List.nil_append]; omega) (by omega) ⟨rfl, by unfold eJ; (repeat' split) <;> first | rfl | omega⟩
                      · simp only [cCmp, cE2, sev, svl, cen, List.cons_append, List.nil_append] at h
                        first
                        | omega
                        | skip
                          refine d_br (fun h => ?_) (fun h => ?_)
                          · simp only [cCmp, cE2, sev, svl, cen, List.cons_append, List.nil_append] at h
                            first
                            | omega
                            | skip
                              refine d_opw a b (by simp [cE2, sev, svl, cen] <;> omega) (by simp [cE2, sev, svl, cen] <;> omega) ?_
                              exact wret1 (cfn 4 a b) (by simp only [cE2, sev, svl, cen, List.cons_append, List.nil_append]; omega) (by omega) ⟨rfl, by unfold eJ; (repeat' split) <;> first | rfl | omega⟩
                          · simp only [cCmp, cE2, sev, svl, cen, List.cons_append, List.nil_append] at h
                            first
                            | omega
                            | skip
                              refine d_br (fun h => ?_) (fun h => ?_)
                              · simp only [cCmp, cE2, sev, svl, cen, List.cons_append, List.nil_append] at h
                                first
                                | omega
                                | skip
                                  refine d_opw a b (by simp [cE2, sev, svl, cen] <;> omega) (by simp [cE2, sev, svl, cen] <;> omega) ?_
                                  exact wret1 (cfn 4 a b) (by simp only [cE2, sev, svl, cen, List.cons_append, List.nil_append]; omega) (by omega) ⟨rfl, by unfold eJ; (repeat' split) <;> first | rfl | omega⟩
                              · simp only [cCmp, cE2, sev, svl, cen, List.cons_append, List.nil_append] at h
                                first
                                | omega
                                | skip
                                  refine d_br (fun h => ?_) (fun h => ?_)
                                  · simp only [cCmp, cE2, sev, svl, cen, List.cons_append, List.nil_append] at h
                                    first
                                    | omega
                                    | skip
                                      refine d_opw a b (by simp [cE2, sev, svl, cen] <;> omega) (by simp [cE2, sev, svl, cen] <;> omega) ?_
                                      exact wret1 (cfn 4 a b) (by simp only [cE2, sev, svl, cen, List.cons_append, List.nil_append]; omega) (by omega) ⟨rfl, by unfold eJ; (repeat' split) <;> first | rfl | omega⟩
                                  · simp only [cCmp, cE2, sev, svl, cen, List.cons_append, List.nil_append] at h
                                    first
                                    | omega
                                    | skip
                                      refine d_br (fun h => ?_) (fun h => ?_)
                                      · simp only [cCmp, cE2, sev, svl, cen, List.cons_append, List.nil_append] at h
                                        first
                                        | omega
                                        | skip
                                          refine d_opw a b (by simp [cE2, sev, svl, cen] <;> omega) (by simp [cE2, sev, svl, cen] <;> omega) ?_
                                          exact wret1 (cfn 4 a b) (by simp only [cE2, sev, svl, cen, List.cons_append, List.nil_append]; omega) (by omega) ⟨rfl, by unfold eJ; (repeat' split) <;> first | rfl | omega⟩
                                      · simp only [cCmp, cE2, sev, svl, cen, List.cons_append, List.nil_append] at h
                                        first
                                        | omega
                                        | skip
                                          refine d_br (fun h => ?_) (fun h => ?_)
                                          · simp only [cCmp, cE2, sev, svl, cen, List.cons_append, List.nil_append] at h
                                            first
                                            | omega
                                            | skip
                                              refine d_opw a b (by simp [cE2, sev, svl, cen] <;> omega) (by simp [cE2, sev, svl, cen] <;> omega) ?_
                                              exact wret1 (cfn 4 a b) (by simp only [cE2, sev, svl, cen, List.cons_append, List.nil_append]; omega) (by omega) ⟨rfl, by unfold eJ; (repeat' split) <;> first | rfl | omega⟩
                                          · simp only [cCmp, cE2, sev, svl, cen, List.cons_append, List.nil_append] at h
                                            first
                                            | omega
                                            | skip
                                              refine d_br (fun h => ?_) (fun h => ?_)
                                              · simp only [cCmp, cE2, sev, svl, cen, List.cons_append, List.nil_append] at h
                                                first
                                                | omega
                                                | skip
                                                  refine d_opw a b (by simp [cE2, sev, svl, cen] <;> omega) (by simp [cE2, sev, svl, cen] <;> omega) ?_
                                                  exact wret1 (cfn 4 a b) (by simp only [cE2, sev, svl, cen, List.cons_append, List.nil_append]; omega) (by omega) ⟨rfl, by unfold eJ; (repeat' split) <;> first | rfl | omega⟩
                                              · simp only [cCmp, cE2, sev, svl, cen, List.cons_append, List.nil_append] at h
                                                first
                                                | omega
                                                | skip
                                                  refine d_br (fun h => ?_) (fun h => ?_)
                                                  · simp only [cCmp, cE2, sev, svl, cen, List.cons_append, List.nil_append] at h
                                                    first
                                                    | omega
                                                    | skip
                                                      refine d_opw a b (by simp [cE2, sev, svl, cen] <;> omega) (by simp [cE2, sev, svl, cen] <;> omega) ?_
                                                      exact wret1 (cfn 4 a b) (by simp only [cE2, sev, svl, cen, List.cons_append, List.nil_append]; omega) (by omega) ⟨rfl, by unfold eJ; (repeat' split) <;> first | rfl | omega⟩
                                                  · simp only [cCmp, cE2, sev, svl, cen, List.cons_append, List.nil_append] at h
                                                    first
                                                    | omega
                                                    | skip
                                                      refine d_br (fun h => ?_) (fun h => ?_)
                                                      · simp only [cCmp, cE2, sev, svl, cen, List.cons_append, List.nil_append] at h
                                                        first
                                                        | omega
                                                        | skip
                                                          refine d_opw a b (by simp [cE2, sev, svl, cen] <;> omega) (by simp [cE2, sev, svl, cen] <;> omega) ?_
                                                          exact wret1 (cfn 4 a b) (by simp only [cE2, sev, svl, cen, List.cons_append, List.nil_append]; omega) (by omega) ⟨rfl, by unfold eJ; (repeat' split) <;> first | rfl | omega⟩
                                                      · simp only [cCmp, cE2, sev, svl, cen, List.cons_append, List.nil_append] at h
                                                        first
                                                        | omega
                                                        | skip
                                                          refine d_br (fun h => ?_) (fun h => ?_)
                                                          · simp only [cCmp, cE2, sev, svl, cen, List.cons_append, List.nil_append] at h
                                                            first
                                                            | omega
                                                            | skip
                                                              refine d_opw a b (by simp [cE2, sev, svl, cen] <;> omega) (by simp [cE2, sev, svl, cen] <;> omega) ?_
                                                              exact wret1 (cfn 4 a b) (by simp only [cE2, sev, svl, cen, List.cons_append, List.nil_append]; omega) (by omega) ⟨rfl, by unfold eJ; (repeat' split) <;> first | rfl | omega⟩
                                                          · simp only [cCmp, cE2, sev, svl, cen, List.cons_append, List.nil_append] at h
                                                            first
                                                            | omega
                                                            | skip
                                                              refine d_br (fun h => ?_) (fun h => ?_)
                                                              · simp only [cCmp, cE2, sev, svl, cen, List.cons_append, List.nil_append] at h
                                                                first
                                                                | omega
                                                                | skip
                                                                  refine d_br (fun h => ?_) (fun h => ?_)
                                                                  · simp only [cCmp, cE2, sev, svl, cen, List.cons_append, List.nil_append] at h
                                                                    first
                                                                    | omega
                                                                    | skip
                                                                      exact d_ret [0] rfl (by decide) ⟨rfl, by unfold eJ; (repeat' split) <;> first | rfl | omega⟩
                                                                  · simp only [cCmp, cE2, sev, svl, cen, List.cons_append, List.nil_append] at h
                                                                    first
                                                                    | omega
                                                                    | skip
                                                                      exact d_ret [1] rfl (by decide) ⟨rfl, by unfold eJ; (repeat' split) <;> first | rfl | omega⟩
                                                              · simp only [cCmp, cE2, sev, svl, cen, List.cons_append, List.nil_append] at h
                                                                first
                                                                | omega
                                                                | skip
                                                                  refine d_br (fun h => ?_) (fun h => ?_)
                                                                  · simp only [cCmp, cE2, sev, svl, cen, List.cons_append, List.nil_append] at h
                                                                    first
                                                                    | omega
                                                                    | skip
                                                                      refine d_br (fun h => ?_) (fun h => ?_)
                                                                      · simp only [cCmp, cE2, sev, svl, cen, List.cons_append, List.nil_append] at h
                                                                        first
                                                                        | omega
                                                                        | skip
                                                                          exact d_ret [0] rfl (by decide) ⟨rfl, by unfold eJ; (repeat' split) <;> first | rfl | omega⟩
                                                                      · simp only [cCmp, cE2, sev, svl, cen, List.cons_append, List.nil_append] at h
                                                                        first
                                                                        | omega
                                                                        | skip
                                                                          exact d_ret [1] rfl (by decide) ⟨rfl, by unfold eJ; (repeat' split) <;> first | rfl | omega⟩
                                                                  · simp only [cCmp, cE2, sev, svl, cen, List.cons_append, List.nil_append] at h
                                                                    first
                                                                    | omega
                                                                    | skip
                                                                      refine d_br (fun h => ?_) (fun h => ?_)
                                                                      · simp only [cCmp, cE2, sev, svl, cen, List.cons_append, List.nil_append] at h
                                                                        first
                                                                        | omega
                                                                        | skip
                                                                          refine d_opw a b (by simp [cE2, sev, svl, cen] <;> omega) (by simp [cE2, sev, svl, cen] <;> omega) ?_
                                                                          exact wret1 (cfn 16 a b) (by simp only [cE2, sev, svl, cen, List.cons_append, List.nil_append]; omega) (by omega) ⟨rfl, by unfold eJ; (repeat' split) <;> first | rfl | omega⟩
                                                                      · simp only [cCmp, cE2, sev, svl, cen, List.cons_append, List.nil_append] at h
                                                                        first
                                                                        | omega
                                                                        | skip
                                                                          refine d_br (fun h => ?_) (fun h => ?_)
                                                                          · simp only [cCmp, cE2, sev, svl, cen, List.cons_append, List.nil_append] at h
                                                                            first
                                                                            | omega
                                                                            | skip
                                                                              refine d_opw a b (by simp [cE2, sev, svl, cen] <;> omega) (by simp [cE2, sev, svl, cen] <;> omega) ?_
                                                                              exact wret1 (cfn 17 a b) (by simp only [cE2, sev, svl, cen, List.cons_append, List.nil_append]; omega) (by omega) ⟨rfl, by unfold eJ; (repeat' split) <;> first | rfl | omega⟩
                                                                          · simp only [cCmp, cE2, sev, svl, cen, List.cons_append, List.nil_append] at h
                                                                            first
                                                                            | omega
                                                                            | skip
                                                                              omega
theorem b_fact (hp : cPl tm tc tf EX) {p : Nat} {st : List RC} {k : Int} {M : SMem} (hI : sI tg M) (hp9 : p < 12) (hw : rWf st) (g : rLg 79 80 81 82 M p st) (hk : 8 ≤ k ∧ k ≤ 14) : cBG tm tf EX l dC dI cA ad scrS (d + 2) kX5_fact [(2, 10, 0), (0, 0, k), (0, 0, (p : Int))] M (fun rr MM => MM = M ∧ rr = [rFc (rZ M) p st k]) := by
  have tb := rWf_top hw
  have b1 := wIb (f := 64) (i := 1) (lo := 0) (hi := 24) hI p rfl
  have b2 := wIb (f := 64) (i := 2) (lo := 0) (hi := 99) hI p rfl
  have b3 := wIb (f := 64) (i := 3) (lo := 0) (hi := 3) hI p rfl
  have b62 := wIb (f := 62) (i := (rTop st).toNat) (lo := -2147483648) (hi := 2147483647) hI 0 rfl
  have h6 := hw.1
  have g1 := g.1
  refine cMeth (v := [k, (p : Int)]) (Fd := 90) hp (by decide) gX5_fact_ok gX5_fact_m0 (by simp [cAs, cE2, sev, svl, cen]) ?_
  refine cEnds_at gX5_fact_m0 rfl ?_
  refine d_call (b_standing hp hI hp9 hw.1 g) (by simp [cAs, cE2, sev, svl, cen] <;> omega) ?_
  intro rr M' hq
  obtain ⟨hM', rfl⟩ := hq
  rw [hM']
  refine ⟨rfl, ?_⟩
  refine d_br (fun h => ?_) (fun h => ?_)
  · simp only [cCmp, cE2, sev, svl, cen, List.cons_append, List.nil_append] at h
    first
    | omega
    | skip
      refine d_br (fun h => ?_) (fun h => ?_)
      · simp only [cCmp, cE2, sev, svl, cen, List.cons_append, List.nil_append] at h
        first
        | omega
        | skip
          exact wret1 (rTop st) (by simp only [cE2, sev, svl, cen, List.cons_append, List.nil_append]; omega) (by omega) ⟨rfl, by unfold rFc; (repeat' split) <;> first | rfl | omega⟩
      · simp only [cCmp, cE2, sev, svl, cen, List.cons_append, List.nil_append] at h
        first
        | omega
        | skip
          exact d_ret [99] rfl (by decide) ⟨rfl, by unfold rFc; (repeat' split) <;> first | rfl | omega⟩
  · simp only [cCmp, cE2, sev, svl, cen, List.cons_append, List.nil_append] at h
    first
    | omega
    | skip
      refine d_br (fun h => ?_) (fun h => ?_)
      · simp only [cCmp, cE2, sev, svl, cen, List.cons_append, List.nil_append] at h
        first
        | omega
        | skip
          refine d_br (fun h => ?_) (fun h => ?_)
          · simp only [cCmp, cE2, sev, svl, cen, List.cons_append, List.nil_append] at h
            first
            | omega
            | skip
              exact wret1 (rTop st) (by simp only [cE2, sev, svl, cen, List.cons_append, List.nil_append]; omega) (by omega) ⟨rfl, by unfold rFc; (repeat' split) <;> first | rfl | omega⟩
          · simp only [cCmp, cE2, sev, svl, cen, List.cons_append, List.nil_append] at h
            first
            | omega
            | skip
              exact d_ret [99] rfl (by decide) ⟨rfl, by unfold rFc; (repeat' split) <;> first | rfl | omega⟩
      · simp only [cCmp, cE2, sev, svl, cen, List.cons_append, List.nil_append] at h
        first
        | omega
        | skip
          refine d_br (fun h => ?_) (fun h => ?_)
          · simp only [cCmp, cE2, sev, svl, cen, List.cons_append, List.nil_append] at h
            first
            | omega
            | skip
              refine d_idx (by simp only [cE2, sev, svl, cen, List.cons_append, List.nil_append]; omega) ?_
              refine d_fld p (by simp only [cE2, sev, svl, cen, List.cons_append, List.nil_append]; omega) ?_
              exact wret1 (M 64 p 2) (by simp only [cE2, sev, svl, cen, List.cons_append, List.nil_append]; omega) (by omega) ⟨rfl, by unfold rFc; (repeat' split) <;> first | rfl | omega⟩
          · simp only [cCmp, cE2, sev, svl, cen, List.cons_append, List.nil_append] at h
            first
            | omega
            | skip
              refine d_br (fun h => ?_) (fun h => ?_)
              · simp only [cCmp, cE2, sev, svl, cen, List.cons_append, List.nil_append] at h
                first
                | omega
                | skip
                  refine d_idx (by simp only [cE2, sev, svl, cen, List.cons_append, List.nil_append]; omega) ?_
                  refine d_fld p (by simp only [cE2, sev, svl, cen, List.cons_append, List.nil_append]; omega) ?_
                  exact wret1 (M 64 p 1) (by simp only [cE2, sev, svl, cen, List.cons_append, List.nil_append]; omega) (by omega) ⟨rfl, by unfold rFc; (repeat' split) <;> first | rfl | omega⟩
              · simp only [cCmp, cE2, sev, svl, cen, List.cons_append, List.nil_append] at h
                first
                | omega
                | skip
                  refine d_br (fun h => ?_) (fun h => ?_)
                  · simp only [cCmp, cE2, sev, svl, cen, List.cons_append, List.nil_append] at h
                    first
                    | omega
                    | skip
                      refine d_idx (by simp only [cE2, sev, svl, cen, List.cons_append, List.nil_append]; omega) ?_
                      refine d_fld p (by simp only [cE2, sev, svl, cen, List.cons_append, List.nil_append]; omega) ?_
                      exact wret1 (M 64 p 3) (by simp only [cE2, sev, svl, cen, List.cons_append, List.nil_append]; omega) (by omega) ⟨rfl, by unfold rFc; (repeat' split) <;> first | rfl | omega⟩
                  · simp only [cCmp, cE2, sev, svl, cen, List.cons_append, List.nil_append] at h
                    first
                    | omega
                    | skip
                      refine d_br (fun h => ?_) (fun h => ?_)
                      · simp only [cCmp, cE2, sev, svl, cen, List.cons_append, List.nil_append] at h
                        first
                        | omega
                        | skip
                          refine d_br (fun h => ?_) (fun h => ?_)
                          · simp only [cCmp, cE2, sev, svl, cen, List.cons_append, List.nil_append] at h
                            first
                            | omega
                            | skip
                              refine d_row 0 ((rTop st).toNat) (by simp only [cE2, sev, svl, cen, List.cons_append, List.nil_append]; omega) (by simp only [cE2, sev, svl, cen, List.cons_append, List.nil_append]; omega) (by omega) ?_
                              exact wret1 (M 62 0 ((rTop st).toNat)) (by simp only [cE2, sev, svl, cen, List.cons_append, List.nil_append]; omega) (by omega) ⟨rfl, by unfold rFc; (repeat' split) <;> first | rfl | omega⟩
                          · simp only [cCmp, cE2, sev, svl, cen, List.cons_append, List.nil_append] at h
                            first
                            | omega
                            | skip
                              exact d_ret [0] rfl (by decide) ⟨rfl, by unfold rFc; (repeat' split) <;> first | rfl | omega⟩
                      · simp only [cCmp, cE2, sev, svl, cen, List.cons_append, List.nil_append] at h
                        first
                        | omega
                        | skip
                          refine d_br (fun h => ?_) (fun h => ?_)
                          · simp only [cCmp, cE2, sev, svl, cen, List.cons_append, List.nil_append] at h
                            first
                            | omega
                            | skip
                              exact wret1 (p : Int) (by simp only [cE2, sev, svl, cen, List.cons_append, List.nil_append]; omega) (by omega) ⟨rfl, by unfold rFc; (repeat' split) <;> first | rfl | omega⟩
                          · simp only [cCmp, cE2, sev, svl, cen, List.cons_append, List.nil_append] at h
                            first
                            | omega
                            | skip
                              refine d_br (fun h => ?_) (fun h => ?_)
                              · simp only [cCmp, cE2, sev, svl, cen, List.cons_append, List.nil_append] at h
                                first
                                | omega
                                | skip
                                  refine d_row 0 p (by simp only [cE2, sev, svl, cen, List.cons_append, List.nil_append]; omega) (by simp only [cE2, sev, svl, cen, List.cons_append, List.nil_append]; omega) (by omega) ?_
                                  rw [g1]
                                  exact wret1 (st.length : Int) (by simp only [cE2, sev, svl, cen, List.cons_append, List.nil_append]; omega) (by omega) ⟨rfl, by unfold rFc; (repeat' split) <;> first | rfl | omega⟩
                              · simp only [cCmp, cE2, sev, svl, cen, List.cons_append, List.nil_append] at h
                                first
                                | omega
                                | skip
                                  omega
theorem b_evaluate (hp : cPl tm tc tf EX) {r ln p fr : Nat} {st : List RC} {q : List Int} {M : SMem} (hI : sI tg M) (hr : r < 6) (hl : ln < 12) (hp9 : p < 12) (hw : rWf st) (g : rLg 79 80 81 82 M p st) (h98 : M 98 r ln = (fr : Int)) (h99 : M 99 r ln = ((fr + q.length : Nat) : Int)) (h106 : ((fr + q.length : Nat) : Int) ≤ M 106 r 0) (hq : ∀ (j : Nat) (x : Int), q[j]? = some x → M 100 r (fr + j) = x) (hm : oMx q 0) (h9 : fr + q.length ≤ 1000) : cBG tm tf EX l dC dI cA ad scrS (d + 3) kX5_evaluate [(2, 10, 0), (2, 74, (r : Int)), (0, 0, (ln : Int)), (0, 0, (p : Int))] M (fun rr MM => rr = [eV (rFc (rZ M) p st) q] ∧ sI tg MM ∧ ∀ f j i, f ≠ 85 → MM f j i = M f j i) := by
  refine cMeth (v := [(r : Int), (ln : Int), (p : Int)]) (Fd := 90) hp (by decide) gX5_evaluate_ok gX5_evaluate_m0 (by simp [cAs, cE2, sev, svl, cen]) ?_
  obtain ⟨F, hF⟩ : ∃ F, F = rFc (rZ M) p st := ⟨_, rfl⟩
  obtain ⟨e, he⟩ : ∃ e, e = fr + q.length := ⟨_, rfl⟩
  obtain ⟨R0, hR0⟩ : ∃ R0, R0 = eR F q [] := ⟨_, rfl⟩
  rw [← he] at h99 h106
  rw [show eV (rFc (rZ M) p st) q = R0.headD 0 by rw [hR0, hF]; rfl]
  have loop : ∀ (cc : List Int) (i : Nat) (s : List Int) (MW : SMem), sI tg MW → (∀ f j i, f ≠ 85 → MW f j i = M f j i) → i + cc.length = e → (∀ (j : Nat) (x : Int), cc[j]? = some x → M 100 r (i + j) = x) → oMx cc s.length → s.length ≤ 64 → eM 85 MW s → eR F cc s = R0 → cEnds (cBG tm tf EX l dC dI cA ad scrS (d + 2)) (fun rr MM => rr = [R0.headD 0] ∧ sI tg MM ∧ ∀ f j i, f ≠ 85 → MM f j i = M f j i) 90 gX5_evaluate 11 [(r : Int), (ln : Int), (p : Int), (s.length : Int), (i : Int)] MW := by
    intro cc
    induction cc with
    | nil =>
      intro i s MW i1 f1 hi hc hm9 h64 gs hR
      have e99 : MW 99 r ln = (e : Int) := (f1 99 r ln (by decide)).trans h99
      have hi : i = e := hi
      have hR : s = R0 := hR
      rw [← hR]
      refine cEnds_at gX5_evaluate_m11 rfl ?_
      match s, gs with
      | [], gs =>
        refine d_row r ln (by simp only [cE2, sev, svl, cen, List.cons_append, List.nil_append]; omega) (by simp only [cE2, sev, svl, cen, List.cons_append, List.nil_append]; omega) (by omega) ?_
        rw [e99]
        refine d_br (fun h => ?_) (fun h => ?_)
        · simp only [cCmp, cE2, sev, svl, cen, List.cons_append, List.nil_append] at h
          first
          | omega
          | skip
            refine d_br (fun h => ?_) (fun h => ?_)
            · simp only [cCmp, cE2, sev, svl, cen, List.cons_append, List.nil_append] at h
              first
              | omega
              | skip
                exact d_ret [0] rfl (by decide) ⟨rfl, i1, f1⟩
            · simp only [cCmp, cE2, sev, svl, cen, List.cons_append, List.nil_append] at h
              first
              | omega
              | skip
                refine d_rng (by simp only [clo, chi, cE2, sev, svl, cen, List.cons_append, List.nil_append]; omega) ?_
                refine d_row 0 ((0) - 1) (by simp only [cE2, sev, svl, cen, List.cons_append, List.nil_append]; omega) (by simp only [cE2, sev, svl, cen, List.cons_append, List.nil_append]; omega) (by omega) ?_
                exact wret1 (MW 85 0 ((0) - 1)) (by simp only [cE2, sev, svl, cen, List.cons_append, List.nil_append]; omega) (by omega) (by omega)
        · simp only [cCmp, cE2, sev, svl, cen, List.cons_append, List.nil_append] at h
          first
          | omega
          | skip
            refine d_dyn r i (by simp only [cE2, sev, svl, cen, List.cons_append, List.nil_append]; omega) (by simp only [cE2, sev, svl, cen, List.cons_append, List.nil_append]; omega) (by omega) ?_
            refine d_opw (MW 100 r i) 32 (by simp [cE2, sev, svl, cen] <;> omega) (by simp [cE2, sev, svl, cen] <;> omega) ?_
            refine d_br (fun h => ?_) (fun h => ?_)
            · simp only [cCmp, cE2, sev, svl, cen, List.cons_append, List.nil_append] at h
              first
              | omega
              | skip
                refine d_br (fun h => ?_) (fun h => ?_)
                · simp only [cCmp, cE2, sev, svl, cen, List.cons_append, List.nil_append] at h
                  first
                  | omega
                  | skip
                    refine d_br (fun h => ?_) (fun h => ?_)
                    · simp only [cCmp, cE2, sev, svl, cen, List.cons_append, List.nil_append] at h
                      first
                      | omega
                      | skip
                        refine d_rng (by simp only [clo, chi, cE2, sev, svl, cen, List.cons_append, List.nil_append]; omega) ?_
                        refine d_cut [(r : Int), (ln : Int), (p : Int), ((0 : Nat) : Int), ((i : Int) + 1)] (by simp [cE2, sev, svl, cen] <;> omega) ?_
                        exact (by omega)
                    · simp only [cCmp, cE2, sev, svl, cen, List.cons_append, List.nil_append] at h
                      first
                      | omega
                      | skip
                        refine d_rng (by simp only [clo, chi, cE2, sev, svl, cen, List.cons_append, List.nil_append]; omega) ?_
                        refine d_rng (by simp only [clo, chi, cE2, sev, svl, cen, List.cons_append, List.nil_append]; omega) ?_
                        refine d_row 0 ((0) - 2) (by simp only [cE2, sev, svl, cen, List.cons_append, List.nil_append]; omega) (by simp only [cE2, sev, svl, cen, List.cons_append, List.nil_append]; omega) (by omega) ?_
                        refine d_rng (by simp only [clo, chi, cE2, sev, svl, cen, List.cons_append, List.nil_append]; omega) ?_
                        refine d_row 0 ((0) - 1) (by simp only [cE2, sev, svl, cen, List.cons_append, List.nil_append]; omega) (by simp only [cE2, sev, svl, cen, List.cons_append, List.nil_append]; omega) (by omega) ?_
                        omega
                · simp only [cCmp, cE2, sev, svl, cen, List.cons_append, List.nil_append] at h
                  first
                  | omega
                  | skip
                    refine d_br (fun h => ?_) (fun h => ?_)
                    · simp only [cCmp, cE2, sev, svl, cen, List.cons_append, List.nil_append] at h
                      first
                      | omega
                      | skip
                        refine d_br (fun h => ?_) (fun h => ?_)
                        · simp only [cCmp, cE2, sev, svl, cen, List.cons_append, List.nil_append] at h
                          first
                          | omega
                          | skip
                            refine d_rng (by simp only [clo, chi, cE2, sev, svl, cen, List.cons_append, List.nil_append]; omega) ?_
                            refine d_cut [(r : Int), (ln : Int), (p : Int), ((0 : Nat) : Int), ((i : Int) + 1)] (by simp [cE2, sev, svl, cen] <;> omega) ?_
                            exact (by omega)
                        · simp only [cCmp, cE2, sev, svl, cen, List.cons_append, List.nil_append] at h
                          first
                          | omega
                          | skip
                            refine d_rng (by simp only [clo, chi, cE2, sev, svl, cen, List.cons_append, List.nil_append]; omega) ?_
                            refine d_rng (by simp only [clo, chi, cE2, sev, svl, cen, List.cons_append, List.nil_append]; omega) ?_
                            refine d_row 0 ((0) - 2) (by simp only [cE2, sev, svl, cen, List.cons_append, List.nil_append]; omega) (by simp only [cE2, sev, svl, cen, List.cons_append, List.nil_append]; omega) (by omega) ?_
                            refine d_rng (by simp only [clo, chi, cE2, sev, svl, cen, List.cons_append, List.nil_append]; omega) ?_
                            refine d_row 0 ((0) - 1) (by simp only [cE2, sev, svl, cen, List.cons_append, List.nil_append]; omega) (by simp only [cE2, sev, svl, cen, List.cons_append, List.nil_append]; omega) (by omega) ?_
                            omega
                    · simp only [cCmp, cE2, sev, svl, cen, List.cons_append, List.nil_append] at h
                      first
                      | omega
                      | skip
                        refine d_br (fun h => ?_) (fun h => ?_)
                        · simp only [cCmp, cE2, sev, svl, cen, List.cons_append, List.nil_append] at h
                          first
                          | omega
                          | skip
                            refine d_rng (by simp only [clo, chi, cE2, sev, svl, cen, List.cons_append, List.nil_append]; omega) ?_
                            refine d_cut [(r : Int), (ln : Int), (p : Int), ((0 : Nat) : Int), ((i : Int) + 1)] (by simp [cE2, sev, svl, cen] <;> omega) ?_
                            exact (by omega)
                        · simp only [cCmp, cE2, sev, svl, cen, List.cons_append, List.nil_append] at h
                          first
                          | omega
                          | skip
                            refine d_br (fun h => ?_) (fun h => ?_)
                            · simp only [cCmp, cE2, sev, svl, cen, List.cons_append, List.nil_append] at h
                              first
                              | omega
                              | skip
                                omega
                            · simp only [cCmp, cE2, sev, svl, cen, List.cons_append, List.nil_append] at h
                              first
                              | omega
                              | skip
                                refine d_opw (MW 100 r i) 32 (by simp [cE2, sev, svl, cen] <;> omega) (by simp [cE2, sev, svl, cen] <;> omega) ?_
                                refine d_set 0 (0) (cfn 13 (MW 100 r i) 32) (by simp only [cE2, sev, svl, cen, List.cons_append, List.nil_append]; omega) (by simp only [cE2, sev, svl, cen, List.cons_append, List.nil_append]; omega) (by omega) (by simp only [cE2, sev, svl, cen, List.cons_append, List.nil_append]; omega) ?_
                                refine d_rng (by simp only [clo, chi, cE2, sev, svl, cen, List.cons_append, List.nil_append]; omega) ?_
                                refine d_rng (by simp only [clo, chi, cE2, sev, svl, cen, List.cons_append, List.nil_append]; omega) ?_
                                refine d_cut [(r : Int), (ln : Int), (p : Int), (((0 : Nat) : Int) + 1), ((i : Int) + 1)] (by simp [cE2, sev, svl, cen] <;> omega) ?_
                                exact (by omega)
            · simp only [cCmp, cE2, sev, svl, cen, List.cons_append, List.nil_append] at h
              first
              | omega
              | skip
                refine d_br (fun h => ?_) (fun h => ?_)
                · simp only [cCmp, cE2, sev, svl, cen, List.cons_append, List.nil_append] at h
                  first
                  | omega
                  | skip
                    refine d_rng (by simp only [clo, chi, cE2, sev, svl, cen, List.cons_append, List.nil_append]; omega) ?_
                    refine d_cut [(r : Int), (ln : Int), (p : Int), ((0 : Nat) : Int), ((i : Int) + 1)] (by simp [cE2, sev, svl, cen] <;> omega) ?_
                    exact (by omega)
                · simp only [cCmp, cE2, sev, svl, cen, List.cons_append, List.nil_append] at h
                  first
                  | omega
                  | skip
                    refine d_rng (by simp only [clo, chi, cE2, sev, svl, cen, List.cons_append, List.nil_append]; omega) ?_
                    refine d_rng (by simp only [clo, chi, cE2, sev, svl, cen, List.cons_append, List.nil_append]; omega) ?_
                    refine d_row 0 ((0) - 1) (by simp only [cE2, sev, svl, cen, List.cons_append, List.nil_append]; omega) (by simp only [cE2, sev, svl, cen, List.cons_append, List.nil_append]; omega) (by omega) ?_
                    refine d_br (fun h => ?_) (fun h => ?_)
                    · simp only [cCmp, cE2, sev, svl, cen, List.cons_append, List.nil_append] at h
                      first
                      | omega
                      | skip
                        refine d_set 0 ((0) - 1) 0 (by simp only [cE2, sev, svl, cen, List.cons_append, List.nil_append]; omega) (by simp only [cE2, sev, svl, cen, List.cons_append, List.nil_append]; omega) (by omega) (by simp only [cE2, sev, svl, cen, List.cons_append, List.nil_append]; omega) ?_
                        refine d_rng (by simp only [clo, chi, cE2, sev, svl, cen, List.cons_append, List.nil_append]; omega) ?_
                        refine d_cut [(r : Int), (ln : Int), (p : Int), ((0 : Nat) : Int), ((i : Int) + 1)] (by simp [cE2, sev, svl, cen] <;> omega) ?_
                        exact (by omega)
                    · simp only [cCmp, cE2, sev, svl, cen, List.cons_append, List.nil_append] at h
                      first
                      | omega
                      | skip
                        refine d_set 0 ((0) - 1) 1 (by simp only [cE2, sev, svl, cen, List.cons_append, List.nil_append]; omega) (by simp only [cE2, sev, svl, cen, List.cons_append, List.nil_append]; omega) (by omega) (by simp only [cE2, sev, svl, cen, List.cons_append, List.nil_append]; omega) ?_
                        refine d_rng (by simp only [clo, chi, cE2, sev, svl, cen, List.cons_append, List.nil_append]; omega) ?_
                        refine d_cut [(r : Int), (ln : Int), (p : Int), ((0 : Nat) : Int), ((i : Int) + 1)] (by simp [cE2, sev, svl, cen] <;> omega) ?_
                        exact (by omega)
      | a :: t, gs =>
        obtain ⟨n, hn⟩ : ∃ n, n = t.length + 1 := ⟨_, rfl⟩
        rw [show (a :: t).length = n from hn.symm] at h64
        rw [show (a :: t).length = n from hn.symm]
        have ea : MW 85 0 (n - 1) = a := by rw [hn]; exact gs.1
        have b85 := wIb (f := 85) (i := n - 1) (lo := -2147483648) (hi := 2147483647) i1 0 rfl
        rw [ea] at b85
        refine d_row r ln (by simp only [cE2, sev, svl, cen, List.cons_append, List.nil_append]; omega) (by simp only [cE2, sev, svl, cen, List.cons_append, List.nil_append]; omega) (by omega) ?_
        rw [e99]
        refine d_br (fun h => ?_) (fun h => ?_)
        · simp only [cCmp, cE2, sev, svl, cen, List.cons_append, List.nil_append] at h
          first
          | omega
          | skip
            refine d_br (fun h => ?_) (fun h => ?_)
            · simp only [cCmp, cE2, sev, svl, cen, List.cons_append, List.nil_append] at h
              first
              | omega
              | skip
                exact d_ret [0] rfl (by decide) (by omega)
            · simp only [cCmp, cE2, sev, svl, cen, List.cons_append, List.nil_append] at h
              first
              | omega
              | skip
                refine d_rng (by simp only [clo, chi, cE2, sev, svl, cen, List.cons_append, List.nil_append]; omega) ?_
                refine d_row 0 (n - 1) (by simp only [cE2, sev, svl, cen, List.cons_append, List.nil_append]; omega) (by simp only [cE2, sev, svl, cen, List.cons_append, List.nil_append]; omega) (by omega) ?_
                rw [ea]
                exact wret1 a (by simp only [cE2, sev, svl, cen, List.cons_append, List.nil_append]; omega) (by omega) ⟨rfl, i1, f1⟩
        · simp only [cCmp, cE2, sev, svl, cen, List.cons_append, List.nil_append] at h
          first
          | omega
          | skip
            refine d_dyn r i (by simp only [cE2, sev, svl, cen, List.cons_append, List.nil_append]; omega) (by simp only [cE2, sev, svl, cen, List.cons_append, List.nil_append]; omega) (by omega) ?_
            refine d_opw (MW 100 r i) 32 (by simp [cE2, sev, svl, cen] <;> omega) (by simp [cE2, sev, svl, cen] <;> omega) ?_
            refine d_br (fun h => ?_) (fun h => ?_)
            · simp only [cCmp, cE2, sev, svl, cen, List.cons_append, List.nil_append] at h
              first
              | omega
              | skip
                refine d_br (fun h => ?_) (fun h => ?_)
                · simp only [cCmp, cE2, sev, svl, cen, List.cons_append, List.nil_append] at h
                  first
                  | omega
                  | skip
                    refine d_br (fun h => ?_) (fun h => ?_)
                    · simp only [cCmp, cE2, sev, svl, cen, List.cons_append, List.nil_append] at h
                      first
                      | omega
                      | skip
                        refine d_rng (by simp only [clo, chi, cE2, sev, svl, cen, List.cons_append, List.nil_append]; omega) ?_
                        refine d_cut [(r : Int), (ln : Int), (p : Int), (n : Int), ((i : Int) + 1)] (by simp [cE2, sev, svl, cen] <;> omega) ?_
                        exact (by omega)
                    · simp only [cCmp, cE2, sev, svl, cen, List.cons_append, List.nil_append] at h
                      first
                      | omega
                      | skip
                        refine d_rng (by simp only [clo, chi, cE2, sev, svl, cen, List.cons_append, List.nil_append]; omega) ?_
                        refine d_rng (by simp only [clo, chi, cE2, sev, svl, cen, List.cons_append, List.nil_append]; omega) ?_
                        refine d_row 0 (n - 2) (by simp only [cE2, sev, svl, cen, List.cons_append, List.nil_append]; omega) (by simp only [cE2, sev, svl, cen, List.cons_append, List.nil_append]; omega) (by omega) ?_
                        refine d_rng (by simp only [clo, chi, cE2, sev, svl, cen, List.cons_append, List.nil_append]; omega) ?_
                        refine d_row 0 (n - 1) (by simp only [cE2, sev, svl, cen, List.cons_append, List.nil_append]; omega) (by simp only [cE2, sev, svl, cen, List.cons_append, List.nil_append]; omega) (by omega) ?_
                        rw [ea]
                        omega
                · simp only [cCmp, cE2, sev, svl, cen, List.cons_append, List.nil_append] at h
                  first
                  | omega
                  | skip
                    refine d_br (fun h => ?_) (fun h => ?_)
                    · simp only [cCmp, cE2, sev, svl, cen, List.cons_append, List.nil_append] at h
                      first
                      | omega
                      | skip
                        refine d_br (fun h => ?_) (fun h => ?_)
                        · simp only [cCmp, cE2, sev, svl, cen, List.cons_append, List.nil_append] at h
                          first
                          | omega
                          | skip
                            refine d_rng (by simp only [clo, chi, cE2, sev, svl, cen, List.cons_append, List.nil_append]; omega) ?_
                            refine d_cut [(r : Int), (ln : Int), (p : Int), (n : Int), ((i : Int) + 1)] (by simp [cE2, sev, svl, cen] <;> omega) ?_
                            exact (by omega)
                        · simp only [cCmp, cE2, sev, svl, cen, List.cons_append, List.nil_append] at h
                          first
                          | omega
                          | skip
                            refine d_rng (by simp only [clo, chi, cE2, sev, svl, cen, List.cons_append, List.nil_append]; omega) ?_
                            refine d_rng (by simp only [clo, chi, cE2, sev, svl, cen, List.cons_append, List.nil_append]; omega) ?_
                            refine d_row 0 (n - 2) (by simp only [cE2, sev, svl, cen, List.cons_append, List.nil_append]; omega) (by simp only [cE2, sev, svl, cen, List.cons_append, List.nil_append]; omega) (by omega) ?_
                            refine d_rng (by simp only [clo, chi, cE2, sev, svl, cen, List.cons_append, List.nil_append]; omega) ?_
                            refine d_row 0 (n - 1) (by simp only [cE2, sev, svl, cen, List.cons_append, List.nil_append]; omega) (by simp only [cE2, sev, svl, cen, List.cons_append, List.nil_append]; omega) (by omega) ?_
                            rw [ea]
                            omega
                    · simp only [cCmp, cE2, sev, svl, cen, List.cons_append, List.nil_append] at h
                      first
                      | omega
                      | skip
                        refine d_br (fun h => ?_) (fun h => ?_)
                        · simp only [cCmp, cE2, sev, svl, cen, List.cons_append, List.nil_append] at h
                          first
                          | omega
                          | skip
                            refine d_rng (by simp only [clo, chi, cE2, sev, svl, cen, List.cons_append, List.nil_append]; omega) ?_
                            refine d_cut [(r : Int), (ln : Int), (p : Int), (n : Int), ((i : Int) + 1)] (by simp [cE2, sev, svl, cen] <;> omega) ?_
                            exact (by omega)
                        · simp only [cCmp, cE2, sev, svl, cen, List.cons_append, List.nil_append] at h
                          first
                          | omega
                          | skip
                            refine d_br (fun h => ?_) (fun h => ?_)
                            · simp only [cCmp, cE2, sev, svl, cen, List.cons_append, List.nil_append] at h
                              first
                              | omega
                              | skip
                                omega
                            · simp only [cCmp, cE2, sev, svl, cen, List.cons_append, List.nil_append] at h
                              first
                              | omega
                              | skip
                                refine d_opw (MW 100 r i) 32 (by simp [cE2, sev, svl, cen] <;> omega) (by simp [cE2, sev, svl, cen] <;> omega) ?_
                                refine d_set 0 n (cfn 13 (MW 100 r i) 32) (by simp only [cE2, sev, svl, cen, List.cons_append, List.nil_append]; omega) (by simp only [cE2, sev, svl, cen, List.cons_append, List.nil_append]; omega) (by omega) (by simp only [cE2, sev, svl, cen, List.cons_append, List.nil_append]; omega) ?_
                                refine d_rng (by simp only [clo, chi, cE2, sev, svl, cen, List.cons_append, List.nil_append]; omega) ?_
                                refine d_rng (by simp only [clo, chi, cE2, sev, svl, cen, List.cons_append, List.nil_append]; omega) ?_
                                refine d_cut [(r : Int), (ln : Int), (p : Int), ((n : Int) + 1), ((i : Int) + 1)] (by simp [cE2, sev, svl, cen] <;> omega) ?_
                                exact (by omega)
            · simp only [cCmp, cE2, sev, svl, cen, List.cons_append, List.nil_append] at h
              first
              | omega
              | skip
                refine d_br (fun h => ?_) (fun h => ?_)
                · simp only [cCmp, cE2, sev, svl, cen, List.cons_append, List.nil_append] at h
                  first
                  | omega
                  | skip
                    refine d_rng (by simp only [clo, chi, cE2, sev, svl, cen, List.cons_append, List.nil_append]; omega) ?_
                    refine d_cut [(r : Int), (ln : Int), (p : Int), (n : Int), ((i : Int) + 1)] (by simp [cE2, sev, svl, cen] <;> omega) ?_
                    exact (by omega)
                · simp only [cCmp, cE2, sev, svl, cen, List.cons_append, List.nil_append] at h
                  first
                  | omega
                  | skip
                    refine d_rng (by simp only [clo, chi, cE2, sev, svl, cen, List.cons_append, List.nil_append]; omega) ?_
                    refine d_rng (by simp only [clo, chi, cE2, sev, svl, cen, List.cons_append, List.nil_append]; omega) ?_
                    refine d_row 0 (n - 1) (by simp only [cE2, sev, svl, cen, List.cons_append, List.nil_append]; omega) (by simp only [cE2, sev, svl, cen, List.cons_append, List.nil_append]; omega) (by omega) ?_
                    rw [ea]
                    refine d_br (fun h => ?_) (fun h => ?_)
                    · simp only [cCmp, cE2, sev, svl, cen, List.cons_append, List.nil_append] at h
                      first
                      | omega
                      | skip
                        refine d_set 0 (n - 1) 0 (by simp only [cE2, sev, svl, cen, List.cons_append, List.nil_append]; omega) (by simp only [cE2, sev, svl, cen, List.cons_append, List.nil_append]; omega) (by omega) (by simp only [cE2, sev, svl, cen, List.cons_append, List.nil_append]; omega) ?_
                        refine d_rng (by simp only [clo, chi, cE2, sev, svl, cen, List.cons_append, List.nil_append]; omega) ?_
                        refine d_cut [(r : Int), (ln : Int), (p : Int), (n : Int), ((i : Int) + 1)] (by simp [cE2, sev, svl, cen] <;> omega) ?_
                        exact (by omega)
                    · simp only [cCmp, cE2, sev, svl, cen, List.cons_append, List.nil_append] at h
                      first
                      | omega
                      | skip
                        refine d_set 0 (n - 1) 1 (by simp only [cE2, sev, svl, cen, List.cons_append, List.nil_append]; omega) (by simp only [cE2, sev, svl, cen, List.cons_append, List.nil_append]; omega) (by omega) (by simp only [cE2, sev, svl, cen, List.cons_append, List.nil_append]; omega) ?_
                        refine d_rng (by simp only [clo, chi, cE2, sev, svl, cen, List.cons_append, List.nil_append]; omega) ?_
                        refine d_cut [(r : Int), (ln : Int), (p : Int), (n : Int), ((i : Int) + 1)] (by simp [cE2, sev, svl, cen] <;> omega) ?_
                        exact (by omega)
    | cons x cc ih =>
      intro i s MW i1 f1 hi hc hm9 h64 gs hR
      have e99 : MW 99 r ln = (e : Int) := (f1 99 r ln (by decide)).trans h99
      have e106 : (e : Int) ≤ MW 106 r 0 := by rw [f1 106 r 0 (by decide)]; exact h106
      have hi : i + (cc.length + 1) = e := hi
      have e100 : MW 100 r i = x := by
        rw [f1 100 r i (by decide)]
        exact hc 0 x rfl
      have hcv := oMx_cv hm9
      have hx : 0 ≤ x ∧ x ≤ 1000000 := by
        unfold oCv at hcv
        omega
      obtain ⟨n, hn⟩ : ∃ n, n = s.length := ⟨_, rfl⟩
      have eZ : rZ MW = rZ M := rZ_cg (fun f hf => by
        funext j i
        exact f1 f j i (fun z => by rw [z] at hf; revert hf; decide))
      have gW : rLg 79 80 81 82 MW p st := rLg_cg (f1 79 0 p (by decide)) (fun f k hf hk => f1 f 0 _ (by omega)) g
      have nxt : ∀ (s' : List Int) (MW' : SMem), sI tg MW' → (∀ f j i, f ≠ 85 → MW' f j i = MW f j i) → oMx cc s'.length → s'.length ≤ 64 → eM 85 MW' s' → eS F x s = s' → cEnds (cBG tm tf EX l dC dI cA ad scrS (d + 2)) (fun rr MM => rr = [R0.headD 0] ∧ sI tg MM ∧ ∀ f j i, f ≠ 85 → MM f j i = M f j i) 90 gX5_evaluate 11 [(r : Int), (ln : Int), (p : Int), (s'.length : Int), ((i + 1 : Nat) : Int)] MW' := fun s' MW' j1 j2 j3 j4 j5 j6 => ih (i + 1) s' MW' j1 (fun f j k hf => (j2 f j k hf).trans (f1 f j k hf)) (by omega) (fun j y hj => by have := hc (j + 1) y hj; rw [show i + 1 + j = i + (j + 1) by omega]; exact this) j3 j4 j5 (by rw [← j6]; exact hR)
      rw [← hn]
      refine cEnds_at gX5_evaluate_m11 rfl ?_
      by_cases h7 : x = 7
      · rw [h7] at hm9
        obtain ⟨q1, q2⟩ := oMx_not hm9
        match s, gs, hn with
        | [], gs, hn => exact absurd q1 (Nat.not_lt_zero 0)
        | a :: t, gs, hn =>
          have hn : n = t.length + 1 := hn
          have h64 : t.length + 1 ≤ 64 := h64
          have ea : MW 85 0 (n - 1) = a := by rw [hn]; exact gs.1
          have fin : ∀ z : Int, (if a = 0 then 1 else 0) = z → 0 ≤ z ∧ z ≤ 1 → cEnds (cBG tm tf EX l dC dI cA ad scrS (d + 2)) (fun rr MM => rr = [R0.headD 0] ∧ sI tg MM ∧ ∀ f j i, f ≠ 85 → MM f j i = M f j i) 90 gX5_evaluate 11 [(r : Int), (ln : Int), (p : Int), (n : Int), ((i + 1 : Nat) : Int)] (supd MW 85 0 (n - 1) z) := fun z hz hb => by
            have w := nxt (z :: t) (supd MW 85 0 (n - 1) z) (wI i1 (lo := -2147483648) (hi := 2147483647) rfl ⟨by omega, by omega⟩) (fun f j i hf => supd_f hf) q2 h64 (eM_push (by omega) gs.2) (by
              unfold eS
              rw [if_pos h7, ← hz])
            rw [show (z :: t).length = n from hn.symm] at w
            exact w
          refine d_row r ln (by simp only [cE2, sev, svl, cen, List.cons_append, List.nil_append]; omega) (by simp only [cE2, sev, svl, cen, List.cons_append, List.nil_append]; omega) (by omega) ?_
          rw [e99]
          refine d_br (fun h => ?_) (fun h => ?_)
          · simp only [cCmp, cE2, sev, svl, cen, List.cons_append, List.nil_append] at h
            first
            | omega
            | skip
              refine d_br (fun h => ?_) (fun h => ?_)
              · simp only [cCmp, cE2, sev, svl, cen, List.cons_append, List.nil_append] at h
                first
                | omega
                | skip
                  exact d_ret [0] rfl (by decide) (by omega)
              · simp only [cCmp, cE2, sev, svl, cen, List.cons_append, List.nil_append] at h
                first
                | omega
                | skip
                  refine d_rng (by simp only [clo, chi, cE2, sev, svl, cen, List.cons_append, List.nil_append]; omega) ?_
                  refine d_row 0 (n - 1) (by simp only [cE2, sev, svl, cen, List.cons_append, List.nil_append]; omega) (by simp only [cE2, sev, svl, cen, List.cons_append, List.nil_append]; omega) (by omega) ?_
                  rw [ea]
                  exact wret1 a (by simp only [cE2, sev, svl, cen, List.cons_append, List.nil_append]; omega) (by omega) (by omega)
          · simp only [cCmp, cE2, sev, svl, cen, List.cons_append, List.nil_append] at h
            first
            | omega
            | skip
              refine d_dyn r i (by simp only [cE2, sev, svl, cen, List.cons_append, List.nil_append]; omega) (by simp only [cE2, sev, svl, cen, List.cons_append, List.nil_append]; omega) (by omega) ?_
              rw [e100]
              refine d_opw x 32 (by simp [cE2, sev, svl, cen] <;> omega) (by simp [cE2, sev, svl, cen] <;> omega) ?_
              rw [kfn14 hx]
              refine d_br (fun h => ?_) (fun h => ?_)
              · simp only [cCmp, cE2, sev, svl, cen, List.cons_append, List.nil_append] at h
                first
                | omega
                | skip
                  refine d_br (fun h => ?_) (fun h => ?_)
                  · simp only [cCmp, cE2, sev, svl, cen, List.cons_append, List.nil_append] at h
                    first
                    | omega
                    | skip
                      refine d_br (fun h => ?_) (fun h => ?_)
                      · simp only [cCmp, cE2, sev, svl, cen, List.cons_append, List.nil_append] at h
                        first
                        | omega
                        | skip
                          refine d_rng (by simp only [clo, chi, cE2, sev, svl, cen, List.cons_append, List.nil_append]; omega) ?_
                          refine d_cut [(r : Int), (ln : Int), (p : Int), (n : Int), ((i : Int) + 1)] (by simp [cE2, sev, svl, cen] <;> omega) ?_
                          exact (by omega)
                      · simp only [cCmp, cE2, sev, svl, cen, List.cons_append, List.nil_append] at h
                        first
                        | omega
                        | skip
                          refine d_rng (by simp only [clo, chi, cE2, sev, svl, cen, List.cons_append, List.nil_append]; omega) ?_
                          refine d_rng (by simp only [clo, chi, cE2, sev, svl, cen, List.cons_append, List.nil_append]; omega) ?_
                          refine d_row 0 (n - 2) (by simp only [cE2, sev, svl, cen, List.cons_append, List.nil_append]; omega) (by simp only [cE2, sev, svl, cen, List.cons_append, List.nil_append]; omega) (by omega) ?_
                          refine d_rng (by simp only [clo, chi, cE2, sev, svl, cen, List.cons_append, List.nil_append]; omega) ?_
                          refine d_row 0 (n - 1) (by simp only [cE2, sev, svl, cen, List.cons_append, List.nil_append]; omega) (by simp only [cE2, sev, svl, cen, List.cons_append, List.nil_append]; omega) (by omega) ?_
                          rw [ea]
                          omega
                  · simp only [cCmp, cE2, sev, svl, cen, List.cons_append, List.nil_append] at h
                    first
                    | omega
                    | skip
                      refine d_br (fun h => ?_) (fun h => ?_)
                      · simp only [cCmp, cE2, sev, svl, cen, List.cons_append, List.nil_append] at h
                        first
                        | omega
                        | skip
                          refine d_br (fun h => ?_) (fun h => ?_)
                          · simp only [cCmp, cE2, sev, svl, cen, List.cons_append, List.nil_append] at h
                            first
                            | omega
                            | skip
                              refine d_rng (by simp only [clo, chi, cE2, sev, svl, cen, List.cons_append, List.nil_append]; omega) ?_
                              refine d_cut [(r : Int), (ln : Int), (p : Int), (n : Int), ((i : Int) + 1)] (by simp [cE2, sev, svl, cen] <;> omega) ?_
                              exact (by omega)
                          · simp only [cCmp, cE2, sev, svl, cen, List.cons_append, List.nil_append] at h
                            first
                            | omega
                            | skip
                              refine d_rng (by simp only [clo, chi, cE2, sev, svl, cen, List.cons_append, List.nil_append]; omega) ?_
                              refine d_rng (by simp only [clo, chi, cE2, sev, svl, cen, List.cons_append, List.nil_append]; omega) ?_
                              refine d_row 0 (n - 2) (by simp only [cE2, sev, svl, cen, List.cons_append, List.nil_append]; omega) (by simp only [cE2, sev, svl, cen, List.cons_append, List.nil_append]; omega) (by omega) ?_
                              refine d_rng (by simp only [clo, chi, cE2, sev, svl, cen, List.cons_append, List.nil_append]; omega) ?_
                              refine d_row 0 (n - 1) (by simp only [cE2, sev, svl, cen, List.cons_append, List.nil_append]; omega) (by simp only [cE2, sev, svl, cen, List.cons_append, List.nil_append]; omega) (by omega) ?_
                              rw [ea]
                              omega
                      · simp only [cCmp, cE2, sev, svl, cen, List.cons_append, List.nil_append] at h
                        first
                        | omega
                        | skip
                          refine d_br (fun h => ?_) (fun h => ?_)
                          · simp only [cCmp, cE2, sev, svl, cen, List.cons_append, List.nil_append] at h
                            first
                            | omega
                            | skip
                              refine d_rng (by simp only [clo, chi, cE2, sev, svl, cen, List.cons_append, List.nil_append]; omega) ?_
                              refine d_cut [(r : Int), (ln : Int), (p : Int), (n : Int), ((i : Int) + 1)] (by simp [cE2, sev, svl, cen] <;> omega) ?_
                              exact (by omega)
                          · simp only [cCmp, cE2, sev, svl, cen, List.cons_append, List.nil_append] at h
                            first
                            | omega
                            | skip
                              refine d_br (fun h => ?_) (fun h => ?_)
                              · simp only [cCmp, cE2, sev, svl, cen, List.cons_append, List.nil_append] at h
                                first
                                | omega
                                | skip
                                  omega
                              · simp only [cCmp, cE2, sev, svl, cen, List.cons_append, List.nil_append] at h
                                first
                                | omega
                                | skip
                                  refine d_opw x 32 (by simp [cE2, sev, svl, cen] <;> omega) (by simp [cE2, sev, svl, cen] <;> omega) ?_
                                  refine d_set 0 n (cfn 13 x 32) (by simp only [cE2, sev, svl, cen, List.cons_append, List.nil_append]; omega) (by simp only [cE2, sev, svl, cen, List.cons_append, List.nil_append]; omega) (by omega) (by simp only [cE2, sev, svl, cen, List.cons_append, List.nil_append]; omega) ?_
                                  refine d_rng (by simp only [clo, chi, cE2, sev, svl, cen, List.cons_append, List.nil_append]; omega) ?_
                                  refine d_rng (by simp only [clo, chi, cE2, sev, svl, cen, List.cons_append, List.nil_append]; omega) ?_
                                  refine d_cut [(r : Int), (ln : Int), (p : Int), ((n : Int) + 1), ((i : Int) + 1)] (by simp [cE2, sev, svl, cen] <;> omega) ?_
                                  exact (by omega)
              · simp only [cCmp, cE2, sev, svl, cen, List.cons_append, List.nil_append] at h
                first
                | omega
                | skip
                  refine d_br (fun h => ?_) (fun h => ?_)
                  · simp only [cCmp, cE2, sev, svl, cen, List.cons_append, List.nil_append] at h
                    first
                    | omega
                    | skip
                      refine d_rng (by simp only [clo, chi, cE2, sev, svl, cen, List.cons_append, List.nil_append]; omega) ?_
                      refine d_cut [(r : Int), (ln : Int), (p : Int), (n : Int), ((i : Int) + 1)] (by simp [cE2, sev, svl, cen] <;> omega) ?_
                      exact (by omega)
                  · simp only [cCmp, cE2, sev, svl, cen, List.cons_append, List.nil_append] at h
                    first
                    | omega
                    | skip
                      refine d_rng (by simp only [clo, chi, cE2, sev, svl, cen, List.cons_append, List.nil_append]; omega) ?_
                      refine d_rng (by simp only [clo, chi, cE2, sev, svl, cen, List.cons_append, List.nil_append]; omega) ?_
                      refine d_row 0 (n - 1) (by simp only [cE2, sev, svl, cen, List.cons_append, List.nil_append]; omega) (by simp only [cE2, sev, svl, cen, List.cons_append, List.nil_append]; omega) (by omega) ?_
                      rw [ea]
                      refine d_br (fun h => ?_) (fun h => ?_)
                      · simp only [cCmp, cE2, sev, svl, cen, List.cons_append, List.nil_append] at h
                        first
                        | omega
                        | skip
                          refine d_set 0 (n - 1) 0 (by simp only [cE2, sev, svl, cen, List.cons_append, List.nil_append]; omega) (by simp only [cE2, sev, svl, cen, List.cons_append, List.nil_append]; omega) (by omega) (by simp only [cE2, sev, svl, cen, List.cons_append, List.nil_append]; omega) ?_
                          refine d_rng (by simp only [clo, chi, cE2, sev, svl, cen, List.cons_append, List.nil_append]; omega) ?_
                          refine d_cut [(r : Int), (ln : Int), (p : Int), (n : Int), ((i + 1 : Nat) : Int)] (by simp [cE2, sev, svl, cen] <;> omega) ?_
                          exact fin 0 (if_neg (by omega)) (by omega)
                      · simp only [cCmp, cE2, sev, svl, cen, List.cons_append, List.nil_append] at h
                        first
                        | omega
                        | skip
                          refine d_set 0 (n - 1) 1 (by simp only [cE2, sev, svl, cen, List.cons_append, List.nil_append]; omega) (by simp only [cE2, sev, svl, cen, List.cons_append, List.nil_append]; omega) (by omega) (by simp only [cE2, sev, svl, cen, List.cons_append, List.nil_append]; omega) ?_
                          refine d_rng (by simp only [clo, chi, cE2, sev, svl, cen, List.cons_append, List.nil_append]; omega) ?_
                          refine d_cut [(r : Int), (ln : Int), (p : Int), (n : Int), ((i + 1 : Nat) : Int)] (by simp [cE2, sev, svl, cen] <;> omega) ?_
                          exact fin 1 (if_pos (by omega)) (by omega)
      · by_cases h15 : x % 32 = 15 ∨ (8 ≤ x ∧ x ≤ 14)
        · obtain ⟨q1, q2⟩ := oMx_num h15 hm9
          have fin : ∀ z : Int, eS F x s = z :: s → -2147483648 ≤ z ∧ z ≤ 2147483647 → cEnds (cBG tm tf EX l dC dI cA ad scrS (d + 2)) (fun rr MM => rr = [R0.headD 0] ∧ sI tg MM ∧ ∀ f j i, f ≠ 85 → MM f j i = M f j i) 90 gX5_evaluate 11 [(r : Int), (ln : Int), (p : Int), ((n + 1 : Nat) : Int), ((i + 1 : Nat) : Int)] (supd MW 85 0 n z) := fun z hz hb => by
            have w := nxt (z :: s) (supd MW 85 0 n z) (wI i1 (lo := -2147483648) (hi := 2147483647) rfl hb) (fun f j i hf => supd_f hf) q2 q1 (eM_push hn gs) hz
            rw [show (z :: s).length = n + 1 by rw [hn]; rfl] at w
            exact w
          rw [← hn] at q1
          by_cases h15' : x % 32 = 15
          · refine d_row r ln (by simp only [cE2, sev, svl, cen, List.cons_append, List.nil_append]; omega) (by simp only [cE2, sev, svl, cen, List.cons_append, List.nil_append]; omega) (by omega) ?_
            rw [e99]
            refine d_br (fun h => ?_) (fun h => ?_)
            · simp only [cCmp, cE2, sev, svl, cen, List.cons_append, List.nil_append] at h
              first
              | omega
              | skip
                refine d_br (fun h => ?_) (fun h => ?_)
                · simp only [cCmp, cE2, sev, svl, cen, List.cons_append, List.nil_append] at h
                  first
                  | omega
                  | skip
                    exact d_ret [0] rfl (by decide) (by omega)
                · simp only [cCmp, cE2, sev, svl, cen, List.cons_append, List.nil_append] at h
                  first
                  | omega
                  | skip
                    refine d_rng (by simp only [clo, chi, cE2, sev, svl, cen, List.cons_append, List.nil_append]; omega) ?_
                    refine d_row 0 (n - 1) (by simp only [cE2, sev, svl, cen, List.cons_append, List.nil_append]; omega) (by simp only [cE2, sev, svl, cen, List.cons_append, List.nil_append]; omega) (by omega) ?_
                    exact wret1 (MW 85 0 (n - 1)) (by simp only [cE2, sev, svl, cen, List.cons_append, List.nil_append]; omega) (by omega) (by omega)
            · simp only [cCmp, cE2, sev, svl, cen, List.cons_append, List.nil_append] at h
              first
              | omega
              | skip
                refine d_dyn r i (by simp only [cE2, sev, svl, cen, List.cons_append, List.nil_append]; omega) (by simp only [cE2, sev, svl, cen, List.cons_append, List.nil_append]; omega) (by omega) ?_
                rw [e100]
                refine d_opw x 32 (by simp [cE2, sev, svl, cen] <;> omega) (by simp [cE2, sev, svl, cen] <;> omega) ?_
                rw [kfn14 hx]
                refine d_br (fun h => ?_) (fun h => ?_)
                · simp only [cCmp, cE2, sev, svl, cen, List.cons_append, List.nil_append] at h
                  first
                  | omega
                  | skip
                    refine d_br (fun h => ?_) (fun h => ?_)
                    · simp only [cCmp, cE2, sev, svl, cen, List.cons_append, List.nil_append] at h
                      first
                      | omega
                      | skip
                        refine d_br (fun h => ?_) (fun h => ?_)
                        · simp only [cCmp, cE2, sev, svl, cen, List.cons_append, List.nil_append] at h
                          first
                          | omega
                          | skip
                            refine d_rng (by simp only [clo, chi, cE2, sev, svl, cen, List.cons_append, List.nil_append]; omega) ?_
                            refine d_cut [(r : Int), (ln : Int), (p : Int), (n : Int), ((i : Int) + 1)] (by simp [cE2, sev, svl, cen] <;> omega) ?_
                            exact (by omega)
                        · simp only [cCmp, cE2, sev, svl, cen, List.cons_append, List.nil_append] at h
                          first
                          | omega
                          | skip
                            refine d_rng (by simp only [clo, chi, cE2, sev, svl, cen, List.cons_append, List.nil_append]; omega) ?_
                            refine d_rng (by simp only [clo, chi, cE2, sev, svl, cen, List.cons_append, List.nil_append]; omega) ?_
                            refine d_row 0 (n - 2) (by simp only [cE2, sev, svl, cen, List.cons_append, List.nil_append]; omega) (by simp only [cE2, sev, svl, cen, List.cons_append, List.nil_append]; omega) (by omega) ?_
                            refine d_rng (by simp only [clo, chi, cE2, sev, svl, cen, List.cons_append, List.nil_append]; omega) ?_
                            refine d_row 0 (n - 1) (by simp only [cE2, sev, svl, cen, List.cons_append, List.nil_append]; omega) (by simp only [cE2, sev, svl, cen, List.cons_append, List.nil_append]; omega) (by omega) ?_
                            omega
                    · simp only [cCmp, cE2, sev, svl, cen, List.cons_append, List.nil_append] at h
                      first
                      | omega
                      | skip
                        refine d_br (fun h => ?_) (fun h => ?_)
                        · simp only [cCmp, cE2, sev, svl, cen, List.cons_append, List.nil_append] at h
                          first
                          | omega
                          | skip
                            refine d_br (fun h => ?_) (fun h => ?_)
                            · simp only [cCmp, cE2, sev, svl, cen, List.cons_append, List.nil_append] at h
                              first
                              | omega
                              | skip
                                refine d_rng (by simp only [clo, chi, cE2, sev, svl, cen, List.cons_append, List.nil_append]; omega) ?_
                                refine d_cut [(r : Int), (ln : Int), (p : Int), (n : Int), ((i : Int) + 1)] (by simp [cE2, sev, svl, cen] <;> omega) ?_
                                exact (by omega)
                            · simp only [cCmp, cE2, sev, svl, cen, List.cons_append, List.nil_append] at h
                              first
                              | omega
                              | skip
                                refine d_rng (by simp only [clo, chi, cE2, sev, svl, cen, List.cons_append, List.nil_append]; omega) ?_
                                refine d_rng (by simp only [clo, chi, cE2, sev, svl, cen, List.cons_append, List.nil_append]; omega) ?_
                                refine d_row 0 (n - 2) (by simp only [cE2, sev, svl, cen, List.cons_append, List.nil_append]; omega) (by simp only [cE2, sev, svl, cen, List.cons_append, List.nil_append]; omega) (by omega) ?_
                                refine d_rng (by simp only [clo, chi, cE2, sev, svl, cen, List.cons_append, List.nil_append]; omega) ?_
                                refine d_row 0 (n - 1) (by simp only [cE2, sev, svl, cen, List.cons_append, List.nil_append]; omega) (by simp only [cE2, sev, svl, cen, List.cons_append, List.nil_append]; omega) (by omega) ?_
                                omega
                        · simp only [cCmp, cE2, sev, svl, cen, List.cons_append, List.nil_append] at h
                          first
                          | omega
                          | skip
                            refine d_br (fun h => ?_) (fun h => ?_)
                            · simp only [cCmp, cE2, sev, svl, cen, List.cons_append, List.nil_append] at h
                              first
                              | omega
                              | skip
                                refine d_rng (by simp only [clo, chi, cE2, sev, svl, cen, List.cons_append, List.nil_append]; omega) ?_
                                refine d_cut [(r : Int), (ln : Int), (p : Int), (n : Int), ((i : Int) + 1)] (by simp [cE2, sev, svl, cen] <;> omega) ?_
                                exact (by omega)
                            · simp only [cCmp, cE2, sev, svl, cen, List.cons_append, List.nil_append] at h
                              first
                              | omega
                              | skip
                                refine d_br (fun h => ?_) (fun h => ?_)
                                · simp only [cCmp, cE2, sev, svl, cen, List.cons_append, List.nil_append] at h
                                  first
                                  | omega
                                  | skip
                                    omega
                                · simp only [cCmp, cE2, sev, svl, cen, List.cons_append, List.nil_append] at h
                                  first
                                  | omega
                                  | skip
                                    refine d_opw x 32 (by simp [cE2, sev, svl, cen] <;> omega) (by simp [cE2, sev, svl, cen] <;> omega) ?_
                                    rw [kfn13 hx]
                                    refine d_set 0 n (x / 32) (by simp only [cE2, sev, svl, cen, List.cons_append, List.nil_append]; omega) (by simp only [cE2, sev, svl, cen, List.cons_append, List.nil_append]; omega) (by omega) (by simp only [cE2, sev, svl, cen, List.cons_append, List.nil_append]; omega) ?_
                                    refine d_rng (by simp only [clo, chi, cE2, sev, svl, cen, List.cons_append, List.nil_append]; omega) ?_
                                    refine d_rng (by simp only [clo, chi, cE2, sev, svl, cen, List.cons_append, List.nil_append]; omega) ?_
                                    refine d_cut [(r : Int), (ln : Int), (p : Int), ((n + 1 : Nat) : Int), ((i + 1 : Nat) : Int)] (by simp [cE2, sev, svl, cen] <;> omega) ?_
                                    exact fin (x / 32) (by unfold eS; rw [if_neg h7, if_pos h15']) (by omega)
                · simp only [cCmp, cE2, sev, svl, cen, List.cons_append, List.nil_append] at h
                  first
                  | omega
                  | skip
                    refine d_br (fun h => ?_) (fun h => ?_)
                    · simp only [cCmp, cE2, sev, svl, cen, List.cons_append, List.nil_append] at h
                      first
                      | omega
                      | skip
                        refine d_rng (by simp only [clo, chi, cE2, sev, svl, cen, List.cons_append, List.nil_append]; omega) ?_
                        refine d_cut [(r : Int), (ln : Int), (p : Int), (n : Int), ((i : Int) + 1)] (by simp [cE2, sev, svl, cen] <;> omega) ?_
                        exact (by omega)
                    · simp only [cCmp, cE2, sev, svl, cen, List.cons_append, List.nil_append] at h
                      first
                      | omega
                      | skip
                        refine d_rng (by simp only [clo, chi, cE2, sev, svl, cen, List.cons_append, List.nil_append]; omega) ?_
                        refine d_rng (by simp only [clo, chi, cE2, sev, svl, cen, List.cons_append, List.nil_append]; omega) ?_
                        refine d_row 0 (n - 1) (by simp only [cE2, sev, svl, cen, List.cons_append, List.nil_append]; omega) (by simp only [cE2, sev, svl, cen, List.cons_append, List.nil_append]; omega) (by omega) ?_
                        refine d_br (fun h => ?_) (fun h => ?_)
                        · simp only [cCmp, cE2, sev, svl, cen, List.cons_append, List.nil_append] at h
                          first
                          | omega
                          | skip
                            refine d_set 0 (n - 1) 0 (by simp only [cE2, sev, svl, cen, List.cons_append, List.nil_append]; omega) (by simp only [cE2, sev, svl, cen, List.cons_append, List.nil_append]; omega) (by omega) (by simp only [cE2, sev, svl, cen, List.cons_append, List.nil_append]; omega) ?_
                            refine d_rng (by simp only [clo, chi, cE2, sev, svl, cen, List.cons_append, List.nil_append]; omega) ?_
                            refine d_cut [(r : Int), (ln : Int), (p : Int), (n : Int), ((i : Int) + 1)] (by simp [cE2, sev, svl, cen] <;> omega) ?_
                            exact (by omega)
                        · simp only [cCmp, cE2, sev, svl, cen, List.cons_append, List.nil_append] at h
                          first
                          | omega
                          | skip
                            refine d_set 0 (n - 1) 1 (by simp only [cE2, sev, svl, cen, List.cons_append, List.nil_append]; omega) (by simp only [cE2, sev, svl, cen, List.cons_append, List.nil_append]; omega) (by omega) (by simp only [cE2, sev, svl, cen, List.cons_append, List.nil_append]; omega) ?_
                            refine d_rng (by simp only [clo, chi, cE2, sev, svl, cen, List.cons_append, List.nil_append]; omega) ?_
                            refine d_cut [(r : Int), (ln : Int), (p : Int), (n : Int), ((i : Int) + 1)] (by simp [cE2, sev, svl, cen] <;> omega) ?_
                            exact (by omega)
          · have h8 : 8 ≤ x ∧ x ≤ 14 := h15.elim (fun z => absurd z h15') id
            have e32 : x % 32 = x := by omega
            have bF : -2147483648 ≤ rFc (rZ M) p st x ∧ rFc (rZ M) p st x ≤ 2147483647 := by
              have tb := rWf_top hw
              have b1 := wIb (f := 64) (i := 1) (lo := 0) (hi := 24) hI p rfl
              have b2 := wIb (f := 64) (i := 2) (lo := 0) (hi := 99) hI p rfl
              have b3 := wIb (f := 64) (i := 3) (lo := 0) (hi := 3) hI p rfl
              have b62 := wIb (f := 62) (i := (rTop st).toNat) (lo := -2147483648) (hi := 2147483647) hI 0 rfl
              have h6 := hw.1
              have b1 : 0 ≤ (rZ M).1 p 1 ∧ (rZ M).1 p 1 ≤ 24 := b1
              have b2 : 0 ≤ (rZ M).1 p 2 ∧ (rZ M).1 p 2 ≤ 99 := b2
              have b3 : 0 ≤ (rZ M).1 p 3 ∧ (rZ M).1 p 3 ≤ 3 := b3
              have b62 : -2147483648 ≤ (rZ M).2.2.1 (rTop st).toNat ∧ (rZ M).2.2.1 (rTop st).toNat ≤ 2147483647 := b62
              unfold rFc
              repeat' split
              all_goals omega
            refine d_row r ln (by simp only [cE2, sev, svl, cen, List.cons_append, List.nil_append]; omega) (by simp only [cE2, sev, svl, cen, List.cons_append, List.nil_append]; omega) (by omega) ?_
            rw [e99]
            refine d_br (fun h => ?_) (fun h => ?_)
            · simp only [cCmp, cE2, sev, svl, cen, List.cons_append, List.nil_append] at h
              first
              | omega
              | skip
                refine d_br (fun h => ?_) (fun h => ?_)
                · simp only [cCmp, cE2, sev, svl, cen, List.cons_append, List.nil_append] at h
                  first
                  | omega
                  | skip
                    exact d_ret [0] rfl (by decide) (by omega)
                · simp only [cCmp, cE2, sev, svl, cen, List.cons_append, List.nil_append] at h
                  first
                  | omega
                  | skip
                    refine d_rng (by simp only [clo, chi, cE2, sev, svl, cen, List.cons_append, List.nil_append]; omega) ?_
                    refine d_row 0 (n - 1) (by simp only [cE2, sev, svl, cen, List.cons_append, List.nil_append]; omega) (by simp only [cE2, sev, svl, cen, List.cons_append, List.nil_append]; omega) (by omega) ?_
                    exact wret1 (MW 85 0 (n - 1)) (by simp only [cE2, sev, svl, cen, List.cons_append, List.nil_append]; omega) (by omega) (by omega)
            · simp only [cCmp, cE2, sev, svl, cen, List.cons_append, List.nil_append] at h
              first
              | omega
              | skip
                refine d_dyn r i (by simp only [cE2, sev, svl, cen, List.cons_append, List.nil_append]; omega) (by simp only [cE2, sev, svl, cen, List.cons_append, List.nil_append]; omega) (by omega) ?_
                rw [e100]
                refine d_opw x 32 (by simp [cE2, sev, svl, cen] <;> omega) (by simp [cE2, sev, svl, cen] <;> omega) ?_
                rw [(kfn14 hx).trans e32]
                refine d_br (fun h => ?_) (fun h => ?_)
                · simp only [cCmp, cE2, sev, svl, cen, List.cons_append, List.nil_append] at h
                  first
                  | omega
                  | skip
                    refine d_br (fun h => ?_) (fun h => ?_)
                    · simp only [cCmp, cE2, sev, svl, cen, List.cons_append, List.nil_append] at h
                      first
                      | omega
                      | skip
                        refine d_br (fun h => ?_) (fun h => ?_)
                        · simp only [cCmp, cE2, sev, svl, cen, List.cons_append, List.nil_append] at h
                          first
                          | omega
                          | skip
                            refine d_rng (by simp only [clo, chi, cE2, sev, svl, cen, List.cons_append, List.nil_append]; omega) ?_
                            refine d_cut [(r : Int), (ln : Int), (p : Int), (n : Int), ((i : Int) + 1)] (by simp [cE2, sev, svl, cen] <;> omega) ?_
                            exact (by omega)
                        · simp only [cCmp, cE2, sev, svl, cen, List.cons_append, List.nil_append] at h
                          first
                          | omega
                          | skip
                            refine d_rng (by simp only [clo, chi, cE2, sev, svl, cen, List.cons_append, List.nil_append]; omega) ?_
                            refine d_rng (by simp only [clo, chi, cE2, sev, svl, cen, List.cons_append, List.nil_append]; omega) ?_
                            refine d_row 0 (n - 2) (by simp only [cE2, sev, svl, cen, List.cons_append, List.nil_append]; omega) (by simp only [cE2, sev, svl, cen, List.cons_append, List.nil_append]; omega) (by omega) ?_
                            refine d_rng (by simp only [clo, chi, cE2, sev, svl, cen, List.cons_append, List.nil_append]; omega) ?_
                            refine d_row 0 (n - 1) (by simp only [cE2, sev, svl, cen, List.cons_append, List.nil_append]; omega) (by simp only [cE2, sev, svl, cen, List.cons_append, List.nil_append]; omega) (by omega) ?_
                            omega
                    · simp only [cCmp, cE2, sev, svl, cen, List.cons_append, List.nil_append] at h
                      first
                      | omega
                      | skip
                        refine d_br (fun h => ?_) (fun h => ?_)
                        · simp only [cCmp, cE2, sev, svl, cen, List.cons_append, List.nil_append] at h
                          first
                          | omega
                          | skip
                            refine d_br (fun h => ?_) (fun h => ?_)
                            · simp only [cCmp, cE2, sev, svl, cen, List.cons_append, List.nil_append] at h
                              first
                              | omega
                              | skip
                                refine d_rng (by simp only [clo, chi, cE2, sev, svl, cen, List.cons_append, List.nil_append]; omega) ?_
                                refine d_cut [(r : Int), (ln : Int), (p : Int), (n : Int), ((i : Int) + 1)] (by simp [cE2, sev, svl, cen] <;> omega) ?_
                                exact (by omega)
                            · simp only [cCmp, cE2, sev, svl, cen, List.cons_append, List.nil_append] at h
                              first
                              | omega
                              | skip
                                refine d_rng (by simp only [clo, chi, cE2, sev, svl, cen, List.cons_append, List.nil_append]; omega) ?_
                                refine d_rng (by simp only [clo, chi, cE2, sev, svl, cen, List.cons_append, List.nil_append]; omega) ?_
                                refine d_row 0 (n - 2) (by simp only [cE2, sev, svl, cen, List.cons_append, List.nil_append]; omega) (by simp only [cE2, sev, svl, cen, List.cons_append, List.nil_append]; omega) (by omega) ?_
                                refine d_rng (by simp only [clo, chi, cE2, sev, svl, cen, List.cons_append, List.nil_append]; omega) ?_
                                refine d_row 0 (n - 1) (by simp only [cE2, sev, svl, cen, List.cons_append, List.nil_append]; omega) (by simp only [cE2, sev, svl, cen, List.cons_append, List.nil_append]; omega) (by omega) ?_
                                omega
                        · simp only [cCmp, cE2, sev, svl, cen, List.cons_append, List.nil_append] at h
                          first
                          | omega
                          | skip
                            refine d_br (fun h => ?_) (fun h => ?_)
                            · simp only [cCmp, cE2, sev, svl, cen, List.cons_append, List.nil_append] at h
                              first
                              | omega
                              | skip
                                refine d_rng (by simp only [clo, chi, cE2, sev, svl, cen, List.cons_append, List.nil_append]; omega) ?_
                                refine d_cut [(r : Int), (ln : Int), (p : Int), (n : Int), ((i : Int) + 1)] (by simp [cE2, sev, svl, cen] <;> omega) ?_
                                exact (by omega)
                            · simp only [cCmp, cE2, sev, svl, cen, List.cons_append, List.nil_append] at h
                              first
                              | omega
                              | skip
                                refine d_br (fun h => ?_) (fun h => ?_)
                                · simp only [cCmp, cE2, sev, svl, cen, List.cons_append, List.nil_append] at h
                                  first
                                  | omega
                                  | skip
                                    refine d_call (b_fact (d := d) hp i1 hp9 hw gW (k := x) (by omega)) (by simp [cAs, cE2, sev, svl, cen] <;> omega) ?_
                                    intro rr M' hq
                                    obtain ⟨hM', rfl⟩ := hq
                                    rw [hM']
                                    refine ⟨rfl, ?_⟩
                                    rw [eZ]
                                    refine d_set 0 n (rFc (rZ M) p st x) (by simp only [cE2, sev, svl, cen, List.cons_append, List.nil_append]; omega) (by simp only [cE2, sev, svl, cen, List.cons_append, List.nil_append]; omega) (by omega) (by simp only [cE2, sev, svl, cen, List.cons_append, List.nil_append]; omega) ?_
                                    refine d_rng (by simp only [clo, chi, cE2, sev, svl, cen, List.cons_append, List.nil_append]; omega) ?_
                                    refine d_rng (by simp only [clo, chi, cE2, sev, svl, cen, List.cons_append, List.nil_append]; omega) ?_
                                    refine d_cut [(r : Int), (ln : Int), (p : Int), ((n + 1 : Nat) : Int), ((i + 1 : Nat) : Int)] (by simp [cE2, sev, svl, cen] <;> omega) ?_
                                    exact fin (rFc (rZ M) p st x) (by unfold eS; rw [if_neg h7, if_neg h15', if_pos h8, hF]) bF
                                · simp only [cCmp, cE2, sev, svl, cen, List.cons_append, List.nil_append] at h
                                  first
                                  | omega
                                  | skip
                                    refine d_opw x 32 (by simp [cE2, sev, svl, cen] <;> omega) (by simp [cE2, sev, svl, cen] <;> omega) ?_
                                    refine d_set 0 n (cfn 13 x 32) (by simp only [cE2, sev, svl, cen, List.cons_append, List.nil_append]; omega) (by simp only [cE2, sev, svl, cen, List.cons_append, List.nil_append]; omega) (by omega) (by simp only [cE2, sev, svl, cen, List.cons_append, List.nil_append]; omega) ?_
                                    refine d_rng (by simp only [clo, chi, cE2, sev, svl, cen, List.cons_append, List.nil_append]; omega) ?_
                                    refine d_rng (by simp only [clo, chi, cE2, sev, svl, cen, List.cons_append, List.nil_append]; omega) ?_
                                    refine d_cut [(r : Int), (ln : Int), (p : Int), ((n : Int) + 1), ((i : Int) + 1)] (by simp [cE2, sev, svl, cen] <;> omega) ?_
                                    exact (by omega)
                · simp only [cCmp, cE2, sev, svl, cen, List.cons_append, List.nil_append] at h
                  first
                  | omega
                  | skip
                    refine d_br (fun h => ?_) (fun h => ?_)
                    · simp only [cCmp, cE2, sev, svl, cen, List.cons_append, List.nil_append] at h
                      first
                      | omega
                      | skip
                        refine d_rng (by simp only [clo, chi, cE2, sev, svl, cen, List.cons_append, List.nil_append]; omega) ?_
                        refine d_cut [(r : Int), (ln : Int), (p : Int), (n : Int), ((i : Int) + 1)] (by simp [cE2, sev, svl, cen] <;> omega) ?_
                        exact (by omega)
                    · simp only [cCmp, cE2, sev, svl, cen, List.cons_append, List.nil_append] at h
                      first
                      | omega
                      | skip
                        refine d_rng (by simp only [clo, chi, cE2, sev, svl, cen, List.cons_append, List.nil_append]; omega) ?_
                        refine d_rng (by simp only [clo, chi, cE2, sev, svl, cen, List.cons_append, List.nil_append]; omega) ?_
                        refine d_row 0 (n - 1) (by simp only [cE2, sev, svl, cen, List.cons_append, List.nil_append]; omega) (by simp only [cE2, sev, svl, cen, List.cons_append, List.nil_append]; omega) (by omega) ?_
                        refine d_br (fun h => ?_) (fun h => ?_)
                        · simp only [cCmp, cE2, sev, svl, cen, List.cons_append, List.nil_append] at h
                          first
                          | omega
                          | skip
                            refine d_set 0 (n - 1) 0 (by simp only [cE2, sev, svl, cen, List.cons_append, List.nil_append]; omega) (by simp only [cE2, sev, svl, cen, List.cons_append, List.nil_append]; omega) (by omega) (by simp only [cE2, sev, svl, cen, List.cons_append, List.nil_append]; omega) ?_
                            refine d_rng (by simp only [clo, chi, cE2, sev, svl, cen, List.cons_append, List.nil_append]; omega) ?_
                            refine d_cut [(r : Int), (ln : Int), (p : Int), (n : Int), ((i : Int) + 1)] (by simp [cE2, sev, svl, cen] <;> omega) ?_
                            exact (by omega)
                        · simp only [cCmp, cE2, sev, svl, cen, List.cons_append, List.nil_append] at h
                          first
                          | omega
                          | skip
                            refine d_set 0 (n - 1) 1 (by simp only [cE2, sev, svl, cen, List.cons_append, List.nil_append]; omega) (by simp only [cE2, sev, svl, cen, List.cons_append, List.nil_append]; omega) (by omega) (by simp only [cE2, sev, svl, cen, List.cons_append, List.nil_append]; omega) ?_
                            refine d_rng (by simp only [clo, chi, cE2, sev, svl, cen, List.cons_append, List.nil_append]; omega) ?_
                            refine d_cut [(r : Int), (ln : Int), (p : Int), (n : Int), ((i : Int) + 1)] (by simp [cE2, sev, svl, cen] <;> omega) ?_
                            exact (by omega)
        · obtain ⟨q1, q2, q3⟩ := oMx_two h7 (fun z => h15 (Or.inl z)) (fun z => h15 (Or.inr z)) hm9
          have e32 : x % 32 = x := by omega
          match s, gs, hn with
          | [], gs, hn => exact absurd q1 (by show ¬ 2 ≤ 0; omega)
          | [_], gs, hn => exact absurd q1 (by show ¬ 2 ≤ 1; omega)
          | b :: a :: t, gs, hn =>
            have hn : n = t.length + 2 := hn
            have h64 : t.length + 2 ≤ 64 := h64
            have eb : MW 85 0 (n - 1) = b := by rw [hn]; exact gs.1
            have ea : MW 85 0 (n - 2) = a := by rw [hn]; exact gs.2.1
            have fin : cEnds (cBG tm tf EX l dC dI cA ad scrS (d + 2)) (fun rr MM => rr = [R0.headD 0] ∧ sI tg MM ∧ ∀ f j i, f ≠ 85 → MM f j i = M f j i) 90 gX5_evaluate 11 [(r : Int), (ln : Int), (p : Int), ((n - 1 : Nat) : Int), ((i + 1 : Nat) : Int)] (supd MW 85 0 (n - 2) (eJ x a b)) := by
              have w := nxt (eJ x a b :: t) (supd MW 85 0 (n - 2) (eJ x a b)) (wI i1 (lo := -2147483648) (hi := 2147483647) rfl (eJ_b x a b)) (fun f j i hf => supd_f hf) q2 (by show t.length + 1 ≤ 64; omega) (eM_push (by omega) gs.2.2) (by
                unfold eS
                rw [if_neg h7, if_neg (fun z => h15 (Or.inl z)), if_neg (fun z => h15 (Or.inr z))])
              rw [show (eJ x a b :: t).length = n - 1 by show t.length + 1 = n - 1; omega] at w
              exact w
            refine d_row r ln (by simp only [cE2, sev, svl, cen, List.cons_append, List.nil_append]; omega) (by simp only [cE2, sev, svl, cen, List.cons_append, List.nil_append]; omega) (by omega) ?_
            rw [e99]
            refine d_br (fun h => ?_) (fun h => ?_)
            · simp only [cCmp, cE2, sev, svl, cen, List.cons_append, List.nil_append] at h
              first
              | omega
              | skip
                refine d_br (fun h => ?_) (fun h => ?_)
                · simp only [cCmp, cE2, sev, svl, cen, List.cons_append, List.nil_append] at h
                  first
                  | omega
                  | skip
                    exact d_ret [0] rfl (by decide) (by omega)
                · simp only [cCmp, cE2, sev, svl, cen, List.cons_append, List.nil_append] at h
                  first
                  | omega
                  | skip
                    refine d_rng (by simp only [clo, chi, cE2, sev, svl, cen, List.cons_append, List.nil_append]; omega) ?_
                    refine d_row 0 (n - 1) (by simp only [cE2, sev, svl, cen, List.cons_append, List.nil_append]; omega) (by simp only [cE2, sev, svl, cen, List.cons_append, List.nil_append]; omega) (by omega) ?_
                    rw [eb]
                    exact wret1 b (by simp only [cE2, sev, svl, cen, List.cons_append, List.nil_append]; omega) (by omega) (by omega)
            · simp only [cCmp, cE2, sev, svl, cen, List.cons_append, List.nil_append] at h
              first
              | omega
              | skip
                refine d_dyn r i (by simp only [cE2, sev, svl, cen, List.cons_append, List.nil_append]; omega) (by simp only [cE2, sev, svl, cen, List.cons_append, List.nil_append]; omega) (by omega) ?_
                rw [e100]
                refine d_opw x 32 (by simp [cE2, sev, svl, cen] <;> omega) (by simp [cE2, sev, svl, cen] <;> omega) ?_
                rw [(kfn14 hx).trans e32]
                refine d_br (fun h => ?_) (fun h => ?_)
                · simp only [cCmp, cE2, sev, svl, cen, List.cons_append, List.nil_append] at h
                  first
                  | omega
                  | skip
                    refine d_br (fun h => ?_) (fun h => ?_)
                    · simp only [cCmp, cE2, sev, svl, cen, List.cons_append, List.nil_append] at h
                      first
                      | omega
                      | skip
                        refine d_br (fun h => ?_) (fun h => ?_)
                        · simp only [cCmp, cE2, sev, svl, cen, List.cons_append, List.nil_append] at h
                          first
                          | omega
                          | skip
                            refine d_rng (by simp only [clo, chi, cE2, sev, svl, cen, List.cons_append, List.nil_append]; omega) ?_
                            refine d_cut [(r : Int), (ln : Int), (p : Int), (n : Int), ((i : Int) + 1)] (by simp [cE2, sev, svl, cen] <;> omega) ?_
                            exact (by omega)
                        · simp only [cCmp, cE2, sev, svl, cen, List.cons_append, List.nil_append] at h
                          first
                          | omega
                          | skip
                            refine d_rng (by simp only [clo, chi, cE2, sev, svl, cen, List.cons_append, List.nil_append]; omega) ?_
                            refine d_rng (by simp only [clo, chi, cE2, sev, svl, cen, List.cons_append, List.nil_append]; omega) ?_
                            refine d_row 0 (n - 2) (by simp only [cE2, sev, svl, cen, List.cons_append, List.nil_append]; omega) (by simp only [cE2, sev, svl, cen, List.cons_append, List.nil_append]; omega) (by omega) ?_
                            rw [ea]
                            refine d_rng (by simp only [clo, chi, cE2, sev, svl, cen, List.cons_append, List.nil_append]; omega) ?_
                            refine d_row 0 (n - 1) (by simp only [cE2, sev, svl, cen, List.cons_append, List.nil_append]; omega) (by simp only [cE2, sev, svl, cen, List.cons_append, List.nil_append]; omega) (by omega) ?_
                            rw [eb]
                            refine d_call (b_join (d := d + 1) hp (k := x) (a := a) (b := b) q3) (by simp [cAs, cE2, sev, svl, cen] <;> omega) ?_
                            intro rr M' hq
                            obtain ⟨hM', rfl⟩ := hq
                            rw [hM']
                            refine ⟨rfl, ?_⟩
                            refine d_set 0 (n - 2) (eJ x a b) (by simp only [cE2, sev, svl, cen, List.cons_append, List.nil_append]; omega) (by simp only [cE2, sev, svl, cen, List.cons_append, List.nil_append]; omega) (by omega) (by simp only [cE2, sev, svl, cen, List.cons_append, List.nil_append]; omega) ?_
                            refine d_rng (by simp only [clo, chi, cE2, sev, svl, cen, List.cons_append, List.nil_append]; omega) ?_
                            refine d_rng (by simp only [clo, chi, cE2, sev, svl, cen, List.cons_append, List.nil_append]; omega) ?_
                            refine d_cut [(r : Int), (ln : Int), (p : Int), ((n - 1 : Nat) : Int), ((i + 1 : Nat) : Int)] (by simp [cE2, sev, svl, cen] <;> omega) ?_
                            exact fin
                    · simp only [cCmp, cE2, sev, svl, cen, List.cons_append, List.nil_append] at h
                      first
                      | omega
                      | skip
                        refine d_br (fun h => ?_) (fun h => ?_)
                        · simp only [cCmp, cE2, sev, svl, cen, List.cons_append, List.nil_append] at h
                          first
                          | omega
                          | skip
                            refine d_br (fun h => ?_) (fun h => ?_)
                            · simp only [cCmp, cE2, sev, svl, cen, List.cons_append, List.nil_append] at h
                              first
                              | omega
                              | skip
                                refine d_rng (by simp only [clo, chi, cE2, sev, svl, cen, List.cons_append, List.nil_append]; omega) ?_
                                refine d_cut [(r : Int), (ln : Int), (p : Int), (n : Int), ((i : Int) + 1)] (by simp [cE2, sev, svl, cen] <;> omega) ?_
                                exact (by omega)
                            · simp only [cCmp, cE2, sev, svl, cen, List.cons_append, List.nil_append] at h
                              first
                              | omega
                              | skip
                                refine d_rng (by simp only [clo, chi, cE2, sev, svl, cen, List.cons_append, List.nil_append]; omega) ?_
                                refine d_rng (by simp only [clo, chi, cE2, sev, svl, cen, List.cons_append, List.nil_append]; omega) ?_
                                refine d_row 0 (n - 2) (by simp only [cE2, sev, svl, cen, List.cons_append, List.nil_append]; omega) (by simp only [cE2, sev, svl, cen, List.cons_append, List.nil_append]; omega) (by omega) ?_
                                rw [ea]
                                refine d_rng (by simp only [clo, chi, cE2, sev, svl, cen, List.cons_append, List.nil_append]; omega) ?_
                                refine d_row 0 (n - 1) (by simp only [cE2, sev, svl, cen, List.cons_append, List.nil_append]; omega) (by simp only [cE2, sev, svl, cen, List.cons_append, List.nil_append]; omega) (by omega) ?_
                                rw [eb]
                                refine d_call (b_join (d := d + 1) hp (k := x) (a := a) (b := b) q3) (by simp [cAs, cE2, sev, svl, cen] <;> omega) ?_
                                intro rr M' hq
                                obtain ⟨hM', rfl⟩ := hq
                                rw [hM']
                                refine ⟨rfl, ?_⟩
                                refine d_set 0 (n - 2) (eJ x a b) (by simp only [cE2, sev, svl, cen, List.cons_append, List.nil_append]; omega) (by simp only [cE2, sev, svl, cen, List.cons_append, List.nil_append]; omega) (by omega) (by simp only [cE2, sev, svl, cen, List.cons_append, List.nil_append]; omega) ?_
                                refine d_rng (by simp only [clo, chi, cE2, sev, svl, cen, List.cons_append, List.nil_append]; omega) ?_
                                refine d_rng (by simp only [clo, chi, cE2, sev, svl, cen, List.cons_append, List.nil_append]; omega) ?_
                                refine d_cut [(r : Int), (ln : Int), (p : Int), ((n - 1 : Nat) : Int), ((i + 1 : Nat) : Int)] (by simp [cE2, sev, svl, cen] <;> omega) ?_
                                exact fin
                        · simp only [cCmp, cE2, sev, svl, cen, List.cons_append, List.nil_append] at h
                          first
                          | omega
                          | skip
                            refine d_br (fun h => ?_) (fun h => ?_)
                            · simp only [cCmp, cE2, sev, svl, cen, List.cons_append, List.nil_append] at h
                              first
                              | omega
                              | skip
                                refine d_rng (by simp only [clo, chi, cE2, sev, svl, cen, List.cons_append, List.nil_append]; omega) ?_
                                refine d_cut [(r : Int), (ln : Int), (p : Int), (n : Int), ((i : Int) + 1)] (by simp [cE2, sev, svl, cen] <;> omega) ?_
                                exact (by omega)
                            · simp only [cCmp, cE2, sev, svl, cen, List.cons_append, List.nil_append] at h
                              first
                              | omega
                              | skip
                                refine d_br (fun h => ?_) (fun h => ?_)
                                · simp only [cCmp, cE2, sev, svl, cen, List.cons_append, List.nil_append] at h
                                  first
                                  | omega
                                  | skip
                                    omega
                                · simp only [cCmp, cE2, sev, svl, cen, List.cons_append, List.nil_append] at h
                                  first
                                  | omega
                                  | skip
                                    refine d_opw x 32 (by simp [cE2, sev, svl, cen] <;> omega) (by simp [cE2, sev, svl, cen] <;> omega) ?_
                                    refine d_set 0 n (cfn 13 x 32) (by simp only [cE2, sev, svl, cen, List.cons_append, List.nil_append]; omega) (by simp only [cE2, sev, svl, cen, List.cons_append, List.nil_append]; omega) (by omega) (by simp only [cE2, sev, svl, cen, List.cons_append, List.nil_append]; omega) ?_
                                    refine d_rng (by simp only [clo, chi, cE2, sev, svl, cen, List.cons_append, List.nil_append]; omega) ?_
                                    refine d_rng (by simp only [clo, chi, cE2, sev, svl, cen, List.cons_append, List.nil_append]; omega) ?_
                                    refine d_cut [(r : Int), (ln : Int), (p : Int), ((n : Int) + 1), ((i : Int) + 1)] (by simp [cE2, sev, svl, cen] <;> omega) ?_
                                    exact (by omega)
                · simp only [cCmp, cE2, sev, svl, cen, List.cons_append, List.nil_append] at h
                  first
                  | omega
                  | skip
                    refine d_br (fun h => ?_) (fun h => ?_)
                    · simp only [cCmp, cE2, sev, svl, cen, List.cons_append, List.nil_append] at h
                      first
                      | omega
                      | skip
                        refine d_rng (by simp only [clo, chi, cE2, sev, svl, cen, List.cons_append, List.nil_append]; omega) ?_
                        refine d_cut [(r : Int), (ln : Int), (p : Int), (n : Int), ((i : Int) + 1)] (by simp [cE2, sev, svl, cen] <;> omega) ?_
                        exact (by omega)
                    · simp only [cCmp, cE2, sev, svl, cen, List.cons_append, List.nil_append] at h
                      first
                      | omega
                      | skip
                        refine d_rng (by simp only [clo, chi, cE2, sev, svl, cen, List.cons_append, List.nil_append]; omega) ?_
                        refine d_rng (by simp only [clo, chi, cE2, sev, svl, cen, List.cons_append, List.nil_append]; omega) ?_
                        refine d_row 0 (n - 1) (by simp only [cE2, sev, svl, cen, List.cons_append, List.nil_append]; omega) (by simp only [cE2, sev, svl, cen, List.cons_append, List.nil_append]; omega) (by omega) ?_
                        rw [eb]
                        refine d_br (fun h => ?_) (fun h => ?_)
                        · simp only [cCmp, cE2, sev, svl, cen, List.cons_append, List.nil_append] at h
                          first
                          | omega
                          | skip
                            refine d_set 0 (n - 1) 0 (by simp only [cE2, sev, svl, cen, List.cons_append, List.nil_append]; omega) (by simp only [cE2, sev, svl, cen, List.cons_append, List.nil_append]; omega) (by omega) (by simp only [cE2, sev, svl, cen, List.cons_append, List.nil_append]; omega) ?_
                            refine d_rng (by simp only [clo, chi, cE2, sev, svl, cen, List.cons_append, List.nil_append]; omega) ?_
                            refine d_cut [(r : Int), (ln : Int), (p : Int), (n : Int), ((i : Int) + 1)] (by simp [cE2, sev, svl, cen] <;> omega) ?_
                            exact (by omega)
                        · simp only [cCmp, cE2, sev, svl, cen, List.cons_append, List.nil_append] at h
                          first
                          | omega
                          | skip
                            refine d_set 0 (n - 1) 1 (by simp only [cE2, sev, svl, cen, List.cons_append, List.nil_append]; omega) (by simp only [cE2, sev, svl, cen, List.cons_append, List.nil_append]; omega) (by omega) (by simp only [cE2, sev, svl, cen, List.cons_append, List.nil_append]; omega) ?_
                            refine d_rng (by simp only [clo, chi, cE2, sev, svl, cen, List.cons_append, List.nil_append]; omega) ?_
                            refine d_cut [(r : Int), (ln : Int), (p : Int), (n : Int), ((i : Int) + 1)] (by simp [cE2, sev, svl, cen] <;> omega) ?_
                            exact (by omega)
  refine cEnds_at gX5_evaluate_m0 rfl ?_
  refine d_row r ln (by simp only [cE2, sev, svl, cen, List.cons_append, List.nil_append]; omega) (by simp only [cE2, sev, svl, cen, List.cons_append, List.nil_append]; omega) hl ?_
  rw [h98]
  refine d_cut [(r : Int), (ln : Int), (p : Int), ((0 : Nat) : Int), (fr : Int)] (by simp [cE2, sev, svl, cen] <;> omega) ?_
  exact loop q fr [] M hI (fun _ _ _ _ => rfl) he.symm hq hm (Nat.zero_le _) trivial hR0.symm
end CR2
