/-! what the methods do: cut, clean, traces of the reference -/
section CW3
variable {EX : SEx} {l : Launch} {dC : Nat → ClassId} {dI : Nat → Nat → Nat} {cA : Nat → ClassId} {ad : SAd} {scrS d : Nat}
set_option maxHeartbeats 4000000 in
theorem m_cut (hp : cPl tm tc tf EX) {a hd dv n : Int} {sz : Nat} {M : SMem} (hI : sI tg M) (hsz : M 27 0 a.toNat = (sz : Int)) (hx : ∀ k, 0 ≤ a → sz ≠ 0 → k + 1 = 6 * a.toNat + sz → (M 29 0 k = 1 ∨ M 29 0 k = 2) → 2 ≤ sz) : cBG tm tf EX l dC dI cA ad scrS (d + 3) kX10_cut [(2, 1, 0), (0, 0, a), (0, 0, hd), (0, 0, dv), (0, 0, n)] M (fun rr MM => ((((0 ≤ a ∧ a < 12 ∧ M 22 0 a.toNat ≠ 0) ∧ (0 ≤ hd ∧ hd ≤ 5) ∧ (0 ≤ dv ∧ dv ≤ 4) ∧ (n = -1 ∨ (0 ≤ n ∧ n < 8 ∧ M 17 0 n.toNat ≠ 0))) ∧ ((dv = 0 ∨ dv = 3 ∨ dv = 4) ∨ n = -1) ∧ sz ≠ 6 ∧ ((sz = 0 ∧ dv = 0) ∨ (sz ≠ 0 ∧ dv ≠ 0 ∧ (((dv = 1 ∨ dv = 2) ∧ (M 29 0 (6 * a.toNat + sz - 1) = 0 ∨ M 29 0 (6 * a.toNat + sz - 1) = 3 ∨ M 29 0 (6 * a.toNat + sz - 1) = 4)) ∨ (¬ (dv = 1 ∨ dv = 2) ∧ (M 29 0 (6 * a.toNat + sz - 1) = 1 ∨ M 29 0 (6 * a.toNat + sz - 1) = 2))))) ∧ ¬ (dv = 4 ∧ n ≠ -1 ∧ M 30 0 (6 * a.toNat + sz - 2) ≠ -1 ∧ M 30 0 (6 * a.toNat + sz - 2) ≠ n)) ∧ rr = [(sz : Int)] ∧ MM = supd (wAddM (supd M 1 0 0 0) a.toNat sz hd dv n) 1 0 28 1) ∨ (¬ (((0 ≤ a ∧ a < 12 ∧ M 22 0 a.toNat ≠ 0) ∧ (0 ≤ hd ∧ hd ≤ 5) ∧ (0 ≤ dv ∧ dv ≤ 4) ∧ (n = -1 ∨ (0 ≤ n ∧ n < 8 ∧ M 17 0 n.toNat ≠ 0))) ∧ ((dv = 0 ∨ dv = 3 ∨ dv = 4) ∨ n = -1) ∧ sz ≠ 6 ∧ ((sz = 0 ∧ dv = 0) ∨ (sz ≠ 0 ∧ dv ≠ 0 ∧ (((dv = 1 ∨ dv = 2) ∧ (M 29 0 (6 * a.toNat + sz - 1) = 0 ∨ M 29 0 (6 * a.toNat + sz - 1) = 3 ∨ M 29 0 (6 * a.toNat + sz - 1) = 4)) ∨ (¬ (dv = 1 ∨ dv = 2) ∧ (M 29 0 (6 * a.toNat + sz - 1) = 1 ∨ M 29 0 (6 * a.toNat + sz - 1) = 2))))) ∧ ¬ (dv = 4 ∧ n ≠ -1 ∧ M 30 0 (6 * a.toNat + sz - 2) ≠ -1 ∧ M 30 0 (6 * a.toNat + sz - 2) ≠ n)) ∧ rr = [-1] ∧ MM = supd M 1 0 0 0)) := by
  refine cMeth (v := [a, hd, dv, n]) (Fd := 90) hp (by decide) gX10_cut_ok gX10_cut_m0 (by simp [cAs, cE2, sev, svl, cen]) ?_
  have b6 := wIb (f := 27) (i := a.toNat) (lo := 0) (hi := 6) hI 0 rfl
  have i1 : sI tg (supd M 1 0 0 0) := wI (lo := 0) (hi := 1) hI rfl ⟨by omega, by omega⟩
  have e22 : supd M 1 0 0 0 22 0 a.toNat = M 22 0 a.toNat := supd_f (by decide)
  have e17 : supd M 1 0 0 0 17 0 n.toNat = M 17 0 n.toNat := supd_f (by decide)
  have e27 : supd M 1 0 0 0 27 0 a.toNat = (sz : Int) := (supd_f (by decide)).trans hsz
  have e29 : supd M 1 0 0 0 29 0 (6 * a.toNat + sz - 1) = M 29 0 (6 * a.toNat + sz - 1) := supd_f (by decide)
  have e30 : supd M 1 0 0 0 30 0 (6 * a.toNat + sz - 2) = M 30 0 (6 * a.toNat + sz - 2) := supd_f (by decide)
  have hx2 := fun g1 g2 => hx (6 * a.toNat + sz - 1) g1 g2 (by omega)
  suffices H : ∀ Po : List Int → SMem → Prop, (∀ rr MM, (((((0 ≤ a ∧ a < 12 ∧ M 22 0 a.toNat ≠ 0) ∧ (0 ≤ hd ∧ hd ≤ 5) ∧ (0 ≤ dv ∧ dv ≤ 4) ∧ (n = -1 ∨ (0 ≤ n ∧ n < 8 ∧ M 17 0 n.toNat ≠ 0))) ∧ ((dv = 0 ∨ dv = 3 ∨ dv = 4) ∨ n = -1) ∧ sz ≠ 6 ∧ ((sz = 0 ∧ dv = 0) ∨ (sz ≠ 0 ∧ dv ≠ 0 ∧ (((dv = 1 ∨ dv = 2) ∧ (M 29 0 (6 * a.toNat + sz - 1) = 0 ∨ M 29 0 (6 * a.toNat + sz - 1) = 3 ∨ M 29 0 (6 * a.toNat + sz - 1) = 4)) ∨ (¬ (dv = 1 ∨ dv = 2) ∧ (M 29 0 (6 * a.toNat + sz - 1) = 1 ∨ M 29 0 (6 * a.toNat + sz - 1) = 2))))) ∧ ¬ (dv = 4 ∧ n ≠ -1 ∧ M 30 0 (6 * a.toNat + sz - 2) ≠ -1 ∧ M 30 0 (6 * a.toNat + sz - 2) ≠ n)) ∧ rr = [(sz : Int)] ∧ MM = supd (wAddM (supd M 1 0 0 0) a.toNat sz hd dv n) 1 0 28 1) ∨ (¬ (((0 ≤ a ∧ a < 12 ∧ M 22 0 a.toNat ≠ 0) ∧ (0 ≤ hd ∧ hd ≤ 5) ∧ (0 ≤ dv ∧ dv ≤ 4) ∧ (n = -1 ∨ (0 ≤ n ∧ n < 8 ∧ M 17 0 n.toNat ≠ 0))) ∧ ((dv = 0 ∨ dv = 3 ∨ dv = 4) ∨ n = -1) ∧ sz ≠ 6 ∧ ((sz = 0 ∧ dv = 0) ∨ (sz ≠ 0 ∧ dv ≠ 0 ∧ (((dv = 1 ∨ dv = 2) ∧ (M 29 0 (6 * a.toNat + sz - 1) = 0 ∨ M 29 0 (6 * a.toNat + sz - 1) = 3 ∨ M 29 0 (6 * a.toNat + sz - 1) = 4)) ∨ (¬ (dv = 1 ∨ dv = 2) ∧ (M 29 0 (6 * a.toNat + sz - 1) = 1 ∨ M 29 0 (6 * a.toNat + sz - 1) = 2))))) ∧ ¬ (dv = 4 ∧ n ≠ -1 ∧ M 30 0 (6 * a.toNat + sz - 2) ≠ -1 ∧ M 30 0 (6 * a.toNat + sz - 2) ≠ n)) ∧ rr = [-1] ∧ MM = supd M 1 0 0 0)) → Po rr MM) → cEnds (cBG tm tf EX l dC dI cA ad scrS (d + 2)) Po 90 gX10_cut 0 [a, hd, dv, n] M from H _ (fun _ _ h => h)
  intro Po hPo
  generalize hM1 : supd M 1 0 0 0 = M1 at i1 e22 e17 e27 e29 e30 hPo
  have s146 : 0 ≤ a → a < 12 → sz < 6 → (∀ rr MM, rr = [(sz : Int)] → MM = supd (wAddM M1 a.toNat sz hd dv n) 1 0 28 1 → Po rr MM) → cEnds (cBG tm tf EX l dC dI cA ad scrS (d + 2)) Po 90 gX10_cut 146 [a, hd, dv, n, 6 * a + (sz : Int)] M1 := by
    intro g1 g2 g3 gP
    refine cEnds_at gX10_cut_m146 rfl ?_
    refine d_set 0 ((6 * a.toNat + sz)) hd (by simp only [cE2, sev, svl, cen, List.cons_append, List.nil_append]; omega) (by simp only [cE2, sev, svl, cen, List.cons_append, List.nil_append]; omega) (by omega) (by simp only [cE2, sev, svl, cen, List.cons_append, List.nil_append]; omega) ?_
    refine d_set 0 ((6 * a.toNat + sz)) dv (by simp only [cE2, sev, svl, cen, List.cons_append, List.nil_append]; omega) (by simp only [cE2, sev, svl, cen, List.cons_append, List.nil_append]; omega) (by omega) (by simp only [cE2, sev, svl, cen, List.cons_append, List.nil_append]; omega) ?_
    refine d_set 0 ((6 * a.toNat + sz)) n (by simp only [cE2, sev, svl, cen, List.cons_append, List.nil_append]; omega) (by simp only [cE2, sev, svl, cen, List.cons_append, List.nil_append]; omega) (by omega) (by simp only [cE2, sev, svl, cen, List.cons_append, List.nil_append]; omega) ?_
    refine d_set 0 ((6 * a.toNat + sz)) 0 (by simp only [cE2, sev, svl, cen, List.cons_append, List.nil_append]; omega) (by simp only [cE2, sev, svl, cen, List.cons_append, List.nil_append]; omega) (by omega) (by simp only [cE2, sev, svl, cen, List.cons_append, List.nil_append]; omega) ?_
    refine d_row 0 a.toNat (by simp only [cE2, sev, svl, cen, List.cons_append, List.nil_append]; omega) (by simp only [cE2, sev, svl, cen, List.cons_append, List.nil_append]; omega) (by omega) ?_
    rw [supd_f (by decide)]
    rw [supd_f (by decide)]
    rw [supd_f (by decide)]
    rw [supd_f (by decide)]
    rw [e27]
    refine d_rng (by simp only [clo, chi, cE2, sev, svl, cen, List.cons_append, List.nil_append]; omega) ?_
    refine d_set 0 a.toNat ((sz : Int) + 1) (by simp only [cE2, sev, svl, cen, List.cons_append, List.nil_append]; omega) (by simp only [cE2, sev, svl, cen, List.cons_append, List.nil_append]; omega) (by omega) (by simp only [cE2, sev, svl, cen, List.cons_append, List.nil_append]; omega) ?_
    refine d_rng (by simp only [clo, chi, cE2, sev, svl, cen, List.cons_append, List.nil_append]; omega) ?_
    refine d_put 0 1 (by simp only [cE2, sev, svl, cen, List.cons_append, List.nil_append]; omega) (by simp only [cE2, sev, svl, cen, List.cons_append, List.nil_append]; omega) ?_
    refine d_row 0 a.toNat (by simp only [cE2, sev, svl, cen, List.cons_append, List.nil_append]; omega) (by simp only [cE2, sev, svl, cen, List.cons_append, List.nil_append]; omega) (by omega) ?_
    rw [supd_f (by decide)]
    rw [supd_at]
    refine d_rng (by simp only [clo, chi, cE2, sev, svl, cen, List.cons_append, List.nil_append]; omega) ?_
    exact wret1 (((sz : Int) + 1) - 1) (by simp only [cE2, sev, svl, cen, List.cons_append, List.nil_append]; omega) (by omega) (gP _ _ (by simp) rfl)
  have s71 : 0 ≤ a → a < 12 → (∀ rr MM, (sz ≠ 6 ∧ ((sz = 0 ∧ dv = 0) ∨ (sz ≠ 0 ∧ dv ≠ 0 ∧ (((dv = 1 ∨ dv = 2) ∧ (M 29 0 (6 * a.toNat + sz - 1) = 0 ∨ M 29 0 (6 * a.toNat + sz - 1) = 3 ∨ M 29 0 (6 * a.toNat + sz - 1) = 4)) ∨ (¬ (dv = 1 ∨ dv = 2) ∧ (M 29 0 (6 * a.toNat + sz - 1) = 1 ∨ M 29 0 (6 * a.toNat + sz - 1) = 2))))) ∧ ¬ (dv = 4 ∧ n ≠ -1 ∧ M 30 0 (6 * a.toNat + sz - 2) ≠ -1 ∧ M 30 0 (6 * a.toNat + sz - 2) ≠ n)) → rr = [(sz : Int)] → MM = supd (wAddM M1 a.toNat sz hd dv n) 1 0 28 1 → Po rr MM) → (∀ rr MM, ¬ (sz ≠ 6 ∧ ((sz = 0 ∧ dv = 0) ∨ (sz ≠ 0 ∧ dv ≠ 0 ∧ (((dv = 1 ∨ dv = 2) ∧ (M 29 0 (6 * a.toNat + sz - 1) = 0 ∨ M 29 0 (6 * a.toNat + sz - 1) = 3 ∨ M 29 0 (6 * a.toNat + sz - 1) = 4)) ∨ (¬ (dv = 1 ∨ dv = 2) ∧ (M 29 0 (6 * a.toNat + sz - 1) = 1 ∨ M 29 0 (6 * a.toNat + sz - 1) = 2))))) ∧ ¬ (dv = 4 ∧ n ≠ -1 ∧ M 30 0 (6 * a.toNat + sz - 2) ≠ -1 ∧ M 30 0 (6 * a.toNat + sz - 2) ≠ n)) → rr = [-1] → MM = M1 → Po rr MM) → cEnds (cBG tm tf EX l dC dI cA ad scrS (d + 2)) Po 90 gX10_cut 71 [a, hd, dv, n] M1 := by
    intro g1 g2 gP gN
    refine cEnds_at gX10_cut_m71 rfl ?_
    refine d_row 0 a.toNat (by simp only [cE2, sev, svl, cen, List.cons_append, List.nil_append]; omega) (by simp only [cE2, sev, svl, cen, List.cons_append, List.nil_append]; omega) (by omega) ?_
    rw [e27]
    refine d_br (fun h => ?_) (fun h => ?_)
    · simp only [cCmp, cE2, sev, svl, cen, List.cons_append, List.nil_append] at h
      first
      | omega
      | skip
        exact d_ret [(-1)] rfl (by decide) (gN _ _ (by omega) rfl rfl)
    · simp only [cCmp, cE2, sev, svl, cen, List.cons_append, List.nil_append] at h
      first
      | omega
      | skip
        refine d_call (m_lies hp (p := a.toNat) (sz := sz) (dv := dv) i1 (by omega) e27 (by omega)) (by simp [cAs, cE2, sev, svl, cen] <;> omega) ?_
        intro rr M' hq
        obtain ⟨hM', hq⟩ := hq
        rw [hM']
        rcases hq with ⟨rfl, q5⟩ | ⟨rfl, q5⟩
        · refine ⟨rfl, ?_⟩
          refine d_br (fun h => ?_) (fun h => ?_)
          · clear h
            refine d_rng (by simp only [clo, chi, cE2, sev, svl, cen, List.cons_append, List.nil_append]; omega) ?_
            refine d_row 0 a.toNat (by simp only [cE2, sev, svl, cen, List.cons_append, List.nil_append]; omega) (by simp only [cE2, sev, svl, cen, List.cons_append, List.nil_append]; omega) (by omega) ?_
            rw [e27]
            refine d_rng (by simp only [clo, chi, cE2, sev, svl, cen, List.cons_append, List.nil_append]; omega) ?_
            refine d_br (fun h => ?_) (fun h => ?_)
            · simp only [cCmp, cE2, sev, svl, cen, List.cons_append, List.nil_append] at h
              first
              | omega
              | skip
                refine d_cut [a, hd, dv, n, (6 * a + (sz : Int))] (by simp [cE2, sev, svl, cen] <;> omega) ?_
                exact s146 g1 g2 (by omega) (fun rr MM z1 z2 => gP rr MM (by omega) z1 z2)
            · simp only [cCmp, cE2, sev, svl, cen, List.cons_append, List.nil_append] at h
              first
              | omega
              | skip
                refine d_br (fun h => ?_) (fun h => ?_)
                · simp only [cCmp, cE2, sev, svl, cen, List.cons_append, List.nil_append] at h
                  first
                  | omega
                  | skip
                    refine d_cut [a, hd, dv, n, (6 * a + (sz : Int))] (by simp [cE2, sev, svl, cen] <;> omega) ?_
                    exact s146 g1 g2 (by omega) (fun rr MM z1 z2 => gP rr MM (by omega) z1 z2)
                · simp only [cCmp, cE2, sev, svl, cen, List.cons_append, List.nil_append] at h
                  first
                  | omega
                  | skip
                    refine d_rng (by simp only [clo, chi, cE2, sev, svl, cen, List.cons_append, List.nil_append]; omega) ?_
                    refine d_row 0 (6 * a.toNat + sz - 2) (by simp only [cE2, sev, svl, cen, List.cons_append, List.nil_append]; omega) (by simp only [cE2, sev, svl, cen, List.cons_append, List.nil_append]; omega) (by omega) ?_
                    rw [e30]
                    refine d_br (fun h => ?_) (fun h => ?_)
                    · simp only [cCmp, cE2, sev, svl, cen, List.cons_append, List.nil_append] at h
                      first
                      | omega
                      | skip
                        refine d_cut [a, hd, dv, n, (6 * a + (sz : Int))] (by simp [cE2, sev, svl, cen] <;> omega) ?_
                        exact s146 g1 g2 (by omega) (fun rr MM z1 z2 => gP rr MM (by omega) z1 z2)
                    · simp only [cCmp, cE2, sev, svl, cen, List.cons_append, List.nil_append] at h
                      first
                      | omega
                      | skip
                        refine d_rng (by simp only [clo, chi, cE2, sev, svl, cen, List.cons_append, List.nil_append]; omega) ?_
                        refine d_row 0 (6 * a.toNat + sz - 2) (by simp only [cE2, sev, svl, cen, List.cons_append, List.nil_append]; omega) (by simp only [cE2, sev, svl, cen, List.cons_append, List.nil_append]; omega) (by omega) ?_
                        rw [e30]
                        refine d_br (fun h => ?_) (fun h => ?_)
                        · simp only [cCmp, cE2, sev, svl, cen, List.cons_append, List.nil_append] at h
                          first
                          | omega
                          | skip
                            refine d_cut [a, hd, dv, n, (6 * a + (sz : Int))] (by simp [cE2, sev, svl, cen] <;> omega) ?_
                            exact s146 g1 g2 (by omega) (fun rr MM z1 z2 => gP rr MM (by omega) z1 z2)
                        · simp only [cCmp, cE2, sev, svl, cen, List.cons_append, List.nil_append] at h
                          first
                          | omega
                          | skip
                            exact d_ret [(-1)] rfl (by decide) (gN _ _ (by omega) rfl rfl)
          · simp only [cCmp, cE2, sev, svl, cen, List.cons_append, List.nil_append] at h
            omega
        · refine ⟨rfl, ?_⟩
          refine d_br (fun h => ?_) (fun h => ?_)
          · simp only [cCmp, cE2, sev, svl, cen, List.cons_append, List.nil_append] at h
            omega
          · clear h
            exact d_ret [(-1)] rfl (by decide) (gN _ _ (by omega) rfl rfl)
  have s53 : ∀ z : Int, (z = 1 ∧ ((0 ≤ a ∧ a < 12 ∧ M 22 0 a.toNat ≠ 0) ∧ (0 ≤ hd ∧ hd ≤ 5) ∧ (0 ≤ dv ∧ dv ≤ 4) ∧ (n = -1 ∨ (0 ≤ n ∧ n < 8 ∧ M 17 0 n.toNat ≠ 0)))) ∨ (z = 0 ∧ ¬ ((0 ≤ a ∧ a < 12 ∧ M 22 0 a.toNat ≠ 0) ∧ (0 ≤ hd ∧ hd ≤ 5) ∧ (0 ≤ dv ∧ dv ≤ 4) ∧ (n = -1 ∨ (0 ≤ n ∧ n < 8 ∧ M 17 0 n.toNat ≠ 0)))) → cEnds (cBG tm tf EX l dC dI cA ad scrS (d + 2)) Po 90 gX10_cut 53 [a, hd, dv, n, z] M1 := by
    intro z hz
    refine cEnds_at gX10_cut_m53 rfl ?_
    refine d_br (fun h => ?_) (fun h => ?_)
    · simp only [cCmp, cE2, sev, svl, cen, List.cons_append, List.nil_append] at h
      first
      | omega
      | skip
        exact d_ret [(-1)] rfl (by decide) (hPo _ _ (Or.inr ⟨by omega, rfl, rfl⟩))
    · simp only [cCmp, cE2, sev, svl, cen, List.cons_append, List.nil_append] at h
      first
      | omega
      | skip
        refine d_call (m_names hp (x := dv)) (by simp [cAs, cE2, sev, svl, cen] <;> omega) ?_
        intro rr M' hq
        obtain ⟨hM', hq⟩ := hq
        rw [hM']
        rcases hq with ⟨rfl, q5⟩ | ⟨rfl, q5⟩
        · refine ⟨rfl, ?_⟩
          refine d_br (fun h => ?_) (fun h => ?_)
          · clear h
            refine d_cut [a, hd, dv, n] (by simp [cE2, sev, svl, cen] <;> omega) ?_
            exact s71 (by omega) (by omega) (fun rr MM z1 z2 z3 => hPo _ _ (Or.inl ⟨by omega, z2, z3⟩)) (fun rr MM z1 z2 z3 => hPo _ _ (Or.inr ⟨by omega, z2, z3⟩))
          · simp only [cCmp, cE2, sev, svl, cen, List.cons_append, List.nil_append] at h
            omega
        · refine ⟨rfl, ?_⟩
          refine d_br (fun h => ?_) (fun h => ?_)
          · simp only [cCmp, cE2, sev, svl, cen, List.cons_append, List.nil_append] at h
            omega
          · clear h
            refine d_br (fun h => ?_) (fun h => ?_)
            · simp only [cCmp, cE2, sev, svl, cen, List.cons_append, List.nil_append] at h
              first
              | omega
              | skip
                exact d_ret [(-1)] rfl (by decide) (hPo _ _ (Or.inr ⟨by omega, rfl, rfl⟩))
            · simp only [cCmp, cE2, sev, svl, cen, List.cons_append, List.nil_append] at h
              first
              | omega
              | skip
                refine d_cut [a, hd, dv, n] (by simp [cE2, sev, svl, cen] <;> omega) ?_
                exact s71 (by omega) (by omega) (fun rr MM z1 z2 z3 => hPo _ _ (Or.inl ⟨by omega, z2, z3⟩)) (fun rr MM z1 z2 z3 => hPo _ _ (Or.inr ⟨by omega, z2, z3⟩))
  refine cEnds_at gX10_cut_m0 rfl ?_
  refine d_put 0 0 (by simp only [cE2, sev, svl, cen, List.cons_append, List.nil_append]; omega) (by simp only [cE2, sev, svl, cen, List.cons_append, List.nil_append]; omega) ?_
  rw [hM1]
  refine d_call (m_isPlace hp (a := a)) (by simp [cAs, cE2, sev, svl, cen] <;> omega) ?_
  intro rr M' hq
  obtain ⟨hM', hq⟩ := hq
  rw [hM']
  rcases hq with ⟨rfl, q4⟩ | ⟨rfl, q4⟩
  · refine ⟨rfl, ?_⟩
    refine d_br (fun h => ?_) (fun h => ?_)
    · simp only [cCmp, cE2, sev, svl, cen, List.cons_append, List.nil_append] at h
      omega
    · clear h
      refine d_call (m_within hp (x := hd) (y := 0) (z := 5)) (by simp [cAs, cE2, sev, svl, cen] <;> omega) ?_
      intro rr M' hq
      obtain ⟨hM', hq⟩ := hq
      rw [hM']
      rcases hq with ⟨rfl, q5⟩ | ⟨rfl, q5⟩
      · refine ⟨rfl, ?_⟩
        refine d_br (fun h => ?_) (fun h => ?_)
        · simp only [cCmp, cE2, sev, svl, cen, List.cons_append, List.nil_append] at h
          omega
        · clear h
          refine d_call (m_within hp (x := dv) (y := 0) (z := 4)) (by simp [cAs, cE2, sev, svl, cen] <;> omega) ?_
          intro rr M' hq
          obtain ⟨hM', hq⟩ := hq
          rw [hM']
          rcases hq with ⟨rfl, q6⟩ | ⟨rfl, q6⟩
          · refine ⟨rfl, ?_⟩
            refine d_br (fun h => ?_) (fun h => ?_)
            · simp only [cCmp, cE2, sev, svl, cen, List.cons_append, List.nil_append] at h
              omega
            · clear h
              refine d_br (fun h => ?_) (fun h => ?_)
              · simp only [cCmp, cE2, sev, svl, cen, List.cons_append, List.nil_append] at h
                first
                | omega
                | skip
                  refine d_cut [a, hd, dv, n, 1] (by simp [cE2, sev, svl, cen] <;> omega) ?_
                  exact s53 _ (by omega)
              · simp only [cCmp, cE2, sev, svl, cen, List.cons_append, List.nil_append] at h
                first
                | omega
                | skip
                  refine d_call (m_isName hp (a := n)) (by simp [cAs, cE2, sev, svl, cen] <;> omega) ?_
                  intro rr M' hq
                  obtain ⟨hM', hq⟩ := hq
                  rw [hM']
                  rcases hq with ⟨rfl, q7⟩ | ⟨rfl, q7⟩
                  · refine ⟨rfl, ?_⟩
                    refine d_br (fun h => ?_) (fun h => ?_)
                    · simp only [cCmp, cE2, sev, svl, cen, List.cons_append, List.nil_append] at h
                      omega
                    · clear h
                      refine d_cut [a, hd, dv, n, 1] (by simp [cE2, sev, svl, cen] <;> omega) ?_
                      exact s53 _ (by omega)
                  · refine ⟨rfl, ?_⟩
                    refine d_br (fun h => ?_) (fun h => ?_)
                    · clear h
                      refine d_cut [a, hd, dv, n, 0] (by simp [cE2, sev, svl, cen] <;> omega) ?_
                      exact s53 _ (by omega)
                    · simp only [cCmp, cE2, sev, svl, cen, List.cons_append, List.nil_append] at h
                      omega
          · refine ⟨rfl, ?_⟩
            refine d_br (fun h => ?_) (fun h => ?_)
            · clear h
              refine d_cut [a, hd, dv, n, 0] (by simp [cE2, sev, svl, cen] <;> omega) ?_
              exact s53 _ (by omega)
            · simp only [cCmp, cE2, sev, svl, cen, List.cons_append, List.nil_append] at h
              omega
      · refine ⟨rfl, ?_⟩
        refine d_br (fun h => ?_) (fun h => ?_)
        · clear h
          refine d_cut [a, hd, dv, n, 0] (by simp [cE2, sev, svl, cen] <;> omega) ?_
          exact s53 _ (by omega)
        · simp only [cCmp, cE2, sev, svl, cen, List.cons_append, List.nil_append] at h
          omega
  · refine ⟨rfl, ?_⟩
    refine d_br (fun h => ?_) (fun h => ?_)
    · clear h
      refine d_cut [a, hd, dv, n, 0] (by simp [cE2, sev, svl, cen] <;> omega) ?_
      exact s53 _ (by omega)
    · simp only [cCmp, cE2, sev, svl, cen, List.cons_append, List.nil_append] at h
      omega
end CW3
