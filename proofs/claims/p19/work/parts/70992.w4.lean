/-! what the methods do: the calls of both that tell walls -/
theorem sI_tell {M : SMem} {p : Nat} {s hh o g : Int} (hI : sI tg M) (h1 : 1 ≤ s ∧ s ≤ 24) (h2 : 0 ≤ hh ∧ hh ≤ 99) (h3 : 0 ≤ o ∧ o ≤ 3) (h4 : 0 ≤ g ∧ g ≤ 2) : sI tg (wTell M p s hh o g) := wI (lo := 0) (hi := 6) (wI (lo := 0) (hi := 2) (wI (lo := 0) (hi := 3) (wI (lo := 0) (hi := 99) (wI (lo := 0) (hi := 24) (wI (lo := 0) (hi := 1) hI rfl ⟨by omega, by omega⟩) rfl ⟨by omega, by omega⟩) rfl h2) rfl h3) rfl h4) rfl ⟨by omega, by omega⟩
theorem sI_tellM {M : SMem} {p : Nat} {s hh o g : Int} (hI : sI tg M) (h1 : 1 ≤ s ∧ s ≤ 24) (h2 : 0 ≤ hh ∧ hh ≤ 99) (h3 : 0 ≤ o ∧ o ≤ 3) (h4 : 0 ≤ g ∧ g ≤ 2) : sI tg (wTellM M p s hh o g) := wI (lo := 0) (hi := 6) (wI (lo := 0) (hi := 2) (wI (lo := 0) (hi := 3) (wI (lo := 0) (hi := 99) (wI (lo := 0) (hi := 24) (wI (lo := 0) (hi := 1) hI rfl ⟨by omega, by omega⟩) rfl ⟨by omega, by omega⟩) rfl h2) rfl h3) rfl h4) rfl ⟨by omega, by omega⟩
theorem sI_addL {M : SMem} {p sz : Nat} {hd dv n : Int} (hI : sI tg M) (h6 : sz < 6) (h1 : 0 ≤ hd ∧ hd ≤ 5) (h2 : 0 ≤ dv ∧ dv ≤ 4) (h3 : -1 ≤ n ∧ n ≤ 7) : sI tg (wAddL M p sz hd dv n) := wI (lo := 0) (hi := 6) (wI (lo := 0) (hi := 8) (wI (lo := -1) (hi := 7) (wI (lo := 0) (hi := 4) (wI (lo := 0) (hi := 5) hI rfl h1) rfl h2) rfl h3) rfl ⟨by omega, by omega⟩) rfl ⟨by omega, by omega⟩
theorem sI_addM {M : SMem} {p sz : Nat} {hd dv n : Int} (hI : sI tg M) (h6 : sz < 6) (h1 : 0 ≤ hd ∧ hd ≤ 5) (h2 : 0 ≤ dv ∧ dv ≤ 4) (h3 : -1 ≤ n ∧ n ≤ 7) : sI tg (wAddM M p sz hd dv n) := wI (lo := 0) (hi := 6) (wI (lo := 0) (hi := 8) (wI (lo := -1) (hi := 7) (wI (lo := 0) (hi := 4) (wI (lo := 0) (hi := 5) hI rfl h1) rfl h2) rfl h3) rfl ⟨by omega, by omega⟩) rfl ⟨by omega, by omega⟩
theorem sI_rem {M : SMem} {p sz : Nat} (hI : sI tg M) (h0 : 0 < sz) (h6 : sz ≤ 6) : sI tg (wRem M p sz) := by
  unfold wRem
  split
  · exact wI (lo := 0) (hi := 6) hI rfl ⟨by omega, by omega⟩
  · exact wI (lo := 0) (hi := 8) (wI (lo := 0) (hi := 6) hI rfl ⟨by omega, by omega⟩) rfl ⟨by omega, by omega⟩
theorem sI_remM {M : SMem} {p sz : Nat} (hI : sI tg M) (h0 : 0 < sz) (h6 : sz ≤ 6) : sI tg (wRemM M p sz) := by
  unfold wRemM
  split
  · exact wI (lo := 0) (hi := 6) hI rfl ⟨by omega, by omega⟩
  · exact wI (lo := 0) (hi := 8) (wI (lo := 0) (hi := 6) hI rfl ⟨by omega, by omega⟩) rfl ⟨by omega, by omega⟩
theorem sI_tr {M : SMem} {p l fr len : Nat} (hI : sI tg M) (h1 : len ≤ 8) : ∀ m, sI tg (wTr M p l fr len m) := by
  intro m
  induction m with
  | zero => rw [wTr_0]; exact wI (lo := 0) (hi := 8) hI rfl ⟨by omega, by omega⟩
  | succ m ih => rw [← wTr_s]; exact wI (lo := 0) (hi := 126) ih rfl (wIb (lo := 0) (hi := 126) hI 0 rfl)
theorem sI_trM {M : SMem} {q fr len : Nat} (hI : sI tg M) (h1 : len ≤ 8) : ∀ m, sI tg (wTrM M q fr len m) := by
  intro m
  induction m with
  | zero => rw [wTrM_0]; exact wI (lo := 0) (hi := 8) hI rfl ⟨by omega, by omega⟩
  | succ m ih =>
    rw [← wTrM_s]
    refine wI (lo := 0) (hi := 126) ih rfl ?_
    have := wIb (f := 12) (i := fr + m) (lo := 0) (hi := 126) hI 0 rfl
    unfold wTv
    split <;> omega
section CW4
variable {EX : SEx} {l : Launch} {dC : Nat → ClassId} {dI : Nat → Nat → Nat} {cA : Nat → ClassId} {ad : SAd} {scrS d : Nat}
theorem b_place (hp : cPl tm tc tf EX) {a s hh o g : Int} {M : SMem} (hI : sI tg M) : cBG tm tf EX l dC dI cA ad scrS (d + 3) kX9_place [(2, 0, 0), (0, 0, a), (0, 0, s), (0, 0, hh), (0, 0, o), (0, 0, g)] M (fun rr MM => sI tg MM ∧ ((((0 ≤ a ∧ a < 12) ∧ (1 ≤ s ∧ s ≤ 24) ∧ (0 ≤ hh ∧ hh ≤ 99) ∧ (0 ≤ o ∧ o ≤ 3) ∧ (0 ≤ g ∧ g ≤ 2)) ∧ rr = [1] ∧ ∀ f j i, f ≠ 7 → f ≠ 10 → MM f j i = wTell M a.toNat s hh o g f j i) ∨ (¬ ((0 ≤ a ∧ a < 12) ∧ (1 ≤ s ∧ s ≤ 24) ∧ (0 ≤ hh ∧ hh ≤ 99) ∧ (0 ≤ o ∧ o ≤ 3) ∧ (0 ≤ g ∧ g ≤ 2)) ∧ rr = [0] ∧ MM = M))) := by
  refine cMeth (v := [a, s, hh, o, g]) (Fd := 90) hp (by decide) gX9_place_ok gX9_place_m0 (by simp [cAs, cE2, sev, svl, cen]) ?_
  refine cEnds_at gX9_place_m0 rfl ?_
  refine d_call (b_isBelow hp (x := a) (y := 12)) (by simp [cAs, cE2, sev, svl, cen] <;> omega) ?_
  intro rr M' hq
  obtain ⟨hM', hq⟩ := hq
  rw [hM']
  rcases hq with ⟨rfl, q5⟩ | ⟨rfl, q5⟩
  · refine ⟨rfl, ?_⟩
    refine d_br (fun h => ?_) (fun h => ?_)
    · simp only [cCmp, cE2, sev, svl, cen, List.cons_append, List.nil_append] at h
      omega
    · clear h
      refine d_br (fun h => ?_) (fun h => ?_)
      · simp only [cCmp, cE2, sev, svl, cen, List.cons_append, List.nil_append] at h
        first
        | omega
        | skip
          exact d_ret [0] rfl (by decide) ⟨hI, Or.inr ⟨by omega, rfl, rfl⟩⟩
      · simp only [cCmp, cE2, sev, svl, cen, List.cons_append, List.nil_append] at h
        first
        | omega
        | skip
          refine d_br (fun h => ?_) (fun h => ?_)
          · simp only [cCmp, cE2, sev, svl, cen, List.cons_append, List.nil_append] at h
            first
            | omega
            | skip
              exact d_ret [0] rfl (by decide) ⟨hI, Or.inr ⟨by omega, rfl, rfl⟩⟩
          · simp only [cCmp, cE2, sev, svl, cen, List.cons_append, List.nil_append] at h
            first
            | omega
            | skip
              refine d_call (b_isBelow hp (x := hh) (y := 100)) (by simp [cAs, cE2, sev, svl, cen] <;> omega) ?_
              intro rr M' hq
              obtain ⟨hM', hq⟩ := hq
              rw [hM']
              rcases hq with ⟨rfl, q6⟩ | ⟨rfl, q6⟩
              · refine ⟨rfl, ?_⟩
                refine d_br (fun h => ?_) (fun h => ?_)
                · simp only [cCmp, cE2, sev, svl, cen, List.cons_append, List.nil_append] at h
                  omega
                · clear h
                  refine d_call (b_isBelow hp (x := o) (y := 4)) (by simp [cAs, cE2, sev, svl, cen] <;> omega) ?_
                  intro rr M' hq
                  obtain ⟨hM', hq⟩ := hq
                  rw [hM']
                  rcases hq with ⟨rfl, q7⟩ | ⟨rfl, q7⟩
                  · refine ⟨rfl, ?_⟩
                    refine d_br (fun h => ?_) (fun h => ?_)
                    · simp only [cCmp, cE2, sev, svl, cen, List.cons_append, List.nil_append] at h
                      omega
                    · clear h
                      refine d_call (b_isBelow hp (x := g) (y := 3)) (by simp [cAs, cE2, sev, svl, cen] <;> omega) ?_
                      intro rr M' hq
                      obtain ⟨hM', hq⟩ := hq
                      rw [hM']
                      rcases hq with ⟨rfl, q8⟩ | ⟨rfl, q8⟩
                      · refine ⟨rfl, ?_⟩
                        refine d_br (fun h => ?_) (fun h => ?_)
                        · simp only [cCmp, cE2, sev, svl, cen, List.cons_append, List.nil_append] at h
                          omega
                        · clear h
                          refine d_idx (by simp only [cE2, sev, svl, cen, List.cons_append, List.nil_append]; omega) ?_
                          refine d_call (b_wtell hp (p := a.toNat) (s := s) (hh := hh) (o := o) (g := g)) (by simp [cAs, cE2, sev, svl, cen] <;> omega) ?_
                          intro rr M' hq
                          obtain ⟨rfl, hM'⟩ := hq
                          rw [hM']
                          refine ⟨rfl, ?_⟩
                          refine d_call (b_forgetF hp (sI_tell (p := a.toNat) (s := s) (hh := hh) (o := o) (g := g) hI (by omega) (by omega) (by omega) (by omega))) (by simp [cAs, cE2, sev, svl, cen] <;> omega) ?_
                          intro rr M' hq
                          obtain ⟨rfl, i9, f9⟩ := hq
                          refine ⟨rfl, ?_⟩
                          exact d_ret [1] rfl (by decide) ⟨i9, Or.inl ⟨by omega, rfl, f9⟩⟩
                      · refine ⟨rfl, ?_⟩
                        refine d_br (fun h => ?_) (fun h => ?_)
                        · clear h
                          exact d_ret [0] rfl (by decide) ⟨hI, Or.inr ⟨by omega, rfl, rfl⟩⟩
                        · simp only [cCmp, cE2, sev, svl, cen, List.cons_append, List.nil_append] at h
                          omega
                  · refine ⟨rfl, ?_⟩
                    refine d_br (fun h => ?_) (fun h => ?_)
                    · clear h
                      exact d_ret [0] rfl (by decide) ⟨hI, Or.inr ⟨by omega, rfl, rfl⟩⟩
                    · simp only [cCmp, cE2, sev, svl, cen, List.cons_append, List.nil_append] at h
                      omega
              · refine ⟨rfl, ?_⟩
                refine d_br (fun h => ?_) (fun h => ?_)
                · clear h
                  exact d_ret [0] rfl (by decide) ⟨hI, Or.inr ⟨by omega, rfl, rfl⟩⟩
                · simp only [cCmp, cE2, sev, svl, cen, List.cons_append, List.nil_append] at h
                  omega
  · refine ⟨rfl, ?_⟩
    refine d_br (fun h => ?_) (fun h => ?_)
    · clear h
      exact d_ret [0] rfl (by decide) ⟨hI, Or.inr ⟨by omega, rfl, rfl⟩⟩
    · simp only [cCmp, cE2, sev, svl, cen, List.cons_append, List.nil_append] at h
      omega
theorem b_cut (hp : cPl tm tc tf EX) {a hd dv n : Int} {sz : Nat} {M : SMem} (hI : sI tg M) (hsz : M 64 a.toNat 5 = (sz : Int)) : cBG tm tf EX l dC dI cA ad scrS (d + 3) kX9_cut [(2, 0, 0), (0, 0, a), (0, 0, hd), (0, 0, dv), (0, 0, n)] M (fun rr MM => sI tg MM ∧ ((((0 ≤ a ∧ a < 12 ∧ M 64 a.toNat 0 ≠ 0) ∧ (0 ≤ hd ∧ hd < 6) ∧ (0 ≤ dv ∧ dv < 5) ∧ (n = -1 ∨ (¬ (dv = 1 ∨ dv = 2) ∧ 0 ≤ n ∧ n < 8 ∧ M 58 0 n.toNat ≠ 0)) ∧ (sz < 6 ∧ ((sz = 0 ∧ dv = 0) ∨ (sz ≠ 0 ∧ dv ≠ 0 ∧ (((dv = 1 ∨ dv = 2) ∧ ¬ (M 92 a.toNat (sz - 1) = 1 ∨ M 92 a.toNat (sz - 1) = 2)) ∨ (¬ (dv = 1 ∨ dv = 2) ∧ (M 92 a.toNat (sz - 1) = 1 ∨ M 92 a.toNat (sz - 1) = 2) ∧ (dv ≠ 4 ∨ (sz < 2 ∨ n = -1 ∨ M 93 a.toNat (sz - 2) = -1 ∨ n = M 93 a.toNat (sz - 2))))))))) ∧ rr = [(sz : Int)] ∧ ∀ f j i, f ≠ 7 → f ≠ 10 → MM f j i = wAddL M a.toNat sz hd dv n f j i) ∨ (¬ ((0 ≤ a ∧ a < 12 ∧ M 64 a.toNat 0 ≠ 0) ∧ (0 ≤ hd ∧ hd < 6) ∧ (0 ≤ dv ∧ dv < 5) ∧ (n = -1 ∨ (¬ (dv = 1 ∨ dv = 2) ∧ 0 ≤ n ∧ n < 8 ∧ M 58 0 n.toNat ≠ 0)) ∧ (sz < 6 ∧ ((sz = 0 ∧ dv = 0) ∨ (sz ≠ 0 ∧ dv ≠ 0 ∧ (((dv = 1 ∨ dv = 2) ∧ ¬ (M 92 a.toNat (sz - 1) = 1 ∨ M 92 a.toNat (sz - 1) = 2)) ∨ (¬ (dv = 1 ∨ dv = 2) ∧ (M 92 a.toNat (sz - 1) = 1 ∨ M 92 a.toNat (sz - 1) = 2) ∧ (dv ≠ 4 ∨ (sz < 2 ∨ n = -1 ∨ M 93 a.toNat (sz - 2) = -1 ∨ n = M 93 a.toNat (sz - 2))))))))) ∧ rr = [-1] ∧ MM = M))) := by
  refine cMeth (v := [a, hd, dv, n]) (Fd := 90) hp (by decide) gX9_cut_ok gX9_cut_m0 (by simp [cAs, cE2, sev, svl, cen]) ?_
  refine cEnds_at gX9_cut_m0 rfl ?_
  refine d_call (b_isPlace hp (a := a)) (by simp [cAs, cE2, sev, svl, cen] <;> omega) ?_
  intro rr M' hq
  obtain ⟨hM', hq⟩ := hq
  rw [hM']
  rcases hq with ⟨rfl, q4⟩ | ⟨rfl, q4⟩
  · refine ⟨rfl, ?_⟩
    refine d_br (fun h => ?_) (fun h => ?_)
    · simp only [cCmp, cE2, sev, svl, cen, List.cons_append, List.nil_append] at h
      omega
    · clear h
      refine d_call (b_isBelow hp (x := hd) (y := 6)) (by simp [cAs, cE2, sev, svl, cen] <;> omega) ?_
      intro rr M' hq
      obtain ⟨hM', hq⟩ := hq
      rw [hM']
      rcases hq with ⟨rfl, q5⟩ | ⟨rfl, q5⟩
      · refine ⟨rfl, ?_⟩
        refine d_br (fun h => ?_) (fun h => ?_)
        · simp only [cCmp, cE2, sev, svl, cen, List.cons_append, List.nil_append] at h
          omega
        · clear h
          refine d_call (b_isBelow hp (x := dv) (y := 5)) (by simp [cAs, cE2, sev, svl, cen] <;> omega) ?_
          intro rr M' hq
          obtain ⟨hM', hq⟩ := hq
          rw [hM']
          rcases hq with ⟨rfl, q6⟩ | ⟨rfl, q6⟩
          · refine ⟨rfl, ?_⟩
            refine d_br (fun h => ?_) (fun h => ?_)
            · clear h
              refine d_br (fun h => ?_) (fun h => ?_)
              · simp only [cCmp, cE2, sev, svl, cen, List.cons_append, List.nil_append] at h
                first
                | omega
                | skip
                  refine d_idx (by simp only [cE2, sev, svl, cen, List.cons_append, List.nil_append]; omega) ?_
                  refine d_call (b_canLie hp (p := a.toNat) (sz := sz) (dv := dv) (n := n) hsz) (by simp [cAs, cE2, sev, svl, cen] <;> omega) ?_
                  intro rr M' hq
                  obtain ⟨hM', hq⟩ := hq
                  rw [hM']
                  rcases hq with ⟨rfl, q7⟩ | ⟨rfl, q7⟩
                  · refine ⟨rfl, ?_⟩
                    refine d_br (fun h => ?_) (fun h => ?_)
                    · clear h
                      refine d_fld a.toNat (by simp only [cE2, sev, svl, cen, List.cons_append, List.nil_append]; omega) ?_
                      rw [hsz]
                      refine d_call (b_wadd hp (p := a.toNat) (sz := sz) (hd := hd) (dv := dv) (n := n) hsz (by omega)) (by simp [cAs, cE2, sev, svl, cen] <;> omega) ?_
                      intro rr M' hq
                      obtain ⟨rfl, hM'⟩ := hq
                      rw [hM']
                      refine ⟨rfl, ?_⟩
                      refine d_call (b_forgetF hp (sI_addL (p := a.toNat) (sz := sz) (hd := hd) (dv := dv) (n := n) hI (by omega) (by omega) (by omega) (by omega))) (by simp [cAs, cE2, sev, svl, cen] <;> omega) ?_
                      intro rr M' hq
                      obtain ⟨rfl, i9, f9⟩ := hq
                      refine ⟨rfl, ?_⟩
                      exact wret1 (sz : Int) (by simp only [cE2, sev, svl, cen, List.cons_append, List.nil_append]; omega) (by omega) ⟨i9, Or.inl ⟨by omega, rfl, f9⟩⟩
                    · simp only [cCmp, cE2, sev, svl, cen, List.cons_append, List.nil_append] at h
                      omega
                  · refine ⟨rfl, ?_⟩
                    refine d_br (fun h => ?_) (fun h => ?_)
                    · simp only [cCmp, cE2, sev, svl, cen, List.cons_append, List.nil_append] at h
                      omega
                    · clear h
                      exact d_ret [(-1)] rfl (by decide) ⟨hI, Or.inr ⟨by omega, rfl, rfl⟩⟩
              · simp only [cCmp, cE2, sev, svl, cen, List.cons_append, List.nil_append] at h
                first
                | omega
                | skip
                  refine d_call (b_isErasure hp (x := dv)) (by simp [cAs, cE2, sev, svl, cen] <;> omega) ?_
                  intro rr M' hq
                  obtain ⟨hM', hq⟩ := hq
                  rw [hM']
                  rcases hq with ⟨rfl, q7⟩ | ⟨rfl, q7⟩
                  · refine ⟨rfl, ?_⟩
                    refine d_br (fun h => ?_) (fun h => ?_)
                    · clear h
                      refine d_idx (by simp only [cE2, sev, svl, cen, List.cons_append, List.nil_append]; omega) ?_
                      exact d_ret [(-1)] rfl (by decide) ⟨hI, Or.inr ⟨by omega, rfl, rfl⟩⟩
                    · simp only [cCmp, cE2, sev, svl, cen, List.cons_append, List.nil_append] at h
                      omega
                  · refine ⟨rfl, ?_⟩
                    refine d_br (fun h => ?_) (fun h => ?_)
                    · simp only [cCmp, cE2, sev, svl, cen, List.cons_append, List.nil_append] at h
                      omega
                    · clear h
                      refine d_call (b_isTold hp (a := n)) (by simp [cAs, cE2, sev, svl, cen] <;> omega) ?_
                      intro rr M' hq
                      obtain ⟨hM', hq⟩ := hq
                      rw [hM']
                      rcases hq with ⟨rfl, q8⟩ | ⟨rfl, q8⟩
                      · refine ⟨rfl, ?_⟩
                        refine d_br (fun h => ?_) (fun h => ?_)
                        · simp only [cCmp, cE2, sev, svl, cen, List.cons_append, List.nil_append] at h
                          omega
                        · clear h
                          refine d_idx (by simp only [cE2, sev, svl, cen, List.cons_append, List.nil_append]; omega) ?_
                          refine d_call (b_canLie hp (p := a.toNat) (sz := sz) (dv := dv) (n := n) hsz) (by simp [cAs, cE2, sev, svl, cen] <;> omega) ?_
                          intro rr M' hq
                          obtain ⟨hM', hq⟩ := hq
                          rw [hM']
                          rcases hq with ⟨rfl, q9⟩ | ⟨rfl, q9⟩
                          · refine ⟨rfl, ?_⟩
                            refine d_br (fun h => ?_) (fun h => ?_)
                            · clear h
                              refine d_fld a.toNat (by simp only [cE2, sev, svl, cen, List.cons_append, List.nil_append]; omega) ?_
                              rw [hsz]
                              refine d_call (b_wadd hp (p := a.toNat) (sz := sz) (hd := hd) (dv := dv) (n := n) hsz (by omega)) (by simp [cAs, cE2, sev, svl, cen] <;> omega) ?_
                              intro rr M' hq
                              obtain ⟨rfl, hM'⟩ := hq
                              rw [hM']
                              refine ⟨rfl, ?_⟩
                              refine d_call (b_forgetF hp (sI_addL (p := a.toNat) (sz := sz) (hd := hd) (dv := dv) (n := n) hI (by omega) (by omega) (by omega) (by omega))) (by simp [cAs, cE2, sev, svl, cen] <;> omega) ?_
                              intro rr M' hq
                              obtain ⟨rfl, i9, f9⟩ := hq
                              refine ⟨rfl, ?_⟩
                              exact wret1 (sz : Int) (by simp only [cE2, sev, svl, cen, List.cons_append, List.nil_append]; omega) (by omega) ⟨i9, Or.inl ⟨by omega, rfl, f9⟩⟩
                            · simp only [cCmp, cE2, sev, svl, cen, List.cons_append, List.nil_append] at h
                              omega
                          · refine ⟨rfl, ?_⟩
                            refine d_br (fun h => ?_) (fun h => ?_)
                            · simp only [cCmp, cE2, sev, svl, cen, List.cons_append, List.nil_append] at h
                              omega
                            · clear h
                              exact d_ret [(-1)] rfl (by decide) ⟨hI, Or.inr ⟨by omega, rfl, rfl⟩⟩
                      · refine ⟨rfl, ?_⟩
                        refine d_br (fun h => ?_) (fun h => ?_)
                        · clear h
                          refine d_idx (by simp only [cE2, sev, svl, cen, List.cons_append, List.nil_append]; omega) ?_
                          exact d_ret [(-1)] rfl (by decide) ⟨hI, Or.inr ⟨by omega, rfl, rfl⟩⟩
                        · simp only [cCmp, cE2, sev, svl, cen, List.cons_append, List.nil_append] at h
                          omega
            · simp only [cCmp, cE2, sev, svl, cen, List.cons_append, List.nil_append] at h
              omega
          · refine ⟨rfl, ?_⟩
            refine d_br (fun h => ?_) (fun h => ?_)
            · simp only [cCmp, cE2, sev, svl, cen, List.cons_append, List.nil_append] at h
              omega
            · clear h
              exact d_ret [(-1)] rfl (by decide) ⟨hI, Or.inr ⟨by omega, rfl, rfl⟩⟩
      · refine ⟨rfl, ?_⟩
        refine d_br (fun h => ?_) (fun h => ?_)
        · clear h
          exact d_ret [(-1)] rfl (by decide) ⟨hI, Or.inr ⟨by omega, rfl, rfl⟩⟩
        · simp only [cCmp, cE2, sev, svl, cen, List.cons_append, List.nil_append] at h
          omega
  · refine ⟨rfl, ?_⟩
    refine d_br (fun h => ?_) (fun h => ?_)
    · clear h
      exact d_ret [(-1)] rfl (by decide) ⟨hI, Or.inr ⟨by omega, rfl, rfl⟩⟩
    · simp only [cCmp, cE2, sev, svl, cen, List.cons_append, List.nil_append] at h
      omega
theorem b_clean (hp : cPl tm tc tf EX) {a : Int} {sz : Nat} {M : SMem} (hI : sI tg M) (hsz : M 64 a.toNat 5 = (sz : Int)) : cBG tm tf EX l dC dI cA ad scrS (d + 3) kX9_clean [(2, 0, 0), (0, 0, a)] M (fun rr MM => sI tg MM ∧ (((0 ≤ a ∧ a < 12 ∧ M 64 a.toNat 0 ≠ 0 ∧ sz ≠ 0) ∧ rr = [1] ∧ ∀ f j i, f ≠ 7 → f ≠ 10 → MM f j i = wRem M a.toNat sz f j i) ∨ (¬ (0 ≤ a ∧ a < 12 ∧ M 64 a.toNat 0 ≠ 0 ∧ sz ≠ 0) ∧ rr = [0] ∧ MM = M))) := by
  have b6 := wIb (f := 64) (i := 5) (lo := 0) (hi := 6) hI a.toNat rfl
  refine cMeth (v := [a]) (Fd := 90) hp (by decide) gX9_clean_ok gX9_clean_m0 (by simp [cAs, cE2, sev, svl, cen]) ?_
  refine cEnds_at gX9_clean_m0 rfl ?_
  refine d_call (b_isPlace hp (a := a)) (by simp [cAs, cE2, sev, svl, cen] <;> omega) ?_
  intro rr M' hq
  obtain ⟨hM', hq⟩ := hq
  rw [hM']
  rcases hq with ⟨rfl, q1⟩ | ⟨rfl, q1⟩
  · refine ⟨rfl, ?_⟩
    refine d_br (fun h => ?_) (fun h => ?_)
    · simp only [cCmp, cE2, sev, svl, cen, List.cons_append, List.nil_append] at h
      omega
    · clear h
      refine d_idx (by simp only [cE2, sev, svl, cen, List.cons_append, List.nil_append]; omega) ?_
      refine d_fld a.toNat (by simp only [cE2, sev, svl, cen, List.cons_append, List.nil_append]; omega) ?_
      rw [hsz]
      refine d_br (fun h => ?_) (fun h => ?_)
      · simp only [cCmp, cE2, sev, svl, cen, List.cons_append, List.nil_append] at h
        first
        | omega
        | skip
          refine d_idx (by simp only [cE2, sev, svl, cen, List.cons_append, List.nil_append]; omega) ?_
          refine d_call (b_removeTop hp (p := a.toNat) (sz := sz) hsz (by omega) (by omega)) (by simp [cAs, cE2, sev, svl, cen] <;> omega) ?_
          intro rr M' hq
          obtain ⟨rfl, hM'⟩ := hq
          rw [hM']
          refine ⟨rfl, ?_⟩
          refine d_call (b_forgetF hp (sI_rem (p := a.toNat) (sz := sz) hI (by omega) (by omega))) (by simp [cAs, cE2, sev, svl, cen] <;> omega) ?_
          intro rr M' hq
          obtain ⟨rfl, i9, f9⟩ := hq
          refine ⟨rfl, ?_⟩
          exact d_ret [1] rfl (by decide) ⟨i9, Or.inl ⟨by omega, rfl, f9⟩⟩
      · simp only [cCmp, cE2, sev, svl, cen, List.cons_append, List.nil_append] at h
        first
        | omega
        | skip
          exact d_ret [0] rfl (by decide) ⟨hI, Or.inr ⟨by omega, rfl, rfl⟩⟩
  · refine ⟨rfl, ?_⟩
    refine d_br (fun h => ?_) (fun h => ?_)
    · clear h
      exact d_ret [0] rfl (by decide) ⟨hI, Or.inr ⟨by omega, rfl, rfl⟩⟩
    · simp only [cCmp, cE2, sev, svl, cen, List.cons_append, List.nil_append] at h
      omega
theorem m_clean (hp : cPl tm tc tf EX) {a : Int} {sz : Nat} {M : SMem} (hI : sI tg M) (hsz : M 27 0 a.toNat = (sz : Int)) : cBG tm tf EX l dC dI cA ad scrS (d + 3) kX10_clean [(2, 1, 0), (0, 0, a)] M (fun rr MM => ((0 ≤ a ∧ a < 12 ∧ M 22 0 a.toNat ≠ 0 ∧ sz ≠ 0) ∧ rr = [1] ∧ MM = supd (wRemM (supd M 1 0 0 0) a.toNat sz) 1 0 28 1) ∨ (¬ (0 ≤ a ∧ a < 12 ∧ M 22 0 a.toNat ≠ 0 ∧ sz ≠ 0) ∧ rr = [0] ∧ MM = supd M 1 0 0 0)) := by
  have b6 := wIb (f := 27) (i := a.toNat) (lo := 0) (hi := 6) hI 0 rfl
  refine cMeth (v := [a]) (Fd := 90) hp (by decide) gX10_clean_ok gX10_clean_m0 (by simp [cAs, cE2, sev, svl, cen]) ?_
  refine cEnds_at gX10_clean_m0 rfl ?_
  refine d_put 0 0 (by simp only [cE2, sev, svl, cen, List.cons_append, List.nil_append]; omega) (by simp only [cE2, sev, svl, cen, List.cons_append, List.nil_append]; omega) ?_
  have e22 : supd M 1 0 0 0 22 0 a.toNat = M 22 0 a.toNat := supd_f (by decide)
  have e27 : supd M 1 0 0 0 27 0 a.toNat = (sz : Int) := (supd_f (by decide)).trans hsz
  generalize supd M 1 0 0 0 = M1 at e22 e27 ⊢
  refine d_call (m_isPlace hp (a := a)) (by simp [cAs, cE2, sev, svl, cen] <;> omega) ?_
  intro rr M' hq
  obtain ⟨hM', hq⟩ := hq
  rw [hM']
  rcases hq with ⟨rfl, q1⟩ | ⟨rfl, q1⟩
  · refine ⟨rfl, ?_⟩
    refine d_br (fun h => ?_) (fun h => ?_)
    · simp only [cCmp, cE2, sev, svl, cen, List.cons_append, List.nil_append] at h
      omega
    · clear h
      refine d_row 0 a.toNat (by simp only [cE2, sev, svl, cen, List.cons_append, List.nil_append]; omega) (by simp only [cE2, sev, svl, cen, List.cons_append, List.nil_append]; omega) (by omega) ?_
      rw [e27]
      refine d_br (fun h => ?_) (fun h => ?_)
      · simp only [cCmp, cE2, sev, svl, cen, List.cons_append, List.nil_append] at h
        first
        | omega
        | skip
          refine d_row 0 a.toNat (by simp only [cE2, sev, svl, cen, List.cons_append, List.nil_append]; omega) (by simp only [cE2, sev, svl, cen, List.cons_append, List.nil_append]; omega) (by omega) ?_
          rw [e27]
          refine d_rng (by simp only [clo, chi, cE2, sev, svl, cen, List.cons_append, List.nil_append]; omega) ?_
          refine d_set 0 a.toNat ((sz : Int) - 1) (by simp only [cE2, sev, svl, cen, List.cons_append, List.nil_append]; omega) (by simp only [cE2, sev, svl, cen, List.cons_append, List.nil_append]; omega) (by omega) (by simp only [cE2, sev, svl, cen, List.cons_append, List.nil_append]; omega) ?_
          refine d_row 0 a.toNat (by simp only [cE2, sev, svl, cen, List.cons_append, List.nil_append]; omega) (by simp only [cE2, sev, svl, cen, List.cons_append, List.nil_append]; omega) (by omega) ?_
          rw [supd_at]
          refine d_br (fun h => ?_) (fun h => ?_)
          · simp only [cCmp, cE2, sev, svl, cen, List.cons_append, List.nil_append] at h
            first
            | omega
            | skip
              refine d_rng (by simp only [clo, chi, cE2, sev, svl, cen, List.cons_append, List.nil_append]; omega) ?_
              refine d_put 0 1 (by simp only [cE2, sev, svl, cen, List.cons_append, List.nil_append]; omega) (by simp only [cE2, sev, svl, cen, List.cons_append, List.nil_append]; omega) ?_
              exact d_ret [1] rfl (by decide) (Or.inl ⟨by omega, rfl, by unfold wRemM; rw [if_pos (by omega)]⟩)
          · simp only [cCmp, cE2, sev, svl, cen, List.cons_append, List.nil_append] at h
            first
            | omega
            | skip
              refine d_rng (by simp only [clo, chi, cE2, sev, svl, cen, List.cons_append, List.nil_append]; omega) ?_
              refine d_row 0 a.toNat (by simp only [cE2, sev, svl, cen, List.cons_append, List.nil_append]; omega) (by simp only [cE2, sev, svl, cen, List.cons_append, List.nil_append]; omega) (by omega) ?_
              rw [supd_at]
              refine d_rng (by simp only [clo, chi, cE2, sev, svl, cen, List.cons_append, List.nil_append]; omega) ?_
              refine d_rng (by simp only [clo, chi, cE2, sev, svl, cen, List.cons_append, List.nil_append]; omega) ?_
              refine d_set 0 (6 * a.toNat + (sz - 1) - 1) 0 (by simp only [cE2, sev, svl, cen, List.cons_append, List.nil_append]; omega) (by simp only [cE2, sev, svl, cen, List.cons_append, List.nil_append]; omega) (by omega) (by simp only [cE2, sev, svl, cen, List.cons_append, List.nil_append]; omega) ?_
              refine d_rng (by simp only [clo, chi, cE2, sev, svl, cen, List.cons_append, List.nil_append]; omega) ?_
              refine d_put 0 1 (by simp only [cE2, sev, svl, cen, List.cons_append, List.nil_append]; omega) (by simp only [cE2, sev, svl, cen, List.cons_append, List.nil_append]; omega) ?_
              exact d_ret [1] rfl (by decide) (Or.inl ⟨by omega, rfl, by unfold wRemM; rw [if_neg (by omega)]⟩)
      · simp only [cCmp, cE2, sev, svl, cen, List.cons_append, List.nil_append] at h
        first
        | omega
        | skip
          exact d_ret [0] rfl (by decide) (Or.inr ⟨by omega, rfl, rfl⟩)
  · refine ⟨rfl, ?_⟩
    refine d_br (fun h => ?_) (fun h => ?_)
    · clear h
      exact d_ret [0] rfl (by decide) (Or.inr ⟨by omega, rfl, rfl⟩)
    · simp only [cCmp, cE2, sev, svl, cen, List.cons_append, List.nil_append] at h
      omega
end CW4
