/-! what the methods do: a name told, the reference's side -/
section CM1
variable {EX : SEx} {l : Launch} {dC : Nat → ClassId} {dI : Nat → Nat → Nat} {cA : Nat → ClassId} {ad : SAd} {scrS d : Nat}
theorem m_within (hp : cPl tm tc tf EX) {x y z : Int} {M : SMem} : cBG tm tf EX l dC dI cA ad scrS (d + 1) kX10_within [(0, 0, x), (0, 0, y), (0, 0, z)] M (fun rr MM => MM = M ∧ ((rr = [1] ∧ (y ≤ x ∧ x ≤ z)) ∨ (rr = [0] ∧ ¬ (y ≤ x ∧ x ≤ z)))) := by
  refine cMeth (v := [x, y, z]) (Fd := 40) hp (by decide) gX10_within_ok gX10_within_m0 (by simp [cAs, cE2, sev, svl, cen]) ?_
  refine cEnds_at gX10_within_m0 rfl ?_
  refine d_br (fun h => ?_) (fun h => ?_)
  · simp only [cCmp, cE2, sev, svl, cen, List.cons_append, List.nil_append] at h
    exact d_ret [0] rfl (by decide) ⟨rfl, Or.inr ⟨rfl, by omega⟩⟩
  · simp only [cCmp, cE2, sev, svl, cen, List.cons_append, List.nil_append] at h
    refine d_br (fun h => ?_) (fun h => ?_)
    · simp only [cCmp, cE2, sev, svl, cen, List.cons_append, List.nil_append] at h
      exact d_ret [0] rfl (by decide) ⟨rfl, Or.inr ⟨rfl, by omega⟩⟩
    · simp only [cCmp, cE2, sev, svl, cen, List.cons_append, List.nil_append] at h
      exact d_ret [1] rfl (by decide) ⟨rfl, Or.inl ⟨rfl, by omega⟩⟩
theorem m_isLetter (hp : cPl tm tc tf EX) {x : Int} {M : SMem} : cBG tm tf EX l dC dI cA ad scrS (d + 1) kX10_isLetter [(0, 0, x)] M (fun rr MM => MM = M ∧ ((rr = [1] ∧ (97 ≤ x ∧ x ≤ 122)) ∨ (rr = [0] ∧ ¬ (97 ≤ x ∧ x ≤ 122)))) := by
  refine cMeth (v := [x]) (Fd := 40) hp (by decide) gX10_isLetter_ok gX10_isLetter_m0 (by simp [cAs, cE2, sev, svl, cen]) ?_
  refine cEnds_at gX10_isLetter_m0 rfl ?_
  refine d_br (fun h => ?_) (fun h => ?_)
  · simp only [cCmp, cE2, sev, svl, cen, List.cons_append, List.nil_append] at h
    exact d_ret [0] rfl (by decide) ⟨rfl, Or.inr ⟨rfl, by omega⟩⟩
  · simp only [cCmp, cE2, sev, svl, cen, List.cons_append, List.nil_append] at h
    refine d_br (fun h => ?_) (fun h => ?_)
    · simp only [cCmp, cE2, sev, svl, cen, List.cons_append, List.nil_append] at h
      exact d_ret [0] rfl (by decide) ⟨rfl, Or.inr ⟨rfl, by omega⟩⟩
    · simp only [cCmp, cE2, sev, svl, cen, List.cons_append, List.nil_append] at h
      exact d_ret [1] rfl (by decide) ⟨rfl, Or.inl ⟨rfl, by omega⟩⟩
theorem m_isBlank (hp : cPl tm tc tf EX) {k : Nat} (hk : k < 1000) {M : SMem} : cBG tm tf EX l dC dI cA ad scrS (d + 1) kX10_isBlank [(2, 1, 0), (0, 0, (k : Int))] M (fun rr MM => MM = M ∧ ((rr = [1] ∧ (M 12 0 k = 10 ∨ M 12 0 k = 32)) ∨ (rr = [0] ∧ ¬ (M 12 0 k = 10 ∨ M 12 0 k = 32)))) := by
  refine cMeth (v := [(k : Int)]) (Fd := 40) hp (by decide) gX10_isBlank_ok gX10_isBlank_m0 (by simp [cAs, cE2, sev, svl, cen]) ?_
  refine cEnds_at gX10_isBlank_m0 rfl ?_
  refine d_row 0 k (by simp only [cE2, sev, svl, cen, List.cons_append, List.nil_append]; omega) (by simp only [cE2, sev, svl, cen, List.cons_append, List.nil_append]; omega) hk ?_
  refine d_br (fun h => ?_) (fun h => ?_)
  · simp only [cCmp, cE2, sev, svl, cen, List.cons_append, List.nil_append] at h
    exact d_ret [1] rfl (by decide) ⟨rfl, Or.inl ⟨rfl, by omega⟩⟩
  · simp only [cCmp, cE2, sev, svl, cen, List.cons_append, List.nil_append] at h
    refine d_row 0 k (by simp only [cE2, sev, svl, cen, List.cons_append, List.nil_append]; omega) (by simp only [cE2, sev, svl, cen, List.cons_append, List.nil_append]; omega) hk ?_
    refine d_br (fun h => ?_) (fun h => ?_)
    · simp only [cCmp, cE2, sev, svl, cen, List.cons_append, List.nil_append] at h
      exact d_ret [0] rfl (by decide) ⟨rfl, Or.inr ⟨rfl, by omega⟩⟩
    · simp only [cCmp, cE2, sev, svl, cen, List.cons_append, List.nil_append] at h
      exact d_ret [1] rfl (by decide) ⟨rfl, Or.inl ⟨rfl, by omega⟩⟩
/-- the reference's tape without blanks; it is empty then -/
def vPo (M : SMem) (n : Nat) (MM : SMem) : Prop := sI tg MM ∧ (∀ f j i, f ≠ 1 → MM f j i = M f j i) ∧ MM 1 0 10 = (wf (M 12 0) n : Int) ∧ MM 1 0 11 = (wu (M 12 0) n : Int) ∧ MM 1 0 2 = 0 ∧ ∀ i, i ≠ 10 → i ≠ 11 → i ≠ 2 → MM 1 0 i = M 1 0 i
theorem m_bares (hp : cPl tm tc tf EX) {M : SMem} {n : Nat} (hn : M 1 0 2 = (n : Int)) (h9 : n ≤ 1000) (hI : sI tg M) : cBG tm tf EX l dC dI cA ad scrS (d + 2) kX10_bares [(2, 1, 0)] M (fun rr MM => rr = [] ∧ vPo M n MM) := by
  refine cMeth (v := []) (Fd := 60) hp (by decide) gX10_bares_ok gX10_bares_m0 (by simp [cAs, cE2, sev, svl, cen]) ?_
  have loop2 : ∀ (m u : Nat) (M1 : SMem), wF (M 12 0) n 0 + m = u → u ≤ n → wU (M 12 0) m u = wU (M 12 0) (n - wF (M 12 0) n 0) n → sI tg M1 → (∀ f j i, f ≠ 1 → M1 f j i = M f j i) → M1 1 0 10 = (wF (M 12 0) n 0 : Int) → M1 1 0 11 = (u : Int) → M1 1 0 2 = 0 → (∀ i, i ≠ 10 → i ≠ 11 → i ≠ 2 → M1 1 0 i = M 1 0 i) → cEnds (cBG tm tf EX l dC dI cA ad scrS (d + 1)) (fun rr MM => rr = [] ∧ vPo M n MM) 60 gX10_bares 53 [] M1 := by
    intro m
    induction m with
    | zero =>
      intro u M1 hu hun hz hI1 hf e2 e3 e4 e5
      refine cEnds_at gX10_bares_m53 rfl ?_
      refine d_fld 0 rfl ?_
      refine d_fld 0 rfl ?_
      rw [e2, e3]
      refine d_br (fun h => ?_) (fun h => ?_)
      · exact d_ret [] rfl (by decide) ⟨rfl, hI1, hf, e2, by rw [e3]; unfold wu; rw [← hz]; rfl, e4, e5⟩
      · simp only [cCmp, cE2, sev, svl, cen, List.cons_append, List.nil_append] at h
        omega
    | succ m ih =>
      intro u M1 hu hun hz hI1 hf e2 e3 e4 e5
      refine cEnds_at gX10_bares_m53 rfl ?_
      refine d_fld 0 rfl ?_
      refine d_fld 0 rfl ?_
      rw [e2, e3]
      refine d_br (fun h => ?_) (fun h => ?_)
      · simp only [cCmp, cE2, sev, svl, cen, List.cons_append, List.nil_append] at h
        omega
      · refine d_fld 0 rfl ?_
        rw [e3]
        refine d_rng (by simp only [clo, chi, cE2, sev, svl, cen, List.cons_append, List.nil_append]; omega) ?_
        refine d_call (m_isBlank hp (k := u - 1) (by omega)) (by simp [cAs, cE2, sev, svl, cen]; omega) ?_
        rintro rr M' ⟨rfl, hb⟩
        rw [hf 12 0 (u - 1) (by decide)] at hb
        rcases hb with ⟨rfl, hb⟩ | ⟨rfl, hb⟩
        · refine ⟨rfl, ?_⟩
          refine d_br (fun h => ?_) (fun h => ?_)
          · simp only [cCmp, cE2, sev, svl, cen, List.cons_append, List.nil_append] at h
            omega
          · refine d_fld 0 rfl ?_
            rw [e3]
            refine d_rng (by simp only [clo, chi, cE2, sev, svl, cen, List.cons_append, List.nil_append]; omega) ?_
            refine d_put 0 ((u - 1 : Nat) : Int) rfl (by simp only [cE2, sev, svl, cen, List.cons_append, List.nil_append]; omega) ?_
            refine d_cut [] rfl ?_
            refine ih (u - 1) _ (by omega) (by omega) ?_ (wI (lo := 0) (hi := 1000) hI1 rfl ⟨by omega, by omega⟩) ?_ ?_ ?_ ?_ ?_
            · rw [← hz]
              show _ = if M 12 0 (u - 1) = 10 ∨ M 12 0 (u - 1) = 32 then wU (M 12 0) m (u - 1) else u
              rw [if_pos hb]
            · intro f j i hq
              rw [supd_f hq]
              exact hf f j i hq
            · rw [supd_i (by decide)]
              exact e2
            · exact supd_at _ _ _ _ _
            · rw [supd_i (by decide)]
              exact e4
            · intro i q1 q2 q3
              rw [supd_i q2]
              exact e5 i q1 q2 q3
        · refine ⟨rfl, ?_⟩
          refine d_br (fun h => ?_) (fun h => ?_)
          · refine d_ret [] rfl (by decide) ⟨rfl, hI1, hf, e2, ?_, e4, e5⟩
            rw [e3]
            unfold wu
            rw [← hz]
            show (u : Int) = ((if M 12 0 (u - 1) = 10 ∨ M 12 0 (u - 1) = 32 then wU (M 12 0) m (u - 1) else u : Nat) : Int)
            rw [if_neg hb]
          · simp only [cCmp, cE2, sev, svl, cen, List.cons_append, List.nil_append] at h
            omega
  have loop1 : ∀ (m k : Nat) (M1 : SMem), k + m = n → wF (M 12 0) m k = wF (M 12 0) n 0 → sI tg M1 → (∀ f j i, f ≠ 1 → M1 f j i = M f j i) → M1 1 0 10 = (k : Int) → M1 1 0 11 = (n : Int) → M1 1 0 2 = 0 → (∀ i, i ≠ 10 → i ≠ 11 → i ≠ 2 → M1 1 0 i = M 1 0 i) → cEnds (cBG tm tf EX l dC dI cA ad scrS (d + 1)) (fun rr MM => rr = [] ∧ vPo M n MM) 60 gX10_bares 18 [] M1 := by
    intro m
    induction m with
    | zero =>
      intro k M1 hk hz hI1 hf e2 e3 e4 e5
      have ek : wF (M 12 0) n 0 = k := hz.symm
      refine cEnds_at gX10_bares_m18 rfl ?_
      refine d_fld 0 rfl ?_
      refine d_fld 0 rfl ?_
      rw [e2, e3]
      refine d_br (fun h => ?_) (fun h => ?_)
      · refine d_cut [] rfl ?_
        exact loop2 (n - wF (M 12 0) n 0) n M1 (by omega) (Nat.le_refl _) rfl hI1 hf (by rw [e2, ek]) e3 e4 e5
      · simp only [cCmp, cE2, sev, svl, cen, List.cons_append, List.nil_append] at h
        omega
    | succ m ih =>
      intro k M1 hk hz hI1 hf e2 e3 e4 e5
      refine cEnds_at gX10_bares_m18 rfl ?_
      refine d_fld 0 rfl ?_
      refine d_fld 0 rfl ?_
      rw [e2, e3]
      refine d_br (fun h => ?_) (fun h => ?_)
      · simp only [cCmp, cE2, sev, svl, cen, List.cons_append, List.nil_append] at h
        omega
      · refine d_fld 0 rfl ?_
        rw [e2]
        refine d_call (m_isBlank hp (k := k) (by omega)) (by simp [cAs, cE2, sev, svl, cen]) ?_
        rintro rr M' ⟨rfl, hb⟩
        rw [hf 12 0 k (by decide)] at hb
        rcases hb with ⟨rfl, hb⟩ | ⟨rfl, hb⟩
        · refine ⟨rfl, ?_⟩
          refine d_br (fun h => ?_) (fun h => ?_)
          · simp only [cCmp, cE2, sev, svl, cen, List.cons_append, List.nil_append] at h
            omega
          · refine d_fld 0 rfl ?_
            rw [e2]
            refine d_rng (by simp only [clo, chi, cE2, sev, svl, cen, List.cons_append, List.nil_append]; omega) ?_
            refine d_put 0 ((k + 1 : Nat) : Int) rfl (by simp only [cE2, sev, svl, cen, List.cons_append, List.nil_append]; omega) ?_
            refine d_cut [] rfl ?_
            refine ih (k + 1) _ (by omega) ?_ (wI (lo := 0) (hi := 1000) hI1 rfl ⟨by omega, by omega⟩) ?_ ?_ ?_ ?_ ?_
            · rw [← hz]
              show _ = if M 12 0 k = 10 ∨ M 12 0 k = 32 then wF (M 12 0) m (k + 1) else k
              rw [if_pos hb]
            · intro f j i hq
              rw [supd_f hq]
              exact hf f j i hq
            · exact supd_at _ _ _ _ _
            · rw [supd_i (by decide)]
              exact e3
            · rw [supd_i (by decide)]
              exact e4
            · intro i q1 q2 q3
              rw [supd_i q1]
              exact e5 i q1 q2 q3
        · have ek : wF (M 12 0) n 0 = k := by
            rw [← hz]
            show (if M 12 0 k = 10 ∨ M 12 0 k = 32 then wF (M 12 0) m (k + 1) else k) = k
            rw [if_neg hb]
          refine ⟨rfl, ?_⟩
          refine d_br (fun h => ?_) (fun h => ?_)
          · refine d_cut [] rfl ?_
            exact loop2 (n - wF (M 12 0) n 0) n _ (by have := wF_le (M 12 0) n 0; omega) (Nat.le_refl _) rfl hI1 hf (by rw [e2, ek]) e3 e4 e5
          · simp only [cCmp, cE2, sev, svl, cen, List.cons_append, List.nil_append] at h
            omega
  refine cEnds_at gX10_bares_m0 rfl ?_
  refine d_put 0 0 rfl rfl ?_
  refine d_fld 0 rfl ?_
  rw [supd_i (by decide), hn]
  refine d_put 0 (n : Int) rfl (by simp only [cE2, sev, svl, cen, List.cons_append, List.nil_append]; omega) ?_
  refine d_put 0 0 rfl rfl ?_
  refine d_cut [] rfl ?_
  refine loop1 n 0 _ (by omega) rfl (wI (lo := 0) (hi := 1000) (wI (lo := 0) (hi := 1000) (wI (lo := 0) (hi := 1000) hI rfl ⟨by omega, by omega⟩) rfl ⟨by omega, by omega⟩) rfl ⟨by omega, by omega⟩) ?_ ?_ ?_ ?_ ?_
  · intro f j i hq
    rw [supd_f hq, supd_f hq, supd_f hq]
  · rw [supd_i (by decide), supd_i (by decide)]
    exact supd_at _ _ _ _ _
  · rw [supd_i (by decide)]
    exact supd_at _ _ _ _ _
  · exact supd_at _ _ _ _ _
  · intro i q1 q2 q3
    rw [supd_i q3, supd_i q2, supd_i q1]
theorem m_areLetters (hp : cPl tm tc tf EX) {s : Int} {M : SMem} {fr up : Nat} (e2 : M 1 0 10 = (fr : Int)) (e3 : M 1 0 11 = (up : Int)) (h9 : fr ≤ up ∧ up ≤ 1000) : cBG tm tf EX l dC dI cA ad scrS (d + 2) kX10_areLetters [(2, 1, 0), (0, 0, s)] M (fun rr MM => MM = M ∧ ((rr = [1] ∧ wTx s (M 12 0) fr up) ∨ (rr = [0] ∧ ¬ wTx s (M 12 0) fr up))) := by
  refine cMeth (v := [s]) (Fd := 60) hp (by decide) gX10_areLetters_ok gX10_areLetters_m0 (by simp [cAs, cE2, sev, svl, cen]) ?_
  have loop : ∀ (m k : Nat) (b : Int), k + m = up → fr ≤ k → ((b = 1 ∧ fr + 1 ≤ up ∧ up ≤ fr + 8 ∧ ∀ i, fr ≤ i → i < k → ((97 ≤ M 12 0 i ∧ M 12 0 i ≤ 122) ∨ (s ≠ 0 ∧ M 12 0 i = 46))) ∨ (b = 0 ∧ ¬ wTx s (M 12 0) fr up)) → cEnds (cBG tm tf EX l dC dI cA ad scrS (d + 1)) (fun rr MM => MM = M ∧ ((rr = [1] ∧ wTx s (M 12 0) fr up) ∨ (rr = [0] ∧ ¬ wTx s (M 12 0) fr up))) 60 gX10_areLetters 38 [s, b, (k : Int)] M := by
    intro m
    induction m with
    | zero =>
      intro k b hk hf hl
      refine cEnds_at gX10_areLetters_m38 rfl ?_
      refine d_fld 0 rfl ?_
      rw [e3]
      refine d_br (fun h => ?_) (fun h => ?_)
      · rcases hl with ⟨rfl, h1, h2, hl⟩ | ⟨rfl, hl⟩
        · exact d_ret [1] rfl (by decide) ⟨rfl, Or.inl ⟨rfl, h1, h2, fun i a b => hl i a (by omega)⟩⟩
        · exact d_ret [0] rfl (by decide) ⟨rfl, Or.inr ⟨rfl, hl⟩⟩
      · simp only [cCmp, cE2, sev, svl, cen, List.cons_append, List.nil_append] at h
        omega
    | succ m ih =>
      intro k b hk hf hl
      refine cEnds_at gX10_areLetters_m38 rfl ?_
      refine d_fld 0 rfl ?_
      rw [e3]
      refine d_br (fun h => ?_) (fun h => ?_)
      · simp only [cCmp, cE2, sev, svl, cen, List.cons_append, List.nil_append] at h
        omega
      · rcases hl with ⟨rfl, h1, h2, hl⟩ | ⟨rfl, hl⟩
        · refine d_br (fun h => ?_) (fun h => ?_)
          · simp only [cCmp, cE2, sev, svl, cen, List.cons_append, List.nil_append] at h
            omega
          · refine d_row 0 k (by simp only [cE2, sev, svl, cen, List.cons_append, List.nil_append]; omega) (by simp only [cE2, sev, svl, cen, List.cons_append, List.nil_append]; omega) (by omega) ?_
            refine d_call (m_isLetter hp (x := M 12 0 k)) (by simp [cAs, cE2, sev, svl, cen]) ?_
            rintro rr M' ⟨rfl, hb⟩
            rcases hb with ⟨rfl, hb⟩ | ⟨rfl, hb⟩
            · refine ⟨rfl, ?_⟩
              refine d_br (fun h => ?_) (fun h => ?_)
              · refine d_rng (by simp only [clo, chi, cE2, sev, svl, cen, List.cons_append, List.nil_append]; omega) ?_
                refine d_cut [s, 1, ((k + 1 : Nat) : Int)] (by simp [cE2, sev, svl, cen] <;> omega) ?_
                refine ih (k + 1) 1 (by omega) (by omega) (Or.inl ⟨rfl, h1, h2, fun i a b => ?_⟩)
                by_cases hik : i = k
                · rw [hik]
                  exact Or.inl hb
                · exact hl i a (by omega)
              · simp only [cCmp, cE2, sev, svl, cen, List.cons_append, List.nil_append] at h
                omega
            · refine ⟨rfl, ?_⟩
              refine d_br (fun h => ?_) (fun h => ?_)
              · simp only [cCmp, cE2, sev, svl, cen, List.cons_append, List.nil_append] at h
                omega
              · refine d_br (fun h => ?_) (fun h => ?_)
                · simp only [cCmp, cE2, sev, svl, cen, List.cons_append, List.nil_append] at h
                  refine d_rng (by simp only [clo, chi, cE2, sev, svl, cen, List.cons_append, List.nil_append]; omega) ?_
                  refine d_cut [s, 0, ((k + 1 : Nat) : Int)] (by simp [cE2, sev, svl, cen] <;> omega) ?_
                  refine ih (k + 1) 0 (by omega) (by omega) (Or.inr ⟨rfl, fun q => ?_⟩)
                  rcases q.2.2 k hf (by omega) with q | q
                  · exact hb q
                  · omega
                · simp only [cCmp, cE2, sev, svl, cen, List.cons_append, List.nil_append] at h
                  have hs : s ≠ 0 := by omega
                  refine d_row 0 k (by simp only [cE2, sev, svl, cen, List.cons_append, List.nil_append]; omega) (by simp only [cE2, sev, svl, cen, List.cons_append, List.nil_append]; omega) (by omega) ?_
                  refine d_br (fun h => ?_) (fun h => ?_)
                  · simp only [cCmp, cE2, sev, svl, cen, List.cons_append, List.nil_append] at h
                    refine d_rng (by simp only [clo, chi, cE2, sev, svl, cen, List.cons_append, List.nil_append]; omega) ?_
                    refine d_cut [s, 0, ((k + 1 : Nat) : Int)] (by simp [cE2, sev, svl, cen] <;> omega) ?_
                    refine ih (k + 1) 0 (by omega) (by omega) (Or.inr ⟨rfl, fun q => ?_⟩)
                    rcases q.2.2 k hf (by omega) with q | q
                    · exact hb q
                    · omega
                  · simp only [cCmp, cE2, sev, svl, cen, List.cons_append, List.nil_append] at h
                    refine d_rng (by simp only [clo, chi, cE2, sev, svl, cen, List.cons_append, List.nil_append]; omega) ?_
                    refine d_cut [s, 1, ((k + 1 : Nat) : Int)] (by simp [cE2, sev, svl, cen] <;> omega) ?_
                    refine ih (k + 1) 1 (by omega) (by omega) (Or.inl ⟨rfl, h1, h2, fun i a b => ?_⟩)
                    by_cases hik : i = k
                    · rw [hik]
                      exact Or.inr ⟨hs, by omega⟩
                    · exact hl i a (by omega)
        · refine d_br (fun h => ?_) (fun h => ?_)
          · refine d_rng (by simp only [clo, chi, cE2, sev, svl, cen, List.cons_append, List.nil_append]; omega) ?_
            refine d_cut [s, 0, ((k + 1 : Nat) : Int)] (by simp [cE2, sev, svl, cen] <;> omega) ?_
            exact ih (k + 1) 0 (by omega) (by omega) (Or.inr ⟨rfl, hl⟩)
          · simp only [cCmp, cE2, sev, svl, cen, List.cons_append, List.nil_append] at h
            omega
  refine cEnds_at gX10_areLetters_m0 rfl ?_
  refine d_fld 0 rfl ?_
  refine d_fld 0 rfl ?_
  rw [e2, e3]
  refine d_rng (by simp only [clo, chi, cE2, sev, svl, cen, List.cons_append, List.nil_append]; omega) ?_
  refine d_br (fun h => ?_) (fun h => ?_)
  · simp only [cCmp, cE2, sev, svl, cen, List.cons_append, List.nil_append] at h
    refine d_fld 0 rfl ?_
    rw [e2]
    refine d_cut [s, 0, (fr : Int)] (by simp [cE2, sev, svl, cen] <;> omega) ?_
    exact loop (up - fr) fr 0 (by omega) (Nat.le_refl _) (Or.inr ⟨rfl, fun q => by have := q.1; omega⟩)
  · simp only [cCmp, cE2, sev, svl, cen, List.cons_append, List.nil_append] at h
    refine d_fld 0 rfl ?_
    refine d_fld 0 rfl ?_
    rw [e2, e3]
    refine d_rng (by simp only [clo, chi, cE2, sev, svl, cen, List.cons_append, List.nil_append]; omega) ?_
    refine d_br (fun h => ?_) (fun h => ?_)
    · simp only [cCmp, cE2, sev, svl, cen, List.cons_append, List.nil_append] at h
      refine d_fld 0 rfl ?_
      rw [e2]
      refine d_cut [s, 0, (fr : Int)] (by simp [cE2, sev, svl, cen] <;> omega) ?_
      exact loop (up - fr) fr 0 (by omega) (Nat.le_refl _) (Or.inr ⟨rfl, fun q => by have := q.2.1; omega⟩)
    · simp only [cCmp, cE2, sev, svl, cen, List.cons_append, List.nil_append] at h
      refine d_fld 0 rfl ?_
      rw [e2]
      refine d_cut [s, 1, (fr : Int)] (by simp [cE2, sev, svl, cen] <;> omega) ?_
      exact loop (up - fr) fr 1 (by omega) (Nat.le_refl _) (Or.inl ⟨rfl, by omega, by omega, fun i a b => by omega⟩)
theorem m_isTaped (hp : cPl tm tc tf EX) {M : SMem} {fr up nm : Nat} (hI : sI tg M) (hnm : nm < 8) (e2 : M 1 0 10 = (fr : Int)) (e3 : M 1 0 11 = (up : Int)) (h9 : fr ≤ up ∧ up ≤ 1000) : cBG tm tf EX l dC dI cA ad scrS (d + 1) kX10_isTaped [(2, 1, 0), (0, 0, (nm : Int))] M (fun rr MM => MM = M ∧ ((rr = [1] ∧ wWd (M 20 0) (M 21 0) (M 12 0) fr up nm) ∨ (rr = [0] ∧ ¬ wWd (M 20 0) (M 21 0) (M 12 0) fr up nm))) := by
  refine cMeth (v := [(nm : Int)]) (Fd := 60) hp (by decide) gX10_isTaped_ok gX10_isTaped_m0 (by simp [cAs, cE2, sev, svl, cen]) ?_
  have hb := wIb (f := 20) (i := nm) (lo := 0) (hi := 8) hI 0 rfl
  obtain ⟨sz, hsz⟩ : ∃ sz : Nat, M 20 0 nm = (sz : Int) := ⟨(M 20 0 nm).toNat, by omega⟩
  have loop : ∀ (m k : Nat) (b : Int), k + m = sz → ((b = 1 ∧ M 20 0 nm = (up : Int) - (fr : Int) ∧ ∀ i : Nat, i < k → M 21 0 (8 * nm + i) = M 12 0 (fr + i)) ∨ (b = 0 ∧ ¬ wWd (M 20 0) (M 21 0) (M 12 0) fr up nm)) → cEnds (cBG tm tf EX l dC dI cA ad scrS d) (fun rr MM => MM = M ∧ ((rr = [1] ∧ wWd (M 20 0) (M 21 0) (M 12 0) fr up nm) ∨ (rr = [0] ∧ ¬ wWd (M 20 0) (M 21 0) (M 12 0) fr up nm))) 60 gX10_isTaped 26 [(nm : Int), b, (k : Int)] M := by
    intro m
    induction m with
    | zero =>
      intro k b hk hl
      refine cEnds_at gX10_isTaped_m26 rfl ?_
      refine d_row 0 nm (by simp only [cE2, sev, svl, cen, List.cons_append, List.nil_append]; omega) (by simp only [cE2, sev, svl, cen, List.cons_append, List.nil_append]; omega) hnm ?_
      rw [hsz]
      refine d_br (fun h => ?_) (fun h => ?_)
      · rcases hl with ⟨rfl, he, hl⟩ | ⟨rfl, hl⟩
        · exact d_ret [1] rfl (by decide) ⟨rfl, Or.inl ⟨rfl, he, fun i a => hl i (by omega)⟩⟩
        · exact d_ret [0] rfl (by decide) ⟨rfl, Or.inr ⟨rfl, hl⟩⟩
      · simp only [cCmp, cE2, sev, svl, cen, List.cons_append, List.nil_append] at h
        omega
    | succ m ih =>
      intro k b hk hl
      refine cEnds_at gX10_isTaped_m26 rfl ?_
      refine d_row 0 nm (by simp only [cE2, sev, svl, cen, List.cons_append, List.nil_append]; omega) (by simp only [cE2, sev, svl, cen, List.cons_append, List.nil_append]; omega) hnm ?_
      rw [hsz]
      refine d_br (fun h => ?_) (fun h => ?_)
      · simp only [cCmp, cE2, sev, svl, cen, List.cons_append, List.nil_append] at h
        omega
      · rcases hl with ⟨rfl, he, hl⟩ | ⟨rfl, hl⟩
        · refine d_br (fun h => ?_) (fun h => ?_)
          · simp only [cCmp, cE2, sev, svl, cen, List.cons_append, List.nil_append] at h
            omega
          · refine d_rng (by simp only [clo, chi, cE2, sev, svl, cen, List.cons_append, List.nil_append]; omega) ?_
            refine d_rng (by simp only [clo, chi, cE2, sev, svl, cen, List.cons_append, List.nil_append]; omega) ?_
            refine d_row 0 (8 * nm + k) (by simp only [cE2, sev, svl, cen, List.cons_append, List.nil_append]; omega) (by simp only [cE2, sev, svl, cen, List.cons_append, List.nil_append]; omega) (by omega) ?_
            refine d_fld 0 rfl ?_
            rw [e2]
            refine d_rng (by simp only [clo, chi, cE2, sev, svl, cen, List.cons_append, List.nil_append]; omega) ?_
            refine d_row 0 (fr + k) (by simp only [cE2, sev, svl, cen, List.cons_append, List.nil_append]; omega) (by simp only [cE2, sev, svl, cen, List.cons_append, List.nil_append]; omega) (by omega) ?_
            refine d_br (fun h => ?_) (fun h => ?_)
            · simp only [cCmp, cE2, sev, svl, cen, List.cons_append, List.nil_append] at h
              refine d_rng (by simp only [clo, chi, cE2, sev, svl, cen, List.cons_append, List.nil_append]; omega) ?_
              refine d_cut [(nm : Int), 0, ((k + 1 : Nat) : Int)] (by simp [cE2, sev, svl, cen] <;> omega) ?_
              refine ih (k + 1) 0 (by omega) (Or.inr ⟨rfl, fun q => ?_⟩)
              have := q.2 k (by omega)
              omega
            · simp only [cCmp, cE2, sev, svl, cen, List.cons_append, List.nil_append] at h
              refine d_rng (by simp only [clo, chi, cE2, sev, svl, cen, List.cons_append, List.nil_append]; omega) ?_
              refine d_cut [(nm : Int), 1, ((k + 1 : Nat) : Int)] (by simp [cE2, sev, svl, cen] <;> omega) ?_
              refine ih (k + 1) 1 (by omega) (Or.inl ⟨rfl, he, fun i a => ?_⟩)
              by_cases hik : i = k
              · rw [hik]
                omega
              · exact hl i (by omega)
        · refine d_br (fun h => ?_) (fun h => ?_)
          · exact d_ret [0] rfl (by decide) ⟨rfl, Or.inr ⟨rfl, hl⟩⟩
          · simp only [cCmp, cE2, sev, svl, cen, List.cons_append, List.nil_append] at h
            omega
  refine cEnds_at gX10_isTaped_m0 rfl ?_
  refine d_row 0 nm (by simp only [cE2, sev, svl, cen, List.cons_append, List.nil_append]; omega) (by simp only [cE2, sev, svl, cen, List.cons_append, List.nil_append]; omega) hnm ?_
  refine d_fld 0 rfl ?_
  refine d_fld 0 rfl ?_
  rw [e2, e3]
  refine d_rng (by simp only [clo, chi, cE2, sev, svl, cen, List.cons_append, List.nil_append]; omega) ?_
  refine d_br (fun h => ?_) (fun h => ?_)
  · simp only [cCmp, cE2, sev, svl, cen, List.cons_append, List.nil_append] at h
    refine d_cut [(nm : Int), 0, ((0 : Nat) : Int)] (by simp [cE2, sev, svl, cen] <;> omega) ?_
    exact loop sz 0 0 (by omega) (Or.inr ⟨rfl, fun q => by have := q.1; omega⟩)
  · simp only [cCmp, cE2, sev, svl, cen, List.cons_append, List.nil_append] at h
    refine d_cut [(nm : Int), 1, ((0 : Nat) : Int)] (by simp [cE2, sev, svl, cen] <;> omega) ?_
    exact loop sz 0 1 (by omega) (Or.inl ⟨rfl, by omega, fun i a => by omega⟩)
/-- what the reference's name comes to -/
def wNm (M : SMem) (n : Nat) (a g s r : Int) (MM : SMem) : Prop := sI tg MM ∧ (∀ f j i, f ≠ 1 → ¬ (17 ≤ f ∧ f ≤ 21) → MM f j i = M f j i) ∧ wR (M 12 0) (M 17 0) (M 20 0) (M 21 0) n a g r ∧ wUp (M 12 0) (M 17 0) (M 19 0) (M 18 0) (M 20 0) (M 21 0) n a g s r (MM 17 0) (MM 19 0) (MM 18 0) (MM 20 0) (MM 21 0) ∧ MM 1 0 2 = 0
theorem m_name (hp : cPl tm tc tf EX) {M : SMem} {n : Nat} {a g s : Int} (hI : sI tg M) (hn : M 1 0 2 = (n : Int)) (h9 : n ≤ 1000) (hs : 0 ≤ s ∧ s ≤ 1) : cBG tm tf EX l dC dI cA ad scrS (d + 3) kX10_name [(2, 1, 0), (0, 0, a), (0, 0, g), (0, 0, s)] M (fun rr MM => ∃ r : Int, rr = [r] ∧ wNm M n a g s r MM ∧ -1 ≤ r ∧ r ≤ 2) := by
  refine cMeth (v := [a, g, s]) (Fd := 60) hp (by decide) gX10_name_ok gX10_name_m0 (by simp [cAs, cE2, sev, svl, cen]) ?_
  -- the letters
  have loop2 : ∀ (fr up nm m k : Nat) (M1 : SMem), fr = wf (M 12 0) n → up = wu (M 12 0) n → a = (nm : Int) → nm < 8 → 0 ≤ g ∧ g < 6 → wTx 0 (M 12 0) fr up → up ≤ n → ¬ wOt (M 17 0) (M 20 0) (M 21 0) (M 12 0) fr up nm → k + m = up - fr → sI tg M1 → (∀ f j i, f ≠ 1 → ¬ (17 ≤ f ∧ f ≤ 21) → M1 f j i = M f j i) → M1 17 0 = wSt (M 17 0) nm 1 → M1 19 0 = wSt (M 19 0) nm s → M1 18 0 = wSt (M 18 0) nm g → M1 20 0 = wSt (M 20 0) nm ((up - fr : Nat) : Int) → M1 21 0 = wPt (M 21 0) (M 12 0) fr nm k → M1 1 0 2 = 0 → M1 1 0 10 = (fr : Int) → cEnds (cBG tm tf EX l dC dI cA ad scrS (d + 2)) (fun rr MM => ∃ r : Int, rr = [r] ∧ wNm M n a g s r MM ∧ -1 ≤ r ∧ r ≤ 2) 60 gX10_name 122 [(nm : Int), (k : Int)] M1 := by
    intro fr up nm m
    induction m with
    | zero =>
      intro k M1 hfr hup ha hnm hg ht hun ho hk i1 f1 r17 r19 r18 r20 r21 e4 e2
      have h1 := ht.1
      have h2 := ht.2.1
      refine cEnds_at gX10_name_m122 rfl ?_
      refine d_row 0 nm (by simp only [cE2, sev, svl, cen, List.cons_append, List.nil_append]; omega) (by simp only [cE2, sev, svl, cen, List.cons_append, List.nil_append]; omega) hnm ?_
      rw [show M1 20 0 nm = ((up - fr : Nat) : Int) by rw [r20, wSt_at]]
      refine d_br (fun h => ?_) (fun h => ?_)
      · have ek : k = up - fr := by omega
        refine d_rng (by simp only [clo, chi, cE2, sev, svl, cen, List.cons_append, List.nil_append]; omega) ?_
        refine d_put 0 1 rfl rfl ?_
        subst ha hfr hup ek
        refine d_ret [0] rfl (by decide) ⟨0, rfl, ⟨wI (lo := 0) (hi := 1) i1 rfl ⟨by omega, by omega⟩, fun f j i q1 q2 => by rw [supd_f q1, f1 f j i q1 q2], Or.inr ⟨by omega, Or.inr ⟨ht, Or.inr ⟨rfl, ho⟩⟩⟩, ⟨fun _ => ⟨?_, ?_, ?_, ?_, ?_⟩, fun z => absurd rfl z⟩, by rw [supd_i (by decide)]; exact e4⟩, by omega, by omega⟩
        · rw [supd_ff (by decide), r17]; rfl
        · rw [supd_ff (by decide), r19]; rfl
        · rw [supd_ff (by decide), r18]; rfl
        · rw [supd_ff (by decide), r20]
          show wSt _ nm _ = wSt _ nm _
          congr 1
          omega
        · rw [supd_ff (by decide), r21]; rfl
      · simp only [cCmp, cE2, sev, svl, cen, List.cons_append, List.nil_append] at h
        omega
    | succ m ih =>
      intro k M1 hfr hup ha hnm hg ht hun ho hk i1 f1 r17 r19 r18 r20 r21 e4 e2
      have h1 := ht.1
      have h2 := ht.2.1
      refine cEnds_at gX10_name_m122 rfl ?_
      refine d_row 0 nm (by simp only [cE2, sev, svl, cen, List.cons_append, List.nil_append]; omega) (by simp only [cE2, sev, svl, cen, List.cons_append, List.nil_append]; omega) hnm ?_
      rw [show M1 20 0 nm = ((up - fr : Nat) : Int) by rw [r20, wSt_at]]
      refine d_br (fun h => ?_) (fun h => ?_)
      · simp only [cCmp, cE2, sev, svl, cen, List.cons_append, List.nil_append] at h
        omega
      · refine d_rng (by simp only [clo, chi, cE2, sev, svl, cen, List.cons_append, List.nil_append]; omega) ?_
        refine d_rng (by simp only [clo, chi, cE2, sev, svl, cen, List.cons_append, List.nil_append]; omega) ?_
        refine d_fld 0 rfl ?_
        rw [e2]
        refine d_rng (by simp only [clo, chi, cE2, sev, svl, cen, List.cons_append, List.nil_append]; omega) ?_
        refine d_row 0 (fr + k) (by simp only [cE2, sev, svl, cen, List.cons_append, List.nil_append]; omega) (by simp only [cE2, sev, svl, cen, List.cons_append, List.nil_append]; omega) (by omega) ?_
        rw [f1 12 0 (fr + k) (by decide) (by decide)]
        have hT := wIb (f := 12) (i := fr + k) (lo := 0) (hi := 126) hI 0 rfl
        refine d_set 0 (8 * nm + k) (M 12 0 (fr + k)) (by simp only [cE2, sev, svl, cen, List.cons_append, List.nil_append]; omega) (by simp only [cE2, sev, svl, cen, List.cons_append, List.nil_append]; omega) (by omega) (by simp only [cE2, sev, svl, cen, List.cons_append, List.nil_append]; omega) ?_
        refine d_rng (by simp only [clo, chi, cE2, sev, svl, cen, List.cons_append, List.nil_append]; omega) ?_
        refine d_cut [(nm : Int), ((k + 1 : Nat) : Int)] (by simp [cE2, sev, svl, cen] <;> omega) ?_
        refine ih (k + 1) _ hfr hup ha hnm hg ht hun ho (by omega) (wI (lo := 0) (hi := 126) i1 rfl ⟨by omega, by omega⟩) (fun f j i q1 q2 => by rw [supd_f (by omega), f1 f j i q1 q2]) (by rw [supd_ff (by decide), r17]) (by rw [supd_ff (by decide), r19]) (by rw [supd_ff (by decide), r18]) (by rw [supd_ff (by decide), r20]) (by rw [supd_row, r21, wPt_s]) (by rw [supd_f (by decide)]; exact e4) (by rw [supd_f (by decide)]; exact e2)
  -- is it another's
  have loop1 : ∀ (fr up nm m k : Nat) (M1 : SMem), fr = wf (M 12 0) n → up = wu (M 12 0) n → a = (nm : Int) → nm < 8 → 0 ≤ g ∧ g < 6 → wTx 0 (M 12 0) fr up → up ≤ n → k + m = 8 → (∀ i : Nat, i < k → ¬ (i ≠ nm ∧ M 17 0 i ≠ 0 ∧ wWd (M 20 0) (M 21 0) (M 12 0) fr up i)) → sI tg M1 → (∀ f j i, f ≠ 1 → M1 f j i = M f j i) → M1 1 0 2 = 0 → M1 1 0 10 = (fr : Int) → M1 1 0 11 = (up : Int) → cEnds (cBG tm tf EX l dC dI cA ad scrS (d + 2)) (fun rr MM => ∃ r : Int, rr = [r] ∧ wNm M n a g s r MM ∧ -1 ≤ r ∧ r ≤ 2) 60 gX10_name 43 [(nm : Int), g, s, (k : Int)] M1 := by
    intro fr up nm m
    induction m with
    | zero =>
      intro k M1 hfr hup ha hnm hg ht hun hk hl i1 f1 e4 e2 e3
      have h1 := ht.1
      have h2 := ht.2.1
      have r1 : ∀ f, f ≠ 1 → M1 f = M f := fun f q => by
        funext j i
        exact f1 f j i q
      refine cEnds_at gX10_name_m43 rfl ?_
      refine d_br (fun h => ?_) (fun h => ?_)
      · refine d_rng (by simp only [clo, chi, cE2, sev, svl, cen, List.cons_append, List.nil_append]; omega) ?_
        refine d_set 0 nm 1 (by simp only [cE2, sev, svl, cen, List.cons_append, List.nil_append]; omega) (by simp only [cE2, sev, svl, cen, List.cons_append, List.nil_append]; omega) hnm (by simp only [cE2, sev, svl, cen, List.cons_append, List.nil_append]; omega) ?_
        refine d_set 0 nm g (by simp only [cE2, sev, svl, cen, List.cons_append, List.nil_append]; omega) (by simp only [cE2, sev, svl, cen, List.cons_append, List.nil_append]; omega) hnm (by simp only [cE2, sev, svl, cen, List.cons_append, List.nil_append]; omega) ?_
        refine d_rng (by simp only [clo, chi, cE2, sev, svl, cen, List.cons_append, List.nil_append]; omega) ?_
        refine d_set 0 nm s (by simp only [cE2, sev, svl, cen, List.cons_append, List.nil_append]; omega) (by simp only [cE2, sev, svl, cen, List.cons_append, List.nil_append]; omega) hnm (by simp only [cE2, sev, svl, cen, List.cons_append, List.nil_append]; omega) ?_
        refine d_fld 0 rfl ?_
        refine d_fld 0 rfl ?_
        rw [supd_f (by decide), supd_f (by decide), supd_f (by decide), supd_f (by decide), supd_f (by decide), supd_f (by decide), e2, e3]
        refine d_rng (by simp only [clo, chi, cE2, sev, svl, cen, List.cons_append, List.nil_append]; omega) ?_
        refine d_set 0 nm ((up - fr : Nat) : Int) (by simp only [cE2, sev, svl, cen, List.cons_append, List.nil_append]; omega) (by simp only [cE2, sev, svl, cen, List.cons_append, List.nil_append]; omega) hnm (by simp only [cE2, sev, svl, cen, List.cons_append, List.nil_append]; omega) ?_
        refine d_cut [(nm : Int), ((0 : Nat) : Int)] (by simp [cE2, sev, svl, cen] <;> omega) ?_
        refine loop2 fr up nm (up - fr) 0 _ hfr hup ha hnm hg ht hun (fun q => by
          obtain ⟨i, hi, q⟩ := q
          exact hl i (by omega) q) (by omega) (wI (lo := 0) (hi := 8) (wI (lo := 0) (hi := 1) (wI (lo := 0) (hi := 5) (wI (lo := 0) (hi := 1) i1 rfl ⟨by omega, by omega⟩) rfl ⟨by omega, by omega⟩) rfl hs) rfl ⟨by omega, by omega⟩) (fun f j i q1 q2 => by rw [supd_f (by omega), supd_f (by omega), supd_f (by omega), supd_f (by omega), f1 f j i q1]) ?_ ?_ ?_ ?_ ?_ ?_ ?_
        · rw [supd_ff (by decide), supd_ff (by decide), supd_ff (by decide), supd_row, r1 17 (by decide)]
        · rw [supd_ff (by decide), supd_row, supd_ff (by decide), supd_ff (by decide), r1 19 (by decide)]
        · rw [supd_ff (by decide), supd_ff (by decide), supd_row, supd_ff (by decide), r1 18 (by decide)]
        · rw [supd_row, supd_ff (by decide), supd_ff (by decide), supd_ff (by decide), r1 20 (by decide)]
        · rw [supd_ff (by decide), supd_ff (by decide), supd_ff (by decide), supd_ff (by decide), r1 21 (by decide), wPt_0]
        · rw [supd_f (by decide), supd_f (by decide), supd_f (by decide), supd_f (by decide)]
          exact e4
        · rw [supd_f (by decide), supd_f (by decide), supd_f (by decide), supd_f (by decide)]
          exact e2
      · simp only [cCmp, cE2, sev, svl, cen, List.cons_append, List.nil_append] at h
        omega
    | succ m ih =>
      intro k M1 hfr hup ha hnm hg ht hun hk hl i1 f1 e4 e2 e3
      have h1 := ht.1
      have h2 := ht.2.1
      have r1 : ∀ f, f ≠ 1 → M1 f = M f := fun f q => by
        funext j i
        exact f1 f j i q
      have nx : ¬ (k ≠ nm ∧ M 17 0 k ≠ 0 ∧ wWd (M 20 0) (M 21 0) (M 12 0) fr up k) → cEnds (cBG tm tf EX l dC dI cA ad scrS (d + 2)) (fun rr MM => ∃ r : Int, rr = [r] ∧ wNm M n a g s r MM ∧ -1 ≤ r ∧ r ≤ 2) 60 gX10_name 43 [(nm : Int), g, s, ((k + 1 : Nat) : Int)] M1 := fun hq => ih (k + 1) M1 hfr hup ha hnm hg ht hun (by omega) (fun i a => by
        by_cases hik : i = k
        · rw [hik]
          exact hq
        · exact hl i (by omega)) i1 f1 e4 e2 e3
      refine cEnds_at gX10_name_m43 rfl ?_
      refine d_br (fun h => ?_) (fun h => ?_)
      · simp only [cCmp, cE2, sev, svl, cen, List.cons_append, List.nil_append] at h
        omega
      · refine d_br (fun h => ?_) (fun h => ?_)
        · simp only [cCmp, cE2, sev, svl, cen, List.cons_append, List.nil_append] at h
          refine d_rng (by simp only [clo, chi, cE2, sev, svl, cen, List.cons_append, List.nil_append]; omega) ?_
          refine d_cut [(nm : Int), g, s, ((k + 1 : Nat) : Int)] (by simp [cE2, sev, svl, cen] <;> omega) ?_
          exact nx (fun q => by have := q.1; omega)
        · simp only [cCmp, cE2, sev, svl, cen, List.cons_append, List.nil_append] at h
          refine d_row 0 k (by simp only [cE2, sev, svl, cen, List.cons_append, List.nil_append]; omega) (by simp only [cE2, sev, svl, cen, List.cons_append, List.nil_append]; omega) (by omega) ?_
          rw [r1 17 (by decide)]
          refine d_br (fun h => ?_) (fun h => ?_)
          · simp only [cCmp, cE2, sev, svl, cen, List.cons_append, List.nil_append] at h
            refine d_rng (by simp only [clo, chi, cE2, sev, svl, cen, List.cons_append, List.nil_append]; omega) ?_
            refine d_cut [(nm : Int), g, s, ((k + 1 : Nat) : Int)] (by simp [cE2, sev, svl, cen] <;> omega) ?_
            exact nx (fun q => by have := q.2.1; omega)
          · simp only [cCmp, cE2, sev, svl, cen, List.cons_append, List.nil_append] at h
            have h17 : M 17 0 k ≠ 0 := by omega
            refine d_call (m_isTaped hp (nm := k) i1 (by omega) e2 e3 (by omega)) (by simp [cAs, cE2, sev, svl, cen]) ?_
            rintro rr M' ⟨rfl, hb⟩
            rw [r1 20 (by decide), r1 21 (by decide), r1 12 (by decide)] at hb
            rcases hb with ⟨rfl, hb⟩ | ⟨rfl, hb⟩
            · refine ⟨rfl, ?_⟩
              refine d_br (fun h => ?_) (fun h => ?_)
              · simp only [cCmp, cE2, sev, svl, cen, List.cons_append, List.nil_append] at h
                omega
              · subst ha hfr hup
                refine d_ret [2] rfl (by decide) ⟨2, rfl, ⟨i1, fun f j i q1 _ => f1 f j i q1, Or.inr ⟨by omega, Or.inr ⟨ht, Or.inl ⟨rfl, k, by omega, by omega, h17, hb⟩⟩⟩, ⟨fun z => by omega, fun _ => ⟨?_, ?_, ?_, ?_, ?_⟩⟩, e4⟩, by omega, by omega⟩ <;> rw [r1 _ (by decide)]
            · refine ⟨rfl, ?_⟩
              refine d_br (fun h => ?_) (fun h => ?_)
              · refine d_rng (by simp only [clo, chi, cE2, sev, svl, cen, List.cons_append, List.nil_append]; omega) ?_
                refine d_cut [(nm : Int), g, s, ((k + 1 : Nat) : Int)] (by simp [cE2, sev, svl, cen] <;> omega) ?_
                exact nx (fun q => hb q.2.2)
              · simp only [cCmp, cE2, sev, svl, cen, List.cons_append, List.nil_append] at h
                omega
  refine cEnds_at gX10_name_m0 rfl ?_
  refine d_put 0 0 rfl rfl ?_
  have i0 : sI tg (supd M 1 0 0 0) := wI (lo := 0) (hi := 1) hI rfl ⟨by omega, by omega⟩
  have f0 : ∀ f j i, f ≠ 1 → supd M 1 0 0 0 f j i = M f j i := fun f j i q => supd_f q
  refine d_call (m_bares hp (n := n) (by rw [supd_i (by decide)]; exact hn) h9 i0) (by simp [cAs, cE2, sev, svl, cen]) ?_
  rintro rr M1 ⟨rfl, i1, f1, e2, e3, e4, e5⟩
  refine ⟨rfl, ?_⟩
  rw [supd_ff (by decide)] at e2 e3
  have f1 : ∀ f j i, f ≠ 1 → M1 f j i = M f j i := fun f j i q => by rw [f1 f j i q, f0 f j i q]
  have r1 : ∀ f, f ≠ 1 → M1 f = M f := fun f q => by
    funext j i
    exact f1 f j i q
  have hfu := wfu (M 12 0) n
  have hno : ¬ (0 ≤ a ∧ a < 8 ∧ 0 ≤ g ∧ g < 6) → wNm M n a g s (-1) M1 := fun q => ⟨i1, fun f j i q1 _ => f1 f j i q1, Or.inl ⟨rfl, q⟩, ⟨fun z => by omega, fun _ => ⟨by rw [r1 _ (by decide)], by rw [r1 _ (by decide)], by rw [r1 _ (by decide)], by rw [r1 _ (by decide)], by rw [r1 _ (by decide)]⟩⟩, e4⟩
  refine d_call (m_within hp (x := a) (y := 0) (z := 7)) (by simp [cAs, cE2, sev, svl, cen]) ?_
  rintro rr M' ⟨rfl, hb⟩
  rcases hb with ⟨rfl, ha⟩ | ⟨rfl, ha⟩
  · refine ⟨rfl, ?_⟩
    refine d_br (fun h => ?_) (fun h => ?_)
    · simp only [cCmp, cE2, sev, svl, cen, List.cons_append, List.nil_append] at h
      omega
    · refine d_call (m_within hp (x := g) (y := 0) (z := 5)) (by simp [cAs, cE2, sev, svl, cen]) ?_
      rintro rr M' ⟨rfl, hb⟩
      rcases hb with ⟨rfl, hg⟩ | ⟨rfl, hg⟩
      · refine ⟨rfl, ?_⟩
        refine d_br (fun h => ?_) (fun h => ?_)
        · refine d_call (m_areLetters hp (s := 0) e2 e3 (by omega)) (by simp [cAs, cE2, sev, svl, cen]) ?_
          rintro rr M' ⟨rfl, hb⟩
          rw [r1 12 (by decide)] at hb
          rcases hb with ⟨rfl, ht⟩ | ⟨rfl, ht⟩
          · refine ⟨rfl, ?_⟩
            refine d_br (fun h => ?_) (fun h => ?_)
            · obtain ⟨nm, ea⟩ : ∃ nm : Nat, a = (nm : Int) := ⟨a.toNat, by omega⟩
              refine d_cut [(nm : Int), g, s, ((0 : Nat) : Int)] (by simp [cE2, sev, svl, cen] <;> omega) ?_
              exact loop1 _ _ nm 8 0 _ rfl rfl ea (by omega) (by omega) ht (by omega) (by omega) (fun i a => by omega) i1 f1 e4 e2 e3
            · simp only [cCmp, cE2, sev, svl, cen, List.cons_append, List.nil_append] at h
              omega
          · refine ⟨rfl, ?_⟩
            refine d_br (fun h => ?_) (fun h => ?_)
            · simp only [cCmp, cE2, sev, svl, cen, List.cons_append, List.nil_append] at h
              omega
            · refine d_ret [1] rfl (by decide) ⟨1, rfl, ⟨i1, fun f j i q1 _ => f1 f j i q1, Or.inr ⟨by omega, Or.inl ⟨rfl, ht⟩⟩, ⟨fun z => by omega, fun _ => ⟨?_, ?_, ?_, ?_, ?_⟩⟩, e4⟩, by omega, by omega⟩ <;> rw [r1 _ (by decide)]
        · simp only [cCmp, cE2, sev, svl, cen, List.cons_append, List.nil_append] at h
          omega
      · refine ⟨rfl, ?_⟩
        refine d_br (fun h => ?_) (fun h => ?_)
        · simp only [cCmp, cE2, sev, svl, cen, List.cons_append, List.nil_append] at h
          omega
        · exact d_ret [-1] rfl (by decide) ⟨-1, rfl, hno (by omega), by omega, by omega⟩
  · refine ⟨rfl, ?_⟩
    refine d_br (fun h => ?_) (fun h => ?_)
    · exact d_ret [-1] rfl (by decide) ⟨-1, rfl, hno (by omega), by omega, by omega⟩
    · simp only [cCmp, cE2, sev, svl, cen, List.cons_append, List.nil_append] at h
      omega
end CM1
