/-! the reference's rules, method by method -/
section CO11
variable {EX : SEx} {l : Launch} {dC : Nat → ClassId} {dI : Nat → Nat → Nat} {cA : Nat → ClassId} {ad : SAd} {scrS d : Nat}
variable {T : Nat → Int} {L N n e : Nat} {M : SMem}
theorem m_isWord (hp : cPl tm tc tf EX) {w : Nat} (hS : oRS T L N n e M) (hw : w < 15) : cBG tm tf EX l dC dI cA ad scrS (d + 1) kX10_isWord [(2, 1, 0), (0, 0, (w : Int))] M (fun rr MM => MM = M ∧ ((rr = [1] ∧ (M 1 0 8 = 0 ∧ oK T L (oIx T L n) = w)) ∨ (rr = [0] ∧ ¬ (M 1 0 8 = 0 ∧ oK T L (oIx T L n) = w)))) := by
  have hi := oRS_i hS
  have key := (oMt_k (hS.2.1.2.2.2 n hi.2.1)).2.2.2.1 w hw hS.2.2.1
  refine cMeth (v := [(w : Int)]) (Fd := 90) hp (by decide) gX10_isWord_ok gX10_isWord_m0 (by simp [cAs, cE2, sev, svl, cen]) ?_
  refine cEnds_at gX10_isWord_m0 rfl ?_
  refine d_fld 0 (by simp only [cE2, sev, svl, cen, List.cons_append, List.nil_append]; omega) ?_
  refine d_br (fun h => ?_) (fun h => ?_)
  · simp only [cCmp, cE2, sev, svl, cen, List.cons_append, List.nil_append] at h
    first
    | omega
    | skip
      exact d_ret [0] rfl (by decide) ⟨rfl, Or.inr ⟨rfl, fun q => by have := q.1; omega⟩⟩
  · simp only [cCmp, cE2, sev, svl, cen, List.cons_append, List.nil_append] at h
    first
    | omega
    | skip
      refine d_fld 0 (by simp only [cE2, sev, svl, cen, List.cons_append, List.nil_append]; omega) ?_
      rw [hS.2.2.2.1]
      refine d_row 0 n (by simp only [cE2, sev, svl, cen, List.cons_append, List.nil_append]; omega) (by simp only [cE2, sev, svl, cen, List.cons_append, List.nil_append]; omega) (by omega) ?_
      refine d_br (fun h => ?_) (fun h => ?_)
      · simp only [cCmp, cE2, sev, svl, cen, List.cons_append, List.nil_append] at h
        first
        | omega
        | skip
          exact d_ret [0] rfl (by decide) ⟨rfl, Or.inr ⟨rfl, fun q => by have := key.mpr q.2; omega⟩⟩
      · simp only [cCmp, cE2, sev, svl, cen, List.cons_append, List.nil_append] at h
        first
        | omega
        | skip
          refine d_fld 0 (by simp only [cE2, sev, svl, cen, List.cons_append, List.nil_append]; omega) ?_
          rw [hS.2.2.2.1]
          refine d_row 0 n (by simp only [cE2, sev, svl, cen, List.cons_append, List.nil_append]; omega) (by simp only [cE2, sev, svl, cen, List.cons_append, List.nil_append]; omega) (by omega) ?_
          refine d_row 0 w (by simp only [cE2, sev, svl, cen, List.cons_append, List.nil_append]; omega) (by simp only [cE2, sev, svl, cen, List.cons_append, List.nil_append]; omega) (by omega) ?_
          refine d_br (fun h => ?_) (fun h => ?_)
          · simp only [cCmp, cE2, sev, svl, cen, List.cons_append, List.nil_append] at h
            first
            | omega
            | skip
              exact d_ret [0] rfl (by decide) ⟨rfl, Or.inr ⟨rfl, fun q => by have := key.mpr q.2; omega⟩⟩
          · simp only [cCmp, cE2, sev, svl, cen, List.cons_append, List.nil_append] at h
            first
            | omega
            | skip
              refine d_br (fun h => ?_) (fun h => ?_)
              · simp only [cCmp, cE2, sev, svl, cen, List.cons_append, List.nil_append] at h
                first
                | omega
                | skip
                  exact d_ret [1] rfl (by decide) ⟨rfl, Or.inl ⟨rfl, by omega, key.mp ⟨by omega, by omega⟩⟩⟩
              · simp only [cCmp, cE2, sev, svl, cen, List.cons_append, List.nil_append] at h
                first
                | omega
                | skip
                  exact d_ret [0] rfl (by decide) ⟨rfl, Or.inr ⟨rfl, fun q => by have := key.mpr q.2; omega⟩⟩
theorem m_isSign (hp : cPl tm tc tf EX) {c : Int} (hS : oRS T L N n e M) (hc : oSg c ≠ 25) : cBG tm tf EX l dC dI cA ad scrS (d + 1) kX10_isSign [(2, 1, 0), (0, 0, c)] M (fun rr MM => MM = M ∧ ((rr = [1] ∧ (M 1 0 8 = 0 ∧ oK T L (oIx T L n) = oSg c)) ∨ (rr = [0] ∧ ¬ (M 1 0 8 = 0 ∧ oK T L (oIx T L n) = oSg c)))) := by
  have hi := oRS_i hS
  have key := (oMt_k (hS.2.1.2.2.2 n hi.2.1)).2.2.2.2 c hc
  refine cMeth (v := [c]) (Fd := 90) hp (by decide) gX10_isSign_ok gX10_isSign_m0 (by simp [cAs, cE2, sev, svl, cen]) ?_
  refine cEnds_at gX10_isSign_m0 rfl ?_
  refine d_fld 0 (by simp only [cE2, sev, svl, cen, List.cons_append, List.nil_append]; omega) ?_
  refine d_br (fun h => ?_) (fun h => ?_)
  · simp only [cCmp, cE2, sev, svl, cen, List.cons_append, List.nil_append] at h
    first
    | omega
    | skip
      exact d_ret [0] rfl (by decide) ⟨rfl, Or.inr ⟨rfl, fun q => by have := q.1; omega⟩⟩
  · simp only [cCmp, cE2, sev, svl, cen, List.cons_append, List.nil_append] at h
    first
    | omega
    | skip
      refine d_fld 0 (by simp only [cE2, sev, svl, cen, List.cons_append, List.nil_append]; omega) ?_
      rw [hS.2.2.2.1]
      refine d_row 0 n (by simp only [cE2, sev, svl, cen, List.cons_append, List.nil_append]; omega) (by simp only [cE2, sev, svl, cen, List.cons_append, List.nil_append]; omega) (by omega) ?_
      refine d_br (fun h => ?_) (fun h => ?_)
      · simp only [cCmp, cE2, sev, svl, cen, List.cons_append, List.nil_append] at h
        first
        | omega
        | skip
          exact d_ret [0] rfl (by decide) ⟨rfl, Or.inr ⟨rfl, fun q => by have := key.mpr q.2; omega⟩⟩
      · simp only [cCmp, cE2, sev, svl, cen, List.cons_append, List.nil_append] at h
        first
        | omega
        | skip
          refine d_fld 0 (by simp only [cE2, sev, svl, cen, List.cons_append, List.nil_append]; omega) ?_
          rw [hS.2.2.2.1]
          refine d_row 0 n (by simp only [cE2, sev, svl, cen, List.cons_append, List.nil_append]; omega) (by simp only [cE2, sev, svl, cen, List.cons_append, List.nil_append]; omega) (by omega) ?_
          refine d_br (fun h => ?_) (fun h => ?_)
          · simp only [cCmp, cE2, sev, svl, cen, List.cons_append, List.nil_append] at h
            first
            | omega
            | skip
              exact d_ret [0] rfl (by decide) ⟨rfl, Or.inr ⟨rfl, fun q => by have := key.mpr q.2; omega⟩⟩
          · simp only [cCmp, cE2, sev, svl, cen, List.cons_append, List.nil_append] at h
            first
            | omega
            | skip
              refine d_br (fun h => ?_) (fun h => ?_)
              · simp only [cCmp, cE2, sev, svl, cen, List.cons_append, List.nil_append] at h
                first
                | omega
                | skip
                  exact d_ret [1] rfl (by decide) ⟨rfl, Or.inl ⟨rfl, by omega, key.mp ⟨by omega, by omega⟩⟩⟩
              · simp only [cCmp, cE2, sev, svl, cen, List.cons_append, List.nil_append] at h
                first
                | omega
                | skip
                  exact d_ret [0] rfl (by decide) ⟨rfl, Or.inr ⟨rfl, fun q => by have := key.mpr q.2; omega⟩⟩
theorem m_wrong (hp : cPl tm tc tf EX) {k : Int} (hS : oRS T L N n e M) (h8 : M 1 0 8 = 0) (hk : 0 < k ∧ k ≤ 5) : cBG tm tf EX l dC dI cA ad scrS (d + 1) kX10_wrong [(2, 1, 0), (0, 0, k)] M (fun rr MM => rr = [] ∧ MM = supd M 1 0 8 (k + 16 * (oIx T L n : Int))) := by
  have hi := oRS_i hS
  have h14 := (hS.2.1.2.2.2 n hi.2.1).1
  have hx := oIx_le (T := T) (L := L) n
  have hL : L ≤ 1000 := by
    have b := wIb (f := 14) (i := N) (lo := 0) (hi := 1000) hS.1 0 rfl
    have := (hS.2.1.2.2.2 N (Nat.le_refl _)).1
    have := hS.2.1.2.1
    omega
  refine cMeth (v := [k]) (Fd := 90) hp (by decide) gX10_wrong_ok gX10_wrong_m0 (by simp [cAs, cE2, sev, svl, cen]) ?_
  refine cEnds_at gX10_wrong_m0 rfl ?_
  refine d_fld 0 (by simp only [cE2, sev, svl, cen, List.cons_append, List.nil_append]; omega) ?_
  rw [h8]
  refine d_br (fun h => ?_) (fun h => ?_)
  · simp only [cCmp, cE2, sev, svl, cen, List.cons_append, List.nil_append] at h
    omega
  · clear h
    refine d_fld 0 (by simp only [cE2, sev, svl, cen, List.cons_append, List.nil_append]; omega) ?_
    rw [hS.2.2.2.1]
    refine d_row 0 n (by simp only [cE2, sev, svl, cen, List.cons_append, List.nil_append]; omega) (by simp only [cE2, sev, svl, cen, List.cons_append, List.nil_append]; omega) (by omega) ?_
    rw [h14]
    refine d_rng (by simp only [clo, chi, cE2, sev, svl, cen, List.cons_append, List.nil_append]; omega) ?_
    refine d_rng (by simp only [clo, chi, cE2, sev, svl, cen, List.cons_append, List.nil_append]; omega) ?_
    refine d_put 0 (k + 16 * ((oIx T L n : Nat) : Int)) (by simp only [cE2, sev, svl, cen, List.cons_append, List.nil_append]; omega) (by simp only [cE2, sev, svl, cen, List.cons_append, List.nil_append]; omega) ?_
    exact d_ret [] rfl (by decide) ⟨rfl, rfl⟩
theorem m_wrong0 (hp : cPl tm tc tf EX) {k : Int} (h8 : M 1 0 8 ≠ 0) : cBG tm tf EX l dC dI cA ad scrS (d + 1) kX10_wrong [(2, 1, 0), (0, 0, k)] M (fun rr MM => rr = [] ∧ MM = M) := by
  refine cMeth (v := [k]) (Fd := 90) hp (by decide) gX10_wrong_ok gX10_wrong_m0 (by simp [cAs, cE2, sev, svl, cen]) ?_
  refine cEnds_at gX10_wrong_m0 rfl ?_
  refine d_fld 0 (by simp only [cE2, sev, svl, cen, List.cons_append, List.nil_append]; omega) ?_
  refine d_br (fun h => ?_) (fun h => ?_)
  · simp only [cCmp, cE2, sev, svl, cen, List.cons_append, List.nil_append] at h
    first
    | omega
    | skip
      exact d_ret [] rfl (by decide) ⟨rfl, rfl⟩
  · simp only [cCmp, cE2, sev, svl, cen, List.cons_append, List.nil_append] at h
    first
    | omega
    | skip
      refine d_fld 0 (by simp only [cE2, sev, svl, cen, List.cons_append, List.nil_append]; omega) ?_
      refine d_row 0 (((M 1 0 7)).toNat) (by simp only [cE2, sev, svl, cen, List.cons_append, List.nil_append]; omega) (by simp only [cE2, sev, svl, cen, List.cons_append, List.nil_append]; omega) (by omega) ?_
      refine d_rng (by simp only [clo, chi, cE2, sev, svl, cen, List.cons_append, List.nil_append]; omega) ?_
      refine d_rng (by simp only [clo, chi, cE2, sev, svl, cen, List.cons_append, List.nil_append]; omega) ?_
      refine d_put 0 (k + 16 * (M 14 0 (((M 1 0 7)).toNat))) (by simp only [cE2, sev, svl, cen, List.cons_append, List.nil_append]; omega) (by simp only [cE2, sev, svl, cen, List.cons_append, List.nil_append]; omega) ?_
      exact d_ret [] rfl (by decide) (by omega)
theorem m_hasSign (hp : cPl tm tc tf EX) {c : Int} (hS : oRS T L N n e M) (hc : oSg c ≠ 25) : cBG tm tf EX l dC dI cA ad scrS (d + 2) kX10_hasSign [(2, 1, 0), (0, 0, c)] M (fun rr MM => (rr = [1] ∧ (M 1 0 8 = 0 ∧ oK T L (oIx T L n) = oSg c) ∧ MM = supd M 1 0 7 ((n : Int) + 1)) ∨ (rr = [0] ∧ ¬ (M 1 0 8 = 0 ∧ oK T L (oIx T L n) = oSg c) ∧ MM = M)) := by
  have hi := oRS_i hS
  refine cMeth (v := [c]) (Fd := 90) hp (by decide) gX10_hasSign_ok gX10_hasSign_m0 (by simp [cAs, cE2, sev, svl, cen]) ?_
  refine cEnds_at gX10_hasSign_m0 rfl ?_
  refine d_call (m_isSign hp (c := c) hS hc) (by simp [cAs, cE2, sev, svl, cen] <;> omega) ?_
  intro rr M' hq
  obtain ⟨hM', hq⟩ := hq
  rw [hM']
  rcases hq with ⟨rfl, q1⟩ | ⟨rfl, q1⟩
  · refine ⟨rfl, ?_⟩
    refine d_fld 0 (by simp only [cE2, sev, svl, cen, List.cons_append, List.nil_append]; omega) ?_
    rw [hS.2.2.2.1]
    refine d_br (fun h => ?_) (fun h => ?_)
    · simp only [cCmp, cE2, sev, svl, cen, List.cons_append, List.nil_append] at h
      omega
    · clear h
      refine d_rng (by simp only [clo, chi, cE2, sev, svl, cen, List.cons_append, List.nil_append]; omega) ?_
      refine d_put 0 ((n : Int) + 1) (by simp only [cE2, sev, svl, cen, List.cons_append, List.nil_append]; omega) (by simp only [cE2, sev, svl, cen, List.cons_append, List.nil_append]; omega) ?_
      exact d_ret [1] rfl (by decide) (Or.inl ⟨rfl, q1, rfl⟩)
  · refine ⟨rfl, ?_⟩
    refine d_fld 0 (by simp only [cE2, sev, svl, cen, List.cons_append, List.nil_append]; omega) ?_
    rw [hS.2.2.2.1]
    refine d_br (fun h => ?_) (fun h => ?_)
    · clear h
      refine d_rng (by simp only [clo, chi, cE2, sev, svl, cen, List.cons_append, List.nil_append]; omega) ?_
      refine d_put 0 (n : Int) (by simp only [cE2, sev, svl, cen, List.cons_append, List.nil_append]; omega) (by simp only [cE2, sev, svl, cen, List.cons_append, List.nil_append]; omega) ?_
      exact d_ret [0] rfl (by decide) (Or.inr ⟨rfl, q1, supd_same hS.2.2.2.1⟩)
    · simp only [cCmp, cE2, sev, svl, cen, List.cons_append, List.nil_append] at h
      omega
theorem m_hasWord (hp : cPl tm tc tf EX) {w : Nat} (hS : oRS T L N n e M) (hw : w < 15) : cBG tm tf EX l dC dI cA ad scrS (d + 2) kX10_hasWord [(2, 1, 0), (0, 0, (w : Int))] M (fun rr MM => (rr = [1] ∧ (M 1 0 8 = 0 ∧ oK T L (oIx T L n) = w) ∧ MM = supd M 1 0 7 ((n : Int) + 1)) ∨ (rr = [0] ∧ ¬ (M 1 0 8 = 0 ∧ oK T L (oIx T L n) = w) ∧ MM = M)) := by
  have hi := oRS_i hS
  refine cMeth (v := [(w : Int)]) (Fd := 90) hp (by decide) gX10_hasWord_ok gX10_hasWord_m0 (by simp [cAs, cE2, sev, svl, cen]) ?_
  refine cEnds_at gX10_hasWord_m0 rfl ?_
  refine d_call (m_isWord hp (w := w) hS hw) (by simp [cAs, cE2, sev, svl, cen] <;> omega) ?_
  intro rr M' hq
  obtain ⟨hM', hq⟩ := hq
  rw [hM']
  rcases hq with ⟨rfl, q1⟩ | ⟨rfl, q1⟩
  · refine ⟨rfl, ?_⟩
    refine d_fld 0 (by simp only [cE2, sev, svl, cen, List.cons_append, List.nil_append]; omega) ?_
    rw [hS.2.2.2.1]
    refine d_br (fun h => ?_) (fun h => ?_)
    · simp only [cCmp, cE2, sev, svl, cen, List.cons_append, List.nil_append] at h
      omega
    · clear h
      refine d_rng (by simp only [clo, chi, cE2, sev, svl, cen, List.cons_append, List.nil_append]; omega) ?_
      refine d_put 0 ((n : Int) + 1) (by simp only [cE2, sev, svl, cen, List.cons_append, List.nil_append]; omega) (by simp only [cE2, sev, svl, cen, List.cons_append, List.nil_append]; omega) ?_
      exact d_ret [1] rfl (by decide) (Or.inl ⟨rfl, q1, rfl⟩)
  · refine ⟨rfl, ?_⟩
    refine d_fld 0 (by simp only [cE2, sev, svl, cen, List.cons_append, List.nil_append]; omega) ?_
    rw [hS.2.2.2.1]
    refine d_br (fun h => ?_) (fun h => ?_)
    · clear h
      refine d_rng (by simp only [clo, chi, cE2, sev, svl, cen, List.cons_append, List.nil_append]; omega) ?_
      refine d_put 0 (n : Int) (by simp only [cE2, sev, svl, cen, List.cons_append, List.nil_append]; omega) (by simp only [cE2, sev, svl, cen, List.cons_append, List.nil_append]; omega) ?_
      exact d_ret [0] rfl (by decide) (Or.inr ⟨rfl, q1, supd_same hS.2.2.2.1⟩)
    · simp only [cCmp, cE2, sev, svl, cen, List.cons_append, List.nil_append] at h
      omega
theorem m_takeSign (hp : cPl tm tc tf EX) {c : Int} (hS : oRS T L N n e M) (hc : oSg c ≠ 25) (h8 : M 1 0 8 = 0) : cBG tm tf EX l dC dI cA ad scrS (d + 2) kX10_takeSign [(2, 1, 0), (0, 0, c)] M (fun rr MM => rr = [] ∧ ((oK T L (oIx T L n) = oSg c ∧ MM = supd M 1 0 7 ((n : Int) + 1)) ∨ (oK T L (oIx T L n) ≠ oSg c ∧ MM = supd M 1 0 8 (1 + 16 * (oIx T L n : Int))))) := by
  have hi := oRS_i hS
  refine cMeth (v := [c]) (Fd := 90) hp (by decide) gX10_takeSign_ok gX10_takeSign_m0 (by simp [cAs, cE2, sev, svl, cen]) ?_
  refine cEnds_at gX10_takeSign_m0 rfl ?_
  refine d_call (m_isSign hp (c := c) hS hc) (by simp [cAs, cE2, sev, svl, cen] <;> omega) ?_
  intro rr M' hq
  obtain ⟨hM', hq⟩ := hq
  rw [hM']
  rcases hq with ⟨rfl, q1⟩ | ⟨rfl, q1⟩
  · refine ⟨rfl, ?_⟩
    refine d_br (fun h => ?_) (fun h => ?_)
    · simp only [cCmp, cE2, sev, svl, cen, List.cons_append, List.nil_append] at h
      omega
    · clear h
      refine d_fld 0 (by simp only [cE2, sev, svl, cen, List.cons_append, List.nil_append]; omega) ?_
      rw [hS.2.2.2.1]
      refine d_rng (by simp only [clo, chi, cE2, sev, svl, cen, List.cons_append, List.nil_append]; omega) ?_
      refine d_put 0 ((n : Int) + 1) (by simp only [cE2, sev, svl, cen, List.cons_append, List.nil_append]; omega) (by simp only [cE2, sev, svl, cen, List.cons_append, List.nil_append]; omega) ?_
      exact d_ret [] rfl (by decide) ⟨rfl, Or.inl ⟨q1.2, rfl⟩⟩
  · refine ⟨rfl, ?_⟩
    refine d_br (fun h => ?_) (fun h => ?_)
    · clear h
      refine d_call (m_wrong hp (k := 1) hS h8 ⟨by omega, by omega⟩) (by simp [cAs, cE2, sev, svl, cen] <;> omega) ?_
      intro rr M' hq
      obtain ⟨rfl, hM'⟩ := hq
      refine ⟨rfl, ?_⟩
      exact d_ret [] rfl (by decide) ⟨rfl, Or.inr ⟨fun q => q1 ⟨h8, q⟩, hM'⟩⟩
    · simp only [cCmp, cE2, sev, svl, cen, List.cons_append, List.nil_append] at h
      omega
theorem m_takeSign0 (hp : cPl tm tc tf EX) {c : Int} (hS : oRS T L N n e M) (hc : oSg c ≠ 25) (h8 : M 1 0 8 ≠ 0) : cBG tm tf EX l dC dI cA ad scrS (d + 2) kX10_takeSign [(2, 1, 0), (0, 0, c)] M (fun rr MM => rr = [] ∧ MM = M) := by
  have hi := oRS_i hS
  refine cMeth (v := [c]) (Fd := 90) hp (by decide) gX10_takeSign_ok gX10_takeSign_m0 (by simp [cAs, cE2, sev, svl, cen]) ?_
  refine cEnds_at gX10_takeSign_m0 rfl ?_
  refine d_call (m_isSign hp (c := c) hS hc) (by simp [cAs, cE2, sev, svl, cen] <;> omega) ?_
  intro rr M' hq
  obtain ⟨hM', hq⟩ := hq
  rw [hM']
  rcases hq with ⟨rfl, q1⟩ | ⟨rfl, q1⟩
  · refine ⟨rfl, ?_⟩
    refine d_br (fun h => ?_) (fun h => ?_)
    · simp only [cCmp, cE2, sev, svl, cen, List.cons_append, List.nil_append] at h
      omega
    · clear h
      refine d_fld 0 (by simp only [cE2, sev, svl, cen, List.cons_append, List.nil_append]; omega) ?_
      rw [hS.2.2.2.1]
      refine d_rng (by simp only [clo, chi, cE2, sev, svl, cen, List.cons_append, List.nil_append]; omega) ?_
      refine d_put 0 ((n : Int) + 1) (by simp only [cE2, sev, svl, cen, List.cons_append, List.nil_append]; omega) (by simp only [cE2, sev, svl, cen, List.cons_append, List.nil_append]; omega) ?_
      exact absurd q1.1 h8
  · refine ⟨rfl, ?_⟩
    refine d_br (fun h => ?_) (fun h => ?_)
    · clear h
      refine d_call (m_wrong0 hp (k := 1) h8) (by simp [cAs, cE2, sev, svl, cen] <;> omega) ?_
      intro rr M' hq
      obtain ⟨rfl, hM'⟩ := hq
      refine ⟨rfl, ?_⟩
      exact d_ret [] rfl (by decide) ⟨rfl, hM'⟩
    · simp only [cCmp, cE2, sev, svl, cen, List.cons_append, List.nil_append] at h
      omega
theorem m_takeWord (hp : cPl tm tc tf EX) {w : Nat} (hS : oRS T L N n e M) (hw : w < 15) (h8 : M 1 0 8 = 0) : cBG tm tf EX l dC dI cA ad scrS (d + 3) kX10_takeWord [(2, 1, 0), (0, 0, (w : Int))] M (fun rr MM => rr = [] ∧ ((oK T L (oIx T L n) = w ∧ MM = supd M 1 0 7 ((n : Int) + 1)) ∨ (oK T L (oIx T L n) ≠ w ∧ MM = supd M 1 0 8 (1 + 16 * (oIx T L n : Int))))) := by
  have hi := oRS_i hS
  refine cMeth (v := [(w : Int)]) (Fd := 90) hp (by decide) gX10_takeWord_ok gX10_takeWord_m0 (by simp [cAs, cE2, sev, svl, cen]) ?_
  refine cEnds_at gX10_takeWord_m0 rfl ?_
  refine d_call (m_hasWord hp (w := w) hS hw) (by simp [cAs, cE2, sev, svl, cen] <;> omega) ?_
  intro rr M' hq
  rcases hq with ⟨rfl, q1, hM'⟩ | ⟨rfl, q1, hM'⟩
  · rw [hM']
    refine ⟨rfl, ?_⟩
    refine d_br (fun h => ?_) (fun h => ?_)
    · clear h
      exact d_ret [] rfl (by decide) ⟨rfl, Or.inl ⟨q1.2, rfl⟩⟩
    · simp only [cCmp, cE2, sev, svl, cen, List.cons_append, List.nil_append] at h
      omega
  · rw [hM']
    refine ⟨rfl, ?_⟩
    refine d_br (fun h => ?_) (fun h => ?_)
    · simp only [cCmp, cE2, sev, svl, cen, List.cons_append, List.nil_append] at h
      omega
    · clear h
      refine d_call (m_wrong (d := d + 1) hp (k := 1) hS h8 ⟨by omega, by omega⟩) (by simp [cAs, cE2, sev, svl, cen] <;> omega) ?_
      intro rr M' hq
      obtain ⟨rfl, hM'⟩ := hq
      refine ⟨rfl, ?_⟩
      exact d_ret [] rfl (by decide) ⟨rfl, Or.inr ⟨fun q => q1 ⟨h8, q⟩, hM'⟩⟩
theorem m_emit (hp : cPl tm tc tf EX) {x y : Int} (h39 : M 1 0 39 = (e : Int)) (he : e ≤ 1000) : cBG tm tf EX l dC dI cA ad scrS (d + 1) kX10_emit [(2, 1, 0), (0, 0, x), (0, 0, y)] M (fun rr MM => rr = [] ∧ MM = oEm M e x y) := by
  have e1 : e + 6600 = 6600 + e := Nat.add_comm _ _
  refine cMeth (v := [x, y]) (Fd := 90) hp (by decide) gX10_emit_ok gX10_emit_m0 (by simp [cAs, cE2, sev, svl, cen]) ?_
  refine cEnds_at gX10_emit_m0 rfl ?_
  refine d_fld 0 (by simp only [cE2, sev, svl, cen, List.cons_append, List.nil_append]; omega) ?_
  rw [h39]
  refine d_rng (by simp only [clo, chi, cE2, sev, svl, cen, List.cons_append, List.nil_append]; omega) ?_
  refine d_set 0 (e + 6600) x (by simp only [cE2, sev, svl, cen, List.cons_append, List.nil_append]; omega) (by simp only [cE2, sev, svl, cen, List.cons_append, List.nil_append]; omega) (by omega) (by simp only [cE2, sev, svl, cen, List.cons_append, List.nil_append]; omega) ?_
  refine d_fld 0 (by simp only [cE2, sev, svl, cen, List.cons_append, List.nil_append]; omega) ?_
  rw [supd_f (by decide)]
  rw [h39]
  refine d_rng (by simp only [clo, chi, cE2, sev, svl, cen, List.cons_append, List.nil_append]; omega) ?_
  refine d_set 0 (e + 6600) y (by simp only [cE2, sev, svl, cen, List.cons_append, List.nil_append]; omega) (by simp only [cE2, sev, svl, cen, List.cons_append, List.nil_append]; omega) (by omega) (by simp only [cE2, sev, svl, cen, List.cons_append, List.nil_append]; omega) ?_
  refine d_fld 0 (by simp only [cE2, sev, svl, cen, List.cons_append, List.nil_append]; omega) ?_
  rw [supd_f (by decide)]
  rw [supd_f (by decide)]
  rw [h39]
  refine d_rng (by simp only [clo, chi, cE2, sev, svl, cen, List.cons_append, List.nil_append]; omega) ?_
  refine d_put 0 ((e : Int) + 1) (by simp only [cE2, sev, svl, cen, List.cons_append, List.nil_append]; omega) (by simp only [cE2, sev, svl, cen, List.cons_append, List.nil_append]; omega) ?_
  exact d_ret [] rfl (by decide) ⟨rfl, by unfold oEm; rw [e1]⟩
/-! a fault: nothing more is done -/
theorem m_takePart0 (hp : cPl tm tc tf EX) {c : Int} (h8 : 0 < M 1 0 8) : cBG tm tf EX l dC dI cA ad scrS (d + 1) kX10_takePart [(2, 1, 0), (0, 0, c)] M (fun rr MM => rr = [] ∧ MM = M) := by
  refine cMeth (v := [c]) (Fd := 90) hp (by decide) gX10_takePart_ok gX10_takePart_m0 (by simp [cAs, cE2, sev, svl, cen]) ?_
  refine cEnds_at gX10_takePart_m0 rfl ?_
  refine d_fld 0 (by simp only [cE2, sev, svl, cen, List.cons_append, List.nil_append]; omega) ?_
  refine d_br (fun h => ?_) (fun h => ?_)
  · simp only [cCmp, cE2, sev, svl, cen, List.cons_append, List.nil_append] at h
    first
    | omega
    | skip
      refine d_cut [c, (-1), 8] (by simp [cE2, sev, svl, cen] <;> omega) ?_
      exact (by omega)
  · simp only [cCmp, cE2, sev, svl, cen, List.cons_append, List.nil_append] at h
    first
    | omega
    | skip
      exact d_ret [] rfl (by decide) ⟨rfl, rfl⟩
theorem m_products0 (hp : cPl tm tc tf EX) {c : Int} (hS : oRS T L N n e M) (h8 : 0 < M 1 0 8) : cBG tm tf EX l dC dI cA ad scrS (d + 3) kX10_products [(2, 1, 0), (0, 0, c)] M (fun rr MM => rr = [] ∧ MM = M) := by
  have hi := oRS_i hS
  refine cMeth (v := [c]) (Fd := 90) hp (by decide) gX10_products_ok gX10_products_m0 (by simp [cAs, cE2, sev, svl, cen]) ?_
  refine cEnds_at gX10_products_m0 rfl ?_
  refine d_call (m_takePart0 (d := d + 1) hp (c := c) h8) (by simp [cAs, cE2, sev, svl, cen]) ?_
  rintro rr MW ⟨rfl, hW⟩
  refine ⟨rfl, ?_⟩
  rw [hW]
  refine d_cut [c] (by simp [cE2, sev, svl, cen] <;> omega) ?_
  refine cEnds_at gX10_products_m5 rfl ?_
  refine d_call (m_hasSign hp (c := 42) hS (by decide)) (by simp [cAs, cE2, sev, svl, cen] <;> omega) ?_
  intro rr M' hq
  rcases hq with ⟨rfl, q1, hM'⟩ | ⟨rfl, q1, hM'⟩
  · rw [hM']
    refine ⟨rfl, ?_⟩
    refine d_br (fun h => ?_) (fun h => ?_)
    · simp only [cCmp, cE2, sev, svl, cen, List.cons_append, List.nil_append] at h
      omega
    · clear h
      exact absurd q1.1 (by omega)
  · rw [hM']
    refine ⟨rfl, ?_⟩
    refine d_br (fun h => ?_) (fun h => ?_)
    · clear h
      exact d_ret [] rfl (by decide) ⟨rfl, rfl⟩
    · simp only [cCmp, cE2, sev, svl, cen, List.cons_append, List.nil_append] at h
      omega
theorem m_sums0 (hp : cPl tm tc tf EX) {c : Int} (hS : oRS T L N n e M) (h8 : 0 < M 1 0 8) : cBG tm tf EX l dC dI cA ad scrS (d + 4) kX10_sums [(2, 1, 0), (0, 0, c)] M (fun rr MM => rr = [] ∧ MM = M) := by
  have hi := oRS_i hS
  refine cMeth (v := [c]) (Fd := 90) hp (by decide) gX10_sums_ok gX10_sums_m0 (by simp [cAs, cE2, sev, svl, cen]) ?_
  refine cEnds_at gX10_sums_m0 rfl ?_
  refine d_call (m_products0 (d := d) hp (c := c) hS h8) (by simp [cAs, cE2, sev, svl, cen]) ?_
  rintro rr MW ⟨rfl, hW⟩
  refine ⟨rfl, ?_⟩
  rw [hW]
  refine d_cut [c] (by simp [cE2, sev, svl, cen] <;> omega) ?_
  refine cEnds_at gX10_sums_m5 rfl ?_
  refine d_call (m_isSign (d := d + 2) hp (c := 43) hS (by decide)) (by simp [cAs, cE2, sev, svl, cen] <;> omega) ?_
  intro rr M' hq
  obtain ⟨hM', hq⟩ := hq
  rw [hM']
  rcases hq with ⟨rfl, q1⟩ | ⟨rfl, q1⟩
  · refine ⟨rfl, ?_⟩
    refine d_br (fun h => ?_) (fun h => ?_)
    · clear h
      refine d_call (m_isSign (d := d + 2) hp (c := 43) hS (by decide)) (by simp [cAs, cE2, sev, svl, cen] <;> omega) ?_
      intro rr M' hq
      obtain ⟨hM', hq⟩ := hq
      rw [hM']
      rcases hq with ⟨rfl, q2⟩ | ⟨rfl, q2⟩
      · refine ⟨rfl, ?_⟩
        refine d_fld 0 (by simp only [cE2, sev, svl, cen, List.cons_append, List.nil_append]; omega) ?_
        rw [hS.2.2.2.1]
        refine d_rng (by simp only [clo, chi, cE2, sev, svl, cen, List.cons_append, List.nil_append]; omega) ?_
        refine d_put 0 ((n : Int) + 1) (by simp only [cE2, sev, svl, cen, List.cons_append, List.nil_append]; omega) (by simp only [cE2, sev, svl, cen, List.cons_append, List.nil_append]; omega) ?_
        exact absurd (show M 1 0 8 = 0 from (by first | exact q1.1 | exact q2.1)) (by omega)
      · refine ⟨rfl, ?_⟩
        refine d_fld 0 (by simp only [cE2, sev, svl, cen, List.cons_append, List.nil_append]; omega) ?_
        rw [hS.2.2.2.1]
        refine d_rng (by simp only [clo, chi, cE2, sev, svl, cen, List.cons_append, List.nil_append]; omega) ?_
        refine d_put 0 ((n : Int) + 1) (by simp only [cE2, sev, svl, cen, List.cons_append, List.nil_append]; omega) (by simp only [cE2, sev, svl, cen, List.cons_append, List.nil_append]; omega) ?_
        exact absurd (show M 1 0 8 = 0 from (by first | exact q1.1 | exact q2.1)) (by omega)
    · simp only [cCmp, cE2, sev, svl, cen, List.cons_append, List.nil_append] at h
      omega
  · refine ⟨rfl, ?_⟩
    refine d_br (fun h => ?_) (fun h => ?_)
    · simp only [cCmp, cE2, sev, svl, cen, List.cons_append, List.nil_append] at h
      omega
    · clear h
      refine d_call (m_isSign (d := d + 2) hp (c := 45) hS (by decide)) (by simp [cAs, cE2, sev, svl, cen] <;> omega) ?_
      intro rr M' hq
      obtain ⟨hM', hq⟩ := hq
      rw [hM']
      rcases hq with ⟨rfl, q2⟩ | ⟨rfl, q2⟩
      · refine ⟨rfl, ?_⟩
        refine d_br (fun h => ?_) (fun h => ?_)
        · simp only [cCmp, cE2, sev, svl, cen, List.cons_append, List.nil_append] at h
          omega
        · clear h
          refine d_call (m_isSign (d := d + 2) hp (c := 43) hS (by decide)) (by simp [cAs, cE2, sev, svl, cen] <;> omega) ?_
          intro rr M' hq
          obtain ⟨hM', hq⟩ := hq
          rw [hM']
          rcases hq with ⟨rfl, q3⟩ | ⟨rfl, q3⟩
          · refine ⟨rfl, ?_⟩
            refine d_fld 0 (by simp only [cE2, sev, svl, cen, List.cons_append, List.nil_append]; omega) ?_
            rw [hS.2.2.2.1]
            refine d_rng (by simp only [clo, chi, cE2, sev, svl, cen, List.cons_append, List.nil_append]; omega) ?_
            refine d_put 0 ((n : Int) + 1) (by simp only [cE2, sev, svl, cen, List.cons_append, List.nil_append]; omega) (by simp only [cE2, sev, svl, cen, List.cons_append, List.nil_append]; omega) ?_
            exact absurd (show M 1 0 8 = 0 from (by first | exact q1.1 | exact q2.1)) (by omega)
          · refine ⟨rfl, ?_⟩
            refine d_fld 0 (by simp only [cE2, sev, svl, cen, List.cons_append, List.nil_append]; omega) ?_
            rw [hS.2.2.2.1]
            refine d_rng (by simp only [clo, chi, cE2, sev, svl, cen, List.cons_append, List.nil_append]; omega) ?_
            refine d_put 0 ((n : Int) + 1) (by simp only [cE2, sev, svl, cen, List.cons_append, List.nil_append]; omega) (by simp only [cE2, sev, svl, cen, List.cons_append, List.nil_append]; omega) ?_
            exact absurd (show M 1 0 8 = 0 from (by first | exact q1.1 | exact q2.1)) (by omega)
      · refine ⟨rfl, ?_⟩
        refine d_br (fun h => ?_) (fun h => ?_)
        · clear h
          exact d_ret [] rfl (by decide) ⟨rfl, rfl⟩
        · simp only [cCmp, cE2, sev, svl, cen, List.cons_append, List.nil_append] at h
          omega
theorem m_test0 (hp : cPl tm tc tf EX) {c : Int} (hS : oRS T L N n e M) (h8 : 0 < M 1 0 8) : cBG tm tf EX l dC dI cA ad scrS (d + 5) kX10_test [(2, 1, 0), (0, 0, c)] M (fun rr MM => rr = [] ∧ MM = M) := by
  have hi := oRS_i hS
  refine cMeth (v := [c]) (Fd := 90) hp (by decide) gX10_test_ok gX10_test_m0 (by simp [cAs, cE2, sev, svl, cen]) ?_
  refine cEnds_at gX10_test_m0 rfl ?_
  refine d_call (m_sums0 (d := d) hp (c := c) hS h8) (by simp [cAs, cE2, sev, svl, cen]) ?_
  rintro rr MW ⟨rfl, hW⟩
  refine ⟨rfl, ?_⟩
  rw [hW]
  refine d_call (m_isSign (d := d + 3) hp (c := 60) hS (by decide)) (by simp [cAs, cE2, sev, svl, cen] <;> omega) ?_
  intro rr M' hq
  obtain ⟨hM', hq⟩ := hq
  rw [hM']
  rcases hq with ⟨rfl, q1⟩ | ⟨rfl, q1⟩
  · refine ⟨rfl, ?_⟩
    refine d_call (m_hasSign (d := d + 2) hp (c := 60) hS (by decide)) (by simp [cAs, cE2, sev, svl, cen] <;> omega) ?_
    intro rr M' hq
    rcases hq with ⟨rfl, q2, hM'⟩ | ⟨rfl, q2, hM'⟩
    · rw [hM']
      refine ⟨rfl, ?_⟩
      refine d_br (fun h => ?_) (fun h => ?_)
      · clear h
        exact absurd (show M 1 0 8 = 0 from (by first | exact q2.1 | exact q3.1)) (by omega)
      · simp only [cCmp, cE2, sev, svl, cen, List.cons_append, List.nil_append] at h
        omega
    · rw [hM']
      refine ⟨rfl, ?_⟩
      refine d_br (fun h => ?_) (fun h => ?_)
      · simp only [cCmp, cE2, sev, svl, cen, List.cons_append, List.nil_append] at h
        omega
      · clear h
        refine d_call (m_hasSign (d := d + 2) hp (c := 61) hS (by decide)) (by simp [cAs, cE2, sev, svl, cen] <;> omega) ?_
        intro rr M' hq
        rcases hq with ⟨rfl, q3, hM'⟩ | ⟨rfl, q3, hM'⟩
        · rw [hM']
          refine ⟨rfl, ?_⟩
          refine d_br (fun h => ?_) (fun h => ?_)
          · simp only [cCmp, cE2, sev, svl, cen, List.cons_append, List.nil_append] at h
            omega
          · clear h
            exact absurd (show M 1 0 8 = 0 from (by first | exact q2.1 | exact q3.1)) (by omega)
        · rw [hM']
          refine ⟨rfl, ?_⟩
          refine d_br (fun h => ?_) (fun h => ?_)
          · clear h
            exact d_ret [] rfl (by decide) ⟨rfl, rfl⟩
          · simp only [cCmp, cE2, sev, svl, cen, List.cons_append, List.nil_append] at h
            omega
  · refine ⟨rfl, ?_⟩
    refine d_call (m_hasSign (d := d + 2) hp (c := 60) hS (by decide)) (by simp [cAs, cE2, sev, svl, cen] <;> omega) ?_
    intro rr M' hq
    rcases hq with ⟨rfl, q2, hM'⟩ | ⟨rfl, q2, hM'⟩
    · rw [hM']
      refine ⟨rfl, ?_⟩
      refine d_br (fun h => ?_) (fun h => ?_)
      · clear h
        exact absurd (show M 1 0 8 = 0 from (by first | exact q2.1 | exact q3.1)) (by omega)
      · simp only [cCmp, cE2, sev, svl, cen, List.cons_append, List.nil_append] at h
        omega
    · rw [hM']
      refine ⟨rfl, ?_⟩
      refine d_br (fun h => ?_) (fun h => ?_)
      · simp only [cCmp, cE2, sev, svl, cen, List.cons_append, List.nil_append] at h
        omega
      · clear h
        refine d_call (m_hasSign (d := d + 2) hp (c := 61) hS (by decide)) (by simp [cAs, cE2, sev, svl, cen] <;> omega) ?_
        intro rr M' hq
        rcases hq with ⟨rfl, q3, hM'⟩ | ⟨rfl, q3, hM'⟩
        · rw [hM']
          refine ⟨rfl, ?_⟩
          refine d_br (fun h => ?_) (fun h => ?_)
          · simp only [cCmp, cE2, sev, svl, cen, List.cons_append, List.nil_append] at h
            omega
          · clear h
            exact absurd (show M 1 0 8 = 0 from (by first | exact q2.1 | exact q3.1)) (by omega)
        · rw [hM']
          refine ⟨rfl, ?_⟩
          refine d_br (fun h => ?_) (fun h => ?_)
          · clear h
            exact d_ret [] rfl (by decide) ⟨rfl, rfl⟩
          · simp only [cCmp, cE2, sev, svl, cen, List.cons_append, List.nil_append] at h
            omega
theorem m_all0 (hp : cPl tm tc tf EX) {c : Int} (hS : oRS T L N n e M) (h8 : 0 < M 1 0 8) : cBG tm tf EX l dC dI cA ad scrS (d + 6) kX10_all [(2, 1, 0), (0, 0, c)] M (fun rr MM => rr = [] ∧ MM = M) := by
  have hi := oRS_i hS
  refine cMeth (v := [c]) (Fd := 90) hp (by decide) gX10_all_ok gX10_all_m0 (by simp [cAs, cE2, sev, svl, cen]) ?_
  refine cEnds_at gX10_all_m0 rfl ?_
  refine d_call (m_test0 (d := d) hp (c := c) hS h8) (by simp [cAs, cE2, sev, svl, cen]) ?_
  rintro rr MW ⟨rfl, hW⟩
  refine ⟨rfl, ?_⟩
  rw [hW]
  refine d_cut [c] (by simp [cE2, sev, svl, cen] <;> omega) ?_
  refine cEnds_at gX10_all_m5 rfl ?_
  refine d_call (m_isWord (d := d + 4) hp (w := 5) hS (by decide)) (by simp [cAs, cE2, sev, svl, cen] <;> omega) ?_
  intro rr M' hq
  obtain ⟨hM', hq⟩ := hq
  rw [hM']
  rcases hq with ⟨rfl, q1⟩ | ⟨rfl, q1⟩
  · refine ⟨rfl, ?_⟩
    refine d_br (fun h => ?_) (fun h => ?_)
    · clear h
      refine d_call (m_isWord (d := d + 4) hp (w := 5) hS (by decide)) (by simp [cAs, cE2, sev, svl, cen] <;> omega) ?_
      intro rr M' hq
      obtain ⟨hM', hq⟩ := hq
      rw [hM']
      rcases hq with ⟨rfl, q2⟩ | ⟨rfl, q2⟩
      · refine ⟨rfl, ?_⟩
        refine d_fld 0 (by simp only [cE2, sev, svl, cen, List.cons_append, List.nil_append]; omega) ?_
        rw [hS.2.2.2.1]
        refine d_rng (by simp only [clo, chi, cE2, sev, svl, cen, List.cons_append, List.nil_append]; omega) ?_
        refine d_put 0 ((n : Int) + 1) (by simp only [cE2, sev, svl, cen, List.cons_append, List.nil_append]; omega) (by simp only [cE2, sev, svl, cen, List.cons_append, List.nil_append]; omega) ?_
        exact absurd (show M 1 0 8 = 0 from (by first | exact q1.1 | exact q2.1)) (by omega)
      · refine ⟨rfl, ?_⟩
        refine d_fld 0 (by simp only [cE2, sev, svl, cen, List.cons_append, List.nil_append]; omega) ?_
        rw [hS.2.2.2.1]
        refine d_rng (by simp only [clo, chi, cE2, sev, svl, cen, List.cons_append, List.nil_append]; omega) ?_
        refine d_put 0 ((n : Int) + 1) (by simp only [cE2, sev, svl, cen, List.cons_append, List.nil_append]; omega) (by simp only [cE2, sev, svl, cen, List.cons_append, List.nil_append]; omega) ?_
        exact absurd (show M 1 0 8 = 0 from (by first | exact q1.1 | exact q2.1)) (by omega)
    · simp only [cCmp, cE2, sev, svl, cen, List.cons_append, List.nil_append] at h
      omega
  · refine ⟨rfl, ?_⟩
    refine d_br (fun h => ?_) (fun h => ?_)
    · simp only [cCmp, cE2, sev, svl, cen, List.cons_append, List.nil_append] at h
      omega
    · clear h
      refine d_call (m_isWord (d := d + 4) hp (w := 6) hS (by decide)) (by simp [cAs, cE2, sev, svl, cen] <;> omega) ?_
      intro rr M' hq
      obtain ⟨hM', hq⟩ := hq
      rw [hM']
      rcases hq with ⟨rfl, q2⟩ | ⟨rfl, q2⟩
      · refine ⟨rfl, ?_⟩
        refine d_br (fun h => ?_) (fun h => ?_)
        · simp only [cCmp, cE2, sev, svl, cen, List.cons_append, List.nil_append] at h
          omega
        · clear h
          refine d_call (m_isWord (d := d + 4) hp (w := 5) hS (by decide)) (by simp [cAs, cE2, sev, svl, cen] <;> omega) ?_
          intro rr M' hq
          obtain ⟨hM', hq⟩ := hq
          rw [hM']
          rcases hq with ⟨rfl, q3⟩ | ⟨rfl, q3⟩
          · refine ⟨rfl, ?_⟩
            refine d_fld 0 (by simp only [cE2, sev, svl, cen, List.cons_append, List.nil_append]; omega) ?_
            rw [hS.2.2.2.1]
            refine d_rng (by simp only [clo, chi, cE2, sev, svl, cen, List.cons_append, List.nil_append]; omega) ?_
            refine d_put 0 ((n : Int) + 1) (by simp only [cE2, sev, svl, cen, List.cons_append, List.nil_append]; omega) (by simp only [cE2, sev, svl, cen, List.cons_append, List.nil_append]; omega) ?_
            exact absurd (show M 1 0 8 = 0 from (by first | exact q1.1 | exact q2.1)) (by omega)
          · refine ⟨rfl, ?_⟩
            refine d_fld 0 (by simp only [cE2, sev, svl, cen, List.cons_append, List.nil_append]; omega) ?_
            rw [hS.2.2.2.1]
            refine d_rng (by simp only [clo, chi, cE2, sev, svl, cen, List.cons_append, List.nil_append]; omega) ?_
            refine d_put 0 ((n : Int) + 1) (by simp only [cE2, sev, svl, cen, List.cons_append, List.nil_append]; omega) (by simp only [cE2, sev, svl, cen, List.cons_append, List.nil_append]; omega) ?_
            exact absurd (show M 1 0 8 = 0 from (by first | exact q1.1 | exact q2.1)) (by omega)
      · refine ⟨rfl, ?_⟩
        refine d_br (fun h => ?_) (fun h => ?_)
        · clear h
          exact d_ret [] rfl (by decide) ⟨rfl, rfl⟩
        · simp only [cCmp, cE2, sev, svl, cen, List.cons_append, List.nil_append] at h
          omega
end CO11
