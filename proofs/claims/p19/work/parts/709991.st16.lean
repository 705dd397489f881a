/-! stories: the reference's walls, and what each cut asks -/
def lVF : List Nat := [17, 18, 19, 20, 21, 22, 23, 26, 27, 28, 29, 30, 31, 32, 33, 50]
theorem vFt_cg2 {M M1 : SMem} (r1 : ∀ f, f ∈ lVF → M1 f = M f) {p nm : Nat} : ∀ a, vFt M1 p nm a ↔ vFt M p nm a := by
  intro a
  induction a using Nat.strongRecOn with
  | _ a ih =>
    have e1 := vFt_iff (M := M1) (p := p) (nm := nm) a
    have e2 := vFt_iff (M := M) (p := p) (nm := nm) a
    unfold vA vHT vFF at e1 e2
    rw [r1 17 (by decide), r1 19 (by decide), r1 20 (by decide), r1 21 (by decide), r1 23 (by decide), r1 26 (by decide), r1 29 (by decide), r1 30 (by decide), r1 31 (by decide), r1 32 (by decide)] at e1
    by_cases h : 2 ≤ a
    · rw [ih (a - 2) (by omega)] at e1
      exact e1.trans e2.symm
    · simp only [h, false_and] at e1 e2
      exact e1.trans e2.symm
/-- the walls as the reference has them -/
def sMz (Z : STZ) (M : SMem) : Prop := (∀ p, p < 12 → (M 22 0 p = 0 → Z.1 p = 0) ∧ M 27 0 p = (Z.1 p : Int) ∧ Z.1 p ≤ 6) ∧ (∀ p ly, p < 12 → ly < Z.1 p → M 28 0 (6 * p + ly) = (Z.2.1 p ly : Int) ∧ M 29 0 (6 * p + ly) = Z.2.2.1 p ly) ∧ (∀ p ly n, p < 12 → ly < Z.1 p → n < 8 → (vFt M p n ly ↔ Z.2.2.2.1 p ly n)) ∧ ∀ n, n < 8 → M 18 0 n = Z.2.2.2.2 n
theorem sMz_cg {Z : STZ} {M M1 : SMem} (h : ∀ f, f ∈ lVF → M1 f = M f) (hz : sMz Z M) : sMz Z M1 := by
  obtain ⟨z1, z2, z3, z4⟩ := hz
  refine ⟨?_, ?_, fun p ly n hp hl hn => (vFt_cg2 h ly).trans (z3 p ly n hp hl hn), ?_⟩
  · rw [h 22 (by decide), h 27 (by decide)]
    exact z1
  · rw [h 28 (by decide), h 29 (by decide)]
    exact z2
  · rw [h 18 (by decide)]
    exact z4
theorem w12_0 : ∀ p : Fin 12, cfn 0 (cfn 3 0 ((p.val : Nat) : Int)) 1 = 0 := by decide +kernel
section CS16
variable {EX : SEx} {l : Launch} {dC : Nat → ClassId} {dI : Nat → Nat → Nat} {cA : Nat → ClassId} {ad : SAd} {scrS d : Nat}
theorem m_cutsOf (hp : cPl tm tc tf EX) {Z : STZ} {p : Nat} {M : SMem} (hz : sMz Z M) (h34 : M 1 0 34 = 0) (hp9 : p < 12) : cBG tm tf EX l dC dI cA ad scrS (d + 1) kX10_cutsOf [(2, 1, 0), (0, 0, (p : Int))] M (fun rr MM => MM = M ∧ rr = [(Z.1 p : Int)]) := by
  obtain ⟨z0, z1, z2⟩ := hz.1 p hp9
  have w := w12_0 ⟨p, hp9⟩
  have w : cfn 0 (cfn 3 0 (p : Int)) 1 = 0 := w
  refine cMeth (v := [(p : Int)]) (Fd := 90) hp (by decide) gX10_cutsOf_ok gX10_cutsOf_m0 (by simp [cAs, cE2, sev, svl, cen]) ?_
  refine cEnds_at gX10_cutsOf_m0 rfl ?_
  refine d_row 0 p (by simp only [cE2, sev, svl, cen, List.cons_append, List.nil_append]; omega) (by simp only [cE2, sev, svl, cen, List.cons_append, List.nil_append]; omega) (by omega) ?_
  refine d_br (fun h => ?_) (fun h => ?_)
  · simp only [cCmp, cE2, sev, svl, cen, List.cons_append, List.nil_append] at h
    first
    | omega
    | skip
      refine d_row 0 p (by simp only [cE2, sev, svl, cen, List.cons_append, List.nil_append]; omega) (by simp only [cE2, sev, svl, cen, List.cons_append, List.nil_append]; omega) (by omega) ?_
      rw [z1]
      refine d_fld 0 (by simp only [cE2, sev, svl, cen, List.cons_append, List.nil_append]; omega) ?_
      rw [h34]
      refine d_opw 0 (p : Int) (by simp [cE2, sev, svl, cen] <;> omega) (by simp [cE2, sev, svl, cen] <;> omega) ?_
      refine d_opw (cfn 3 0 (p : Int)) 1 (by simp [cE2, sev, svl, cen] <;> omega) (by simp [cE2, sev, svl, cen] <;> omega) ?_
      rw [w]
      refine d_rng (by simp only [clo, chi, cE2, sev, svl, cen, List.cons_append, List.nil_append]; omega) ?_
      exact wret1 ((Z.1 p : Int) - 0) (by simp only [cE2, sev, svl, cen, List.cons_append, List.nil_append]; omega) (by omega) ⟨rfl, rfl⟩
  · simp only [cCmp, cE2, sev, svl, cen, List.cons_append, List.nil_append] at h
    first
    | omega
    | skip
      exact d_ret [0] rfl (by decide) ⟨rfl, by rw [z0 (by omega)]; rfl⟩
theorem m_isThere (hp : cPl tm tc tf EX) {Z : STZ} {p ly : Nat} {a b : Int} {M : SMem} (hI : sI tg M) (hX : sX M) (hz : sMz Z M) (hp9 : p < 12) (hl : ly < Z.1 p) (he : ly % 2 = 0) : cBG tm tf EX l dC dI cA ad scrS (d + 7) kX10_isThere [(2, 1, 0), (0, 0, (p : Int)), (0, 0, (ly : Int)), (0, 0, a), (0, 0, b)] M (fun rr MM => MM = M ∧ ((rr = [1] ∧ (sThr Z p ly a b)) ∨ (rr = [0] ∧ ¬ (sThr Z p ly a b)))) := by
  refine cMeth (v := [(p : Int), (ly : Int), a, b]) (Fd := 90) hp (by decide) gX10_isThere_ok gX10_isThere_m0 (by simp [cAs, cE2, sev, svl, cen]) ?_
  obtain ⟨z1, z2, z3, z4⟩ := hz
  have s6 := (z1 p hp9).2.2
  have loop : ∀ (m n : Nat), n + m = 8 → ∀ is : Int, ((is = 1 ∧ ∃ n', n' < n ∧ Z.2.2.2.1 p ly n' ∧ Z.2.2.2.2 n' ≤ a ∧ Z.2.2.2.2 n' < b) ∨ (is = 0 ∧ ¬ ∃ n', n' < n ∧ Z.2.2.2.1 p ly n' ∧ Z.2.2.2.2 n' ≤ a ∧ Z.2.2.2.2 n' < b)) → cEnds (cBG tm tf EX l dC dI cA ad scrS (d + 6)) (fun rr MM => MM = M ∧ ((rr = [1] ∧ (sThr Z p ly a b)) ∨ (rr = [0] ∧ ¬ (sThr Z p ly a b)))) 90 gX10_isThere 6 [(p : Int), (ly : Int), a, b, is, (n : Int)] M := by
    intro m
    induction m with
    | zero =>
      intro n hn is his
      have en : n = 8 := by omega
      subst en
      refine cEnds_at gX10_isThere_m6 rfl ?_
      refine d_br (fun h => ?_) (fun h => ?_)
      · refine wretb is (by simp only [cE2, sev, svl, cen, List.cons_append, List.nil_append]; omega) (by omega) ⟨rfl, ?_⟩
        rcases his with ⟨rfl, q⟩ | ⟨rfl, q⟩
        · exact Or.inl ⟨rfl, q⟩
        · exact Or.inr ⟨rfl, q⟩
      · simp only [cCmp, cE2, sev, svl, cen, List.cons_append, List.nil_append] at h
        omega
    | succ m ih =>
      intro n hn is his
      rcases his with ⟨rfl, n', q1, q2⟩ | ⟨rfl, q⟩
      · refine cEnds_at gX10_isThere_m6 rfl ?_
        refine d_br (fun h => ?_) (fun h => ?_)
        · simp only [cCmp, cE2, sev, svl, cen, List.cons_append, List.nil_append] at h
          first
          | omega
          | skip
            exact d_ret [1] rfl (by decide) (by omega)
        · simp only [cCmp, cE2, sev, svl, cen, List.cons_append, List.nil_append] at h
          first
          | omega
          | skip
            refine d_br (fun h => ?_) (fun h => ?_)
            · clear h
              refine d_rng (by simp only [clo, chi, cE2, sev, svl, cen, List.cons_append, List.nil_append]; omega) ?_
              refine d_cut [(p : Int), (ly : Int), a, b, 1, ((n + 1 : Nat) : Int)] (by simp [cE2, sev, svl, cen] <;> omega) ?_
              exact ih (n + 1) (by omega) 1 (Or.inl ⟨rfl, n', by omega, q2⟩)
            · simp only [cCmp, cE2, sev, svl, cen, List.cons_append, List.nil_append] at h
              omega
      · have go : ¬ (Z.2.2.2.1 p ly n ∧ Z.2.2.2.2 n ≤ a ∧ Z.2.2.2.2 n < b) → cEnds (cBG tm tf EX l dC dI cA ad scrS (d + 6)) (fun rr MM => MM = M ∧ ((rr = [1] ∧ (sThr Z p ly a b)) ∨ (rr = [0] ∧ ¬ (sThr Z p ly a b)))) 90 gX10_isThere 6 [(p : Int), (ly : Int), a, b, 0, ((n + 1 : Nat) : Int)] M := fun hno => ih (n + 1) (by omega) 0 (Or.inr ⟨rfl, fun ⟨n', y1, y2⟩ => by
          by_cases e : n' = n
          · subst e
            exact hno y2
          · exact q ⟨n', by omega, y2⟩⟩)
        have ef := z3 p ly n hp9 hl (by omega)
        have er := z4 n (by omega)
        refine cEnds_at gX10_isThere_m6 rfl ?_
        refine d_br (fun h => ?_) (fun h => ?_)
        · simp only [cCmp, cE2, sev, svl, cen, List.cons_append, List.nil_append] at h
          first
          | omega
          | skip
            exact d_ret [0] rfl (by decide) (by omega)
        · simp only [cCmp, cE2, sev, svl, cen, List.cons_append, List.nil_append] at h
          first
          | omega
          | skip
            refine d_br (fun h => ?_) (fun h => ?_)
            · simp only [cCmp, cE2, sev, svl, cen, List.cons_append, List.nil_append] at h
              omega
            · clear h
              refine d_call (m_doesFit (d := d) hp hI hX (nm := n) (p := p) (by omega) hp9 3 ly (by omega) he (by omega)) (by simp [cAs, cE2, sev, svl, cen] <;> omega) ?_
              intro rr M' hq
              obtain ⟨hM', hq⟩ := hq
              rw [hM']
              rcases hq with ⟨rfl, q6⟩ | ⟨rfl, q6⟩
              · refine ⟨rfl, ?_⟩
                refine d_br (fun h => ?_) (fun h => ?_)
                · simp only [cCmp, cE2, sev, svl, cen, List.cons_append, List.nil_append] at h
                  omega
                · clear h
                  refine d_row 0 n (by simp only [cE2, sev, svl, cen, List.cons_append, List.nil_append]; omega) (by simp only [cE2, sev, svl, cen, List.cons_append, List.nil_append]; omega) (by omega) ?_
                  rw [er]
                  refine d_br (fun h => ?_) (fun h => ?_)
                  · simp only [cCmp, cE2, sev, svl, cen, List.cons_append, List.nil_append] at h
                    first
                    | omega
                    | skip
                      refine d_rng (by simp only [clo, chi, cE2, sev, svl, cen, List.cons_append, List.nil_append]; omega) ?_
                      refine d_cut [(p : Int), (ly : Int), a, b, 0, ((n + 1 : Nat) : Int)] (by simp [cE2, sev, svl, cen] <;> omega) ?_
                      exact go (fun y => by omega)
                  · simp only [cCmp, cE2, sev, svl, cen, List.cons_append, List.nil_append] at h
                    first
                    | omega
                    | skip
                      refine d_row 0 n (by simp only [cE2, sev, svl, cen, List.cons_append, List.nil_append]; omega) (by simp only [cE2, sev, svl, cen, List.cons_append, List.nil_append]; omega) (by omega) ?_
                      rw [er]
                      refine d_br (fun h => ?_) (fun h => ?_)
                      · simp only [cCmp, cE2, sev, svl, cen, List.cons_append, List.nil_append] at h
                        first
                        | omega
                        | skip
                          refine d_rng (by simp only [clo, chi, cE2, sev, svl, cen, List.cons_append, List.nil_append]; omega) ?_
                          refine d_cut [(p : Int), (ly : Int), a, b, 0, ((n + 1 : Nat) : Int)] (by simp [cE2, sev, svl, cen] <;> omega) ?_
                          exact go (fun y => by omega)
                      · simp only [cCmp, cE2, sev, svl, cen, List.cons_append, List.nil_append] at h
                        first
                        | omega
                        | skip
                          refine d_rng (by simp only [clo, chi, cE2, sev, svl, cen, List.cons_append, List.nil_append]; omega) ?_
                          refine d_cut [(p : Int), (ly : Int), a, b, 1, ((n + 1 : Nat) : Int)] (by simp [cE2, sev, svl, cen] <;> omega) ?_
                          exact ih (n + 1) (by omega) 1 (Or.inl ⟨rfl, n, by omega, ef.mp q6, by omega, by omega⟩)
              · refine ⟨rfl, ?_⟩
                refine d_br (fun h => ?_) (fun h => ?_)
                · clear h
                  refine d_rng (by simp only [clo, chi, cE2, sev, svl, cen, List.cons_append, List.nil_append]; omega) ?_
                  refine d_cut [(p : Int), (ly : Int), a, b, 0, ((n + 1 : Nat) : Int)] (by simp [cE2, sev, svl, cen] <;> omega) ?_
                  exact go (fun y => q6 (ef.mpr y.1))
                · simp only [cCmp, cE2, sev, svl, cen, List.cons_append, List.nil_append] at h
                  omega
  refine cEnds_at gX10_isThere_m0 rfl ?_
  refine d_cut [(p : Int), (ly : Int), a, b, 0, ((0 : Nat) : Int)] (by simp [cE2, sev, svl, cen] <;> omega) ?_
  exact loop 8 0 (by omega) 0 (Or.inr ⟨rfl, fun ⟨n', y, _⟩ => absurd y (Nat.not_lt_zero _)⟩)
set_option maxHeartbeats 4000000 in
theorem m_lets (hp : cPl tm tc tf EX) {Z : STZ} {p ly : Nat} {M : SMem} (hI : sI tg M) (hX : sX M) (hZ : sWf Z) (hz : sMz Z M) (hp9 : p < 12) (hl : ly < Z.1 p) : cBG tm tf EX l dC dI cA ad scrS (d + 8) kX10_lets [(2, 1, 0), (0, 0, (p : Int)), (0, 0, (ly : Int))] M (fun rr MM => MM = M ∧ ((rr = [1] ∧ (sLet Z (M 34 0) p ly)) ∨ (rr = [0] ∧ ¬ (sLet Z (M 34 0) p ly)))) := by
  refine cMeth (v := [(p : Int), (ly : Int)]) (Fd := 90) hp (by decide) gX10_lets_ok gX10_lets_m0 (by simp [cAs, cE2, sev, svl, cen]) ?_
  obtain ⟨w1, w2, w3⟩ := hZ
  have s6 := (hz.1 p hp9).2.2
  have wl := w3 p ly hp9 hl
  obtain ⟨hh, ehh⟩ : ∃ hh : Nat, hh = Z.2.1 p ly := ⟨_, rfl⟩
  have hh6 : hh < 6 := by rw [ehh]; exact w1 p ly
  have e28 : M 28 0 (6 * p + ly) = (hh : Int) := by rw [(hz.2.1 p ly hp9 hl).1, ehh]
  have b34 : ∀ i, -1 ≤ M 34 0 i ∧ M 34 0 i ≤ 5 := fun i => wIb (f := 34) (i := i) (lo := -1) (hi := 5) hI 0 rfl
  suffices H : ∀ Po : List Int → SMem → Prop, (sLet Z (M 34 0) p ly → Po [1] M) → (¬ sLet Z (M 34 0) p ly → Po [0] M) → cEnds (cBG tm tf EX l dC dI cA ad scrS (d + 7)) Po 90 gX10_lets 0 [(p : Int), (ly : Int)] M from H _ (fun w => ⟨rfl, Or.inl ⟨rfl, w⟩⟩) (fun w => ⟨rfl, Or.inr ⟨rfl, w⟩⟩)
  intro Po hP hN
  unfold sLet at hP hN
  rw [← ehh] at hP hN
  have loop : M 34 0 hh ≠ -1 → ∀ (m k : Nat), k + m = ly → (∀ i, i < k → M 34 0 (Z.2.1 p i) ≤ M 34 0 hh) → cEnds (cBG tm tf EX l dC dI cA ad scrS (d + 7)) Po 90 gX10_lets 31 [(p : Int), (ly : Int), ((6 * p + ly : Nat) : Int), M 34 0 hh, (k : Int)] M := by
    intro hown m
    induction m with
    | zero =>
      intro k hk hlt
      have ek : k = ly := by omega
      subst ek
      obtain ⟨a, ea⟩ : ∃ a : Nat, a = Z.2.1 p (k - 1) := ⟨_, rfl⟩
      have ha6 : a < 6 := by rw [ea]; exact w1 p (k - 1)
      rw [← ea] at hP hN
      have e28' : 0 < k → M 28 0 ((6 * p + k) - 1) = (a : Int) := fun z => by rw [show 6 * p + k - 1 = 6 * p + (k - 1) by omega, (hz.2.1 p (k - 1) hp9 (by omega)).1, ea]
      have e29' : 0 < k → M 29 0 ((6 * p + k) - 1) = Z.2.2.1 p (k - 1) := fun z => by rw [show 6 * p + k - 1 = 6 * p + (k - 1) by omega, (hz.2.1 p (k - 1) hp9 (by omega)).2]
      have e29 := (hz.2.1 p k hp9 hl).2
      have ba := b34 a
      have bh := b34 hh
      rcases wl with ⟨rfl, hd⟩ | ⟨ho, hd⟩ | ⟨he, h0, hd | hd⟩
      · rw [hd] at e29
        refine cEnds_at gX10_lets_m31 rfl ?_
        refine d_br (fun h => ?_) (fun h => ?_)
        · simp only [cCmp, cE2, sev, svl, cen, List.cons_append, List.nil_append] at h
          first
          | omega
          | skip
            refine d_row 0 ((6 * p + 0)) (by simp only [cE2, sev, svl, cen, List.cons_append, List.nil_append]; omega) (by simp only [cE2, sev, svl, cen, List.cons_append, List.nil_append]; omega) (by omega) ?_
            rw [e29]
            refine d_br (fun h => ?_) (fun h => ?_)
            · clear h
              refine d_call (m_isThere hp (Z := Z) (p := p) (ly := 0) (a := (M 34 0 hh)) (b := 6) hI hX hz hp9 hl (by omega)) (by simp [cAs, cE2, sev, svl, cen] <;> omega) ?_
              intro rr M' hq
              obtain ⟨hM', hq⟩ := hq
              rw [hM']
              rcases hq with ⟨rfl, q6⟩ | ⟨rfl, q6⟩
              · refine ⟨rfl, ?_⟩
                exact d_ret [1] rfl (by decide) (hP (Or.inr ⟨hlt, Or.inl ⟨Or.inl hd, q6⟩⟩))
              · refine ⟨rfl, ?_⟩
                exact d_ret [0] rfl (by decide) (hN (fun y => y.elim hown (fun y => y.2.elim (fun z => q6 z.2) (fun z => z.elim (fun z => by have := z.1; omega) (fun z => by have := z.1; omega)))))
            · simp only [cCmp, cE2, sev, svl, cen, List.cons_append, List.nil_append] at h
              omega
        · simp only [cCmp, cE2, sev, svl, cen, List.cons_append, List.nil_append] at h
          first
          | omega
          | skip
            refine d_rng (by simp only [clo, chi, cE2, sev, svl, cen, List.cons_append, List.nil_append]; omega) ?_
            refine d_rng (by simp only [clo, chi, cE2, sev, svl, cen, List.cons_append, List.nil_append]; omega) ?_
            refine d_row 0 (6 * p + (0)) (by simp only [cE2, sev, svl, cen, List.cons_append, List.nil_append]; omega) (by simp only [cE2, sev, svl, cen, List.cons_append, List.nil_append]; omega) (by omega) ?_
            refine d_row 0 (((M 28 0 (6 * p + (0)))).toNat) (by simp only [cE2, sev, svl, cen, List.cons_append, List.nil_append]; omega) (by simp only [cE2, sev, svl, cen, List.cons_append, List.nil_append]; omega) (by omega) ?_
            refine d_br (fun h => ?_) (fun h => ?_)
            · simp only [cCmp, cE2, sev, svl, cen, List.cons_append, List.nil_append] at h
              first
              | omega
              | skip
                refine d_rng (by simp only [clo, chi, cE2, sev, svl, cen, List.cons_append, List.nil_append]; omega) ?_
                refine d_cut [(p : Int), ((0 : Nat) : Int), ((6 * p + 0 : Nat) : Int), (M 34 0 hh), (((0 : Nat) : Int) + 1)] (by simp [cE2, sev, svl, cen] <;> omega) ?_
                exact ⟨rfl, rfl⟩
            · simp only [cCmp, cE2, sev, svl, cen, List.cons_append, List.nil_append] at h
              first
              | omega
              | skip
                exact d_ret [0] rfl (by decide) (hN (fun y => y.elim hown (fun y => y.2.elim (fun z => q6 z.2) (fun z => z.elim (fun z => by have := z.1; omega) (fun z => by have := z.1; omega)))))
      · obtain ⟨dv, edv⟩ : ∃ dv : Int, dv = Z.2.2.1 p k := ⟨_, rfl⟩
        obtain ⟨da, eda⟩ : ∃ da : Int, da = Z.2.2.1 p (k - 1) := ⟨_, rfl⟩
        have e29' := e29' (by omega)
        have e28' := e28' (by omega)
        rw [← edv] at e29 hd hP hN
        rw [← eda] at e29' hP hN
        have hl' : k - 1 < Z.1 p := by omega
        have c1 : ∀ x : Int, x = (if da = 4 then 6 else M 34 0 a) → sThr Z p (k - 1) x (M 34 0 hh) → Po [1] M := fun x hx y => hP (Or.inr ⟨hlt, Or.inr (Or.inr ⟨hd, Or.inr (by rw [← hx]; exact y)⟩)⟩)
        have c0 : ∀ x : Int, x = (if da = 4 then 6 else M 34 0 a) → ¬ (M 34 0 a = -1 ∧ da ≠ 4) → ¬ sThr Z p (k - 1) x (M 34 0 hh) → Po [0] M := fun x hx z y => hN (fun w => w.elim hown (fun w => w.2.elim (fun q => by have := q.1; omega) (fun q => q.elim (fun q => by have := q.1; omega) (fun q => q.2.elim z (fun q => y (by rw [hx]; exact q))))))
        refine cEnds_at gX10_lets_m31 rfl ?_
        refine d_br (fun h => ?_) (fun h => ?_)
        · simp only [cCmp, cE2, sev, svl, cen, List.cons_append, List.nil_append] at h
          first
          | omega
          | skip
            refine d_row 0 ((6 * p + k)) (by simp only [cE2, sev, svl, cen, List.cons_append, List.nil_append]; omega) (by simp only [cE2, sev, svl, cen, List.cons_append, List.nil_append]; omega) (by omega) ?_
            rw [e29]
            refine d_br (fun h => ?_) (fun h => ?_)
            · simp only [cCmp, cE2, sev, svl, cen, List.cons_append, List.nil_append] at h
              first
              | omega
              | skip
                refine d_call (m_isThere hp (Z := Z) (p := p) (ly := k - 1) (a := (M 34 0 hh)) (b := 6) hI hX hz hp9 hl' (by omega)) (by simp [cAs, cE2, sev, svl, cen] <;> omega) ?_
                intro rr M' hq
                obtain ⟨hM', hq⟩ := hq
                rw [hM']
                rcases hq with ⟨rfl, q6⟩ | ⟨rfl, q6⟩
                · refine ⟨rfl, ?_⟩
                  exact d_ret [1] rfl (by decide) (by first | exact c1 (M 34 0 a) (by split <;> omega) (by assumption) | exact c1 6 (by split <;> omega) (by assumption) | exact hP (Or.inr ⟨hlt, Or.inr (Or.inr ⟨hd, Or.inl ⟨by omega, by omega⟩⟩)⟩))
                · refine ⟨rfl, ?_⟩
                  exact d_ret [0] rfl (by decide) (by first | exact c0 (M 34 0 a) (by split <;> omega) (by omega) (by assumption) | exact c0 6 (by split <;> omega) (by omega) (by assumption))
            · simp only [cCmp, cE2, sev, svl, cen, List.cons_append, List.nil_append] at h
              first
              | omega
              | skip
                refine d_br (fun h => ?_) (fun h => ?_)
                · simp only [cCmp, cE2, sev, svl, cen, List.cons_append, List.nil_append] at h
                  first
                  | omega
                  | skip
                    refine d_rng (by simp only [clo, chi, cE2, sev, svl, cen, List.cons_append, List.nil_append]; omega) ?_
                    refine d_row 0 ((6 * p + k) - 1) (by simp only [cE2, sev, svl, cen, List.cons_append, List.nil_append]; omega) (by simp only [cE2, sev, svl, cen, List.cons_append, List.nil_append]; omega) (by omega) ?_
                    rw [e28']
                    refine d_row 0 a (by simp only [cE2, sev, svl, cen, List.cons_append, List.nil_append]; omega) (by simp only [cE2, sev, svl, cen, List.cons_append, List.nil_append]; omega) (by omega) ?_
                    refine d_br (fun h => ?_) (fun h => ?_)
                    · simp only [cCmp, cE2, sev, svl, cen, List.cons_append, List.nil_append] at h
                      first
                      | omega
                      | skip
                        refine d_br (fun h => ?_) (fun h => ?_)
                        · simp only [cCmp, cE2, sev, svl, cen, List.cons_append, List.nil_append] at h
                          first
                          | omega
                          | skip
                            refine d_rng (by simp only [clo, chi, cE2, sev, svl, cen, List.cons_append, List.nil_append]; omega) ?_
                            refine d_rng (by simp only [clo, chi, cE2, sev, svl, cen, List.cons_append, List.nil_append]; omega) ?_
                            refine d_row 0 ((6 * p + k) - 1) (by simp only [cE2, sev, svl, cen, List.cons_append, List.nil_append]; omega) (by simp only [cE2, sev, svl, cen, List.cons_append, List.nil_append]; omega) (by omega) ?_
                            rw [e29']
                            refine d_br (fun h => ?_) (fun h => ?_)
                            · simp only [cCmp, cE2, sev, svl, cen, List.cons_append, List.nil_append] at h
                              first
                              | omega
                              | skip
                                refine d_call (m_isThere hp (Z := Z) (p := p) (ly := k - 1) (a := (M 34 0 a)) (b := (M 34 0 hh)) hI hX hz hp9 hl' (by omega)) (by simp [cAs, cE2, sev, svl, cen] <;> omega) ?_
                                intro rr M' hq
                                obtain ⟨hM', hq⟩ := hq
                                rw [hM']
                                rcases hq with ⟨rfl, q9⟩ | ⟨rfl, q9⟩
                                · refine ⟨rfl, ?_⟩
                                  refine d_br (fun h => ?_) (fun h => ?_)
                                  · simp only [cCmp, cE2, sev, svl, cen, List.cons_append, List.nil_append] at h
                                    omega
                                  · clear h
                                    exact d_ret [1] rfl (by decide) (by first | exact c1 (M 34 0 a) (by split <;> omega) (by assumption) | exact c1 6 (by split <;> omega) (by assumption) | exact hP (Or.inr ⟨hlt, Or.inr (Or.inr ⟨hd, Or.inl ⟨by omega, by omega⟩⟩)⟩))
                                · refine ⟨rfl, ?_⟩
                                  refine d_br (fun h => ?_) (fun h => ?_)
                                  · clear h
                                    exact d_ret [0] rfl (by decide) (by first | exact c0 (M 34 0 a) (by split <;> omega) (by omega) (by assumption) | exact c0 6 (by split <;> omega) (by omega) (by assumption))
                                  · simp only [cCmp, cE2, sev, svl, cen, List.cons_append, List.nil_append] at h
                                    omega
                            · simp only [cCmp, cE2, sev, svl, cen, List.cons_append, List.nil_append] at h
                              first
                              | omega
                              | skip
                                refine d_call (m_isThere hp (Z := Z) (p := p) (ly := k - 1) (a := 6) (b := (M 34 0 hh)) hI hX hz hp9 hl' (by omega)) (by simp [cAs, cE2, sev, svl, cen] <;> omega) ?_
                                intro rr M' hq
                                obtain ⟨hM', hq⟩ := hq
                                rw [hM']
                                rcases hq with ⟨rfl, q9⟩ | ⟨rfl, q9⟩
                                · refine ⟨rfl, ?_⟩
                                  refine d_br (fun h => ?_) (fun h => ?_)
                                  · simp only [cCmp, cE2, sev, svl, cen, List.cons_append, List.nil_append] at h
                                    omega
                                  · clear h
                                    exact d_ret [1] rfl (by decide) (by first | exact c1 (M 34 0 a) (by split <;> omega) (by assumption) | exact c1 6 (by split <;> omega) (by assumption) | exact hP (Or.inr ⟨hlt, Or.inr (Or.inr ⟨hd, Or.inl ⟨by omega, by omega⟩⟩)⟩))
                                · refine ⟨rfl, ?_⟩
                                  refine d_br (fun h => ?_) (fun h => ?_)
                                  · clear h
                                    exact d_ret [0] rfl (by decide) (by first | exact c0 (M 34 0 a) (by split <;> omega) (by omega) (by assumption) | exact c0 6 (by split <;> omega) (by omega) (by assumption))
                                  · simp only [cCmp, cE2, sev, svl, cen, List.cons_append, List.nil_append] at h
                                    omega
                        · simp only [cCmp, cE2, sev, svl, cen, List.cons_append, List.nil_append] at h
                          first
                          | omega
                          | skip
                            refine d_rng (by simp only [clo, chi, cE2, sev, svl, cen, List.cons_append, List.nil_append]; omega) ?_
                            refine d_row 0 ((6 * p + k) - 1) (by simp only [cE2, sev, svl, cen, List.cons_append, List.nil_append]; omega) (by simp only [cE2, sev, svl, cen, List.cons_append, List.nil_append]; omega) (by omega) ?_
                            rw [e29']
                            refine d_br (fun h => ?_) (fun h => ?_)
                            · simp only [cCmp, cE2, sev, svl, cen, List.cons_append, List.nil_append] at h
                              first
                              | omega
                              | skip
                                exact d_ret [1] rfl (by decide) (by first | exact c1 (M 34 0 a) (by split <;> omega) (by assumption) | exact c1 6 (by split <;> omega) (by assumption) | exact hP (Or.inr ⟨hlt, Or.inr (Or.inr ⟨hd, Or.inl ⟨by omega, by omega⟩⟩)⟩))
                            · simp only [cCmp, cE2, sev, svl, cen, List.cons_append, List.nil_append] at h
                              first
                              | omega
                              | skip
                                refine d_rng (by simp only [clo, chi, cE2, sev, svl, cen, List.cons_append, List.nil_append]; omega) ?_
                                refine d_rng (by simp only [clo, chi, cE2, sev, svl, cen, List.cons_append, List.nil_append]; omega) ?_
                                refine d_row 0 ((6 * p + k) - 1) (by simp only [cE2, sev, svl, cen, List.cons_append, List.nil_append]; omega) (by simp only [cE2, sev, svl, cen, List.cons_append, List.nil_append]; omega) (by omega) ?_
                                rw [e29']
                                refine d_br (fun h => ?_) (fun h => ?_)
                                · simp only [cCmp, cE2, sev, svl, cen, List.cons_append, List.nil_append] at h
                                  first
                                  | omega
                                  | skip
                                    refine d_call (m_isThere hp (Z := Z) (p := p) (ly := k - 1) (a := (M 34 0 a)) (b := (M 34 0 hh)) hI hX hz hp9 hl' (by omega)) (by simp [cAs, cE2, sev, svl, cen] <;> omega) ?_
                                    intro rr M' hq
                                    obtain ⟨hM', hq⟩ := hq
                                    rw [hM']
                                    rcases hq with ⟨rfl, q10⟩ | ⟨rfl, q10⟩
                                    · refine ⟨rfl, ?_⟩
                                      refine d_br (fun h => ?_) (fun h => ?_)
                                      · simp only [cCmp, cE2, sev, svl, cen, List.cons_append, List.nil_append] at h
                                        omega
                                      · clear h
                                        exact d_ret [1] rfl (by decide) (by first | exact c1 (M 34 0 a) (by split <;> omega) (by assumption) | exact c1 6 (by split <;> omega) (by assumption) | exact hP (Or.inr ⟨hlt, Or.inr (Or.inr ⟨hd, Or.inl ⟨by omega, by omega⟩⟩)⟩))
                                    · refine ⟨rfl, ?_⟩
                                      refine d_br (fun h => ?_) (fun h => ?_)
                                      · clear h
                                        exact d_ret [0] rfl (by decide) (by first | exact c0 (M 34 0 a) (by split <;> omega) (by omega) (by assumption) | exact c0 6 (by split <;> omega) (by omega) (by assumption))
                                      · simp only [cCmp, cE2, sev, svl, cen, List.cons_append, List.nil_append] at h
                                        omega
                                · simp only [cCmp, cE2, sev, svl, cen, List.cons_append, List.nil_append] at h
                                  first
                                  | omega
                                  | skip
                                    refine d_call (m_isThere hp (Z := Z) (p := p) (ly := k - 1) (a := 6) (b := (M 34 0 hh)) hI hX hz hp9 hl' (by omega)) (by simp [cAs, cE2, sev, svl, cen] <;> omega) ?_
                                    intro rr M' hq
                                    obtain ⟨hM', hq⟩ := hq
                                    rw [hM']
                                    rcases hq with ⟨rfl, q10⟩ | ⟨rfl, q10⟩
                                    · refine ⟨rfl, ?_⟩
                                      refine d_br (fun h => ?_) (fun h => ?_)
                                      · simp only [cCmp, cE2, sev, svl, cen, List.cons_append, List.nil_append] at h
                                        omega
                                      · clear h
                                        exact d_ret [1] rfl (by decide) (by first | exact c1 (M 34 0 a) (by split <;> omega) (by assumption) | exact c1 6 (by split <;> omega) (by assumption) | exact hP (Or.inr ⟨hlt, Or.inr (Or.inr ⟨hd, Or.inl ⟨by omega, by omega⟩⟩)⟩))
                                    · refine ⟨rfl, ?_⟩
                                      refine d_br (fun h => ?_) (fun h => ?_)
                                      · clear h
                                        exact d_ret [0] rfl (by decide) (by first | exact c0 (M 34 0 a) (by split <;> omega) (by omega) (by assumption) | exact c0 6 (by split <;> omega) (by omega) (by assumption))
                                      · simp only [cCmp, cE2, sev, svl, cen, List.cons_append, List.nil_append] at h
                                        omega
                    · simp only [cCmp, cE2, sev, svl, cen, List.cons_append, List.nil_append] at h
                      first
                      | omega
                      | skip
                        refine d_call (m_isThere hp (Z := Z) (p := p) (ly := k - 1) (a := 6) (b := 6) hI hX hz hp9 hl' (by omega)) (by simp [cAs, cE2, sev, svl, cen] <;> omega) ?_
                        intro rr M' hq
                        obtain ⟨hM', hq⟩ := hq
                        rw [hM']
                        rcases hq with ⟨rfl, q8⟩ | ⟨rfl, q8⟩
                        · refine ⟨rfl, ?_⟩
                          refine d_br (fun h => ?_) (fun h => ?_)
                          · simp only [cCmp, cE2, sev, svl, cen, List.cons_append, List.nil_append] at h
                            omega
                          · clear h
                            refine d_br (fun h => ?_) (fun h => ?_)
                            · simp only [cCmp, cE2, sev, svl, cen, List.cons_append, List.nil_append] at h
                              first
                              | omega
                              | skip
                                exact d_ret [1] rfl (by decide) (by first | exact c1 (M 34 0 a) (by split <;> omega) (by assumption) | exact c1 6 (by split <;> omega) (by assumption) | exact hP (Or.inr ⟨hlt, Or.inr (Or.inr ⟨hd, Or.inl ⟨by omega, by omega⟩⟩)⟩))
                            · simp only [cCmp, cE2, sev, svl, cen, List.cons_append, List.nil_append] at h
                              first
                              | omega
                              | skip
                                refine d_br (fun h => ?_) (fun h => ?_)
                                · simp only [cCmp, cE2, sev, svl, cen, List.cons_append, List.nil_append] at h
                                  first
                                  | omega
                                  | skip
                                    exact d_ret [0] rfl (by decide) (by first | exact c0 (M 34 0 a) (by split <;> omega) (by omega) (by assumption) | exact c0 6 (by split <;> omega) (by omega) (by assumption))
                                · simp only [cCmp, cE2, sev, svl, cen, List.cons_append, List.nil_append] at h
                                  first
                                  | omega
                                  | skip
                                    exact d_ret [1] rfl (by decide) (by first | exact c1 (M 34 0 a) (by split <;> omega) (by assumption) | exact c1 6 (by split <;> omega) (by assumption) | exact hP (Or.inr ⟨hlt, Or.inr (Or.inr ⟨hd, Or.inl ⟨by omega, by omega⟩⟩)⟩))
                        · refine ⟨rfl, ?_⟩
                          refine d_br (fun h => ?_) (fun h => ?_)
                          · clear h
                            exact d_ret [0] rfl (by decide) (by first | exact c0 (M 34 0 a) (by split <;> omega) (by omega) (by assumption) | exact c0 6 (by split <;> omega) (by omega) (by assumption))
                          · simp only [cCmp, cE2, sev, svl, cen, List.cons_append, List.nil_append] at h
                            omega
                · simp only [cCmp, cE2, sev, svl, cen, List.cons_append, List.nil_append] at h
                  first
                  | omega
                  | skip
                    refine d_call (m_isThere hp (Z := Z) (p := p) (ly := k - 1) (a := (M 34 0 hh)) (b := 6) hI hX hz hp9 hl' (by omega)) (by simp [cAs, cE2, sev, svl, cen] <;> omega) ?_
                    intro rr M' hq
                    obtain ⟨hM', hq⟩ := hq
                    rw [hM']
                    rcases hq with ⟨rfl, q6⟩ | ⟨rfl, q6⟩
                    · refine ⟨rfl, ?_⟩
                      exact d_ret [1] rfl (by decide) (by first | exact c1 (M 34 0 a) (by split <;> omega) (by assumption) | exact c1 6 (by split <;> omega) (by assumption) | exact hP (Or.inr ⟨hlt, Or.inr (Or.inr ⟨hd, Or.inl ⟨by omega, by omega⟩⟩)⟩))
                    · refine ⟨rfl, ?_⟩
                      exact d_ret [0] rfl (by decide) (by first | exact c0 (M 34 0 a) (by split <;> omega) (by omega) (by assumption) | exact c0 6 (by split <;> omega) (by omega) (by assumption))
        · simp only [cCmp, cE2, sev, svl, cen, List.cons_append, List.nil_append] at h
          first
          | omega
          | skip
            refine d_rng (by simp only [clo, chi, cE2, sev, svl, cen, List.cons_append, List.nil_append]; omega) ?_
            refine d_rng (by simp only [clo, chi, cE2, sev, svl, cen, List.cons_append, List.nil_append]; omega) ?_
            refine d_row 0 (6 * p + k) (by simp only [cE2, sev, svl, cen, List.cons_append, List.nil_append]; omega) (by simp only [cE2, sev, svl, cen, List.cons_append, List.nil_append]; omega) (by omega) ?_
            refine d_row 0 (((M 28 0 (6 * p + k))).toNat) (by simp only [cE2, sev, svl, cen, List.cons_append, List.nil_append]; omega) (by simp only [cE2, sev, svl, cen, List.cons_append, List.nil_append]; omega) (by omega) ?_
            refine d_br (fun h => ?_) (fun h => ?_)
            · simp only [cCmp, cE2, sev, svl, cen, List.cons_append, List.nil_append] at h
              first
              | omega
              | skip
                refine d_rng (by simp only [clo, chi, cE2, sev, svl, cen, List.cons_append, List.nil_append]; omega) ?_
                refine d_cut [(p : Int), (k : Int), ((6 * p + k : Nat) : Int), (M 34 0 hh), ((k : Int) + 1)] (by simp [cE2, sev, svl, cen] <;> omega) ?_
                exact ⟨rfl, rfl⟩
            · simp only [cCmp, cE2, sev, svl, cen, List.cons_append, List.nil_append] at h
              first
              | omega
              | skip
                exact d_ret [0] rfl (by decide) (by first | exact c0 (M 34 0 a) (by split <;> omega) (by omega) (by assumption) | exact c0 6 (by split <;> omega) (by omega) (by assumption))
      · rw [hd] at e29
        refine cEnds_at gX10_lets_m31 rfl ?_
        refine d_br (fun h => ?_) (fun h => ?_)
        · simp only [cCmp, cE2, sev, svl, cen, List.cons_append, List.nil_append] at h
          first
          | omega
          | skip
            refine d_row 0 ((6 * p + k)) (by simp only [cE2, sev, svl, cen, List.cons_append, List.nil_append]; omega) (by simp only [cE2, sev, svl, cen, List.cons_append, List.nil_append]; omega) (by omega) ?_
            rw [e29]
            refine d_br (fun h => ?_) (fun h => ?_)
            · simp only [cCmp, cE2, sev, svl, cen, List.cons_append, List.nil_append] at h
              omega
            · clear h
              refine d_br (fun h => ?_) (fun h => ?_)
              · simp only [cCmp, cE2, sev, svl, cen, List.cons_append, List.nil_append] at h
                omega
              · clear h
                refine d_call (m_isThere hp (Z := Z) (p := p) (ly := k) (a := (M 34 0 hh)) (b := 6) hI hX hz hp9 hl he) (by simp [cAs, cE2, sev, svl, cen] <;> omega) ?_
                intro rr M' hq
                obtain ⟨hM', hq⟩ := hq
                rw [hM']
                rcases hq with ⟨rfl, q6⟩ | ⟨rfl, q6⟩
                · refine ⟨rfl, ?_⟩
                  exact d_ret [1] rfl (by decide) (hP (Or.inr ⟨hlt, Or.inl ⟨Or.inr hd, q6⟩⟩))
                · refine ⟨rfl, ?_⟩
                  exact d_ret [0] rfl (by decide) (hN (fun y => y.elim hown (fun y => y.2.elim (fun z => q6 z.2) (fun z => z.elim (fun z => by have := z.1; omega) (fun z => by have := z.1; omega)))))
        · simp only [cCmp, cE2, sev, svl, cen, List.cons_append, List.nil_append] at h
          first
          | omega
          | skip
            refine d_rng (by simp only [clo, chi, cE2, sev, svl, cen, List.cons_append, List.nil_append]; omega) ?_
            refine d_rng (by simp only [clo, chi, cE2, sev, svl, cen, List.cons_append, List.nil_append]; omega) ?_
            refine d_row 0 (6 * p + k) (by simp only [cE2, sev, svl, cen, List.cons_append, List.nil_append]; omega) (by simp only [cE2, sev, svl, cen, List.cons_append, List.nil_append]; omega) (by omega) ?_
            refine d_row 0 (((M 28 0 (6 * p + k))).toNat) (by simp only [cE2, sev, svl, cen, List.cons_append, List.nil_append]; omega) (by simp only [cE2, sev, svl, cen, List.cons_append, List.nil_append]; omega) (by omega) ?_
            refine d_br (fun h => ?_) (fun h => ?_)
            · simp only [cCmp, cE2, sev, svl, cen, List.cons_append, List.nil_append] at h
              first
              | omega
              | skip
                refine d_rng (by simp only [clo, chi, cE2, sev, svl, cen, List.cons_append, List.nil_append]; omega) ?_
                refine d_cut [(p : Int), (k : Int), ((6 * p + k : Nat) : Int), (M 34 0 hh), ((k : Int) + 1)] (by simp [cE2, sev, svl, cen] <;> omega) ?_
                exact ⟨rfl, rfl⟩
            · simp only [cCmp, cE2, sev, svl, cen, List.cons_append, List.nil_append] at h
              first
              | omega
              | skip
                exact d_ret [0] rfl (by decide) (hN (fun y => y.elim hown (fun y => y.2.elim (fun z => q6 z.2) (fun z => z.elim (fun z => by have := z.1; omega) (fun z => by have := z.1; omega)))))
      · rw [hd] at e29
        have e28' := e28' (by omega)
        refine cEnds_at gX10_lets_m31 rfl ?_
        refine d_br (fun h => ?_) (fun h => ?_)
        · simp only [cCmp, cE2, sev, svl, cen, List.cons_append, List.nil_append] at h
          first
          | omega
          | skip
            refine d_row 0 ((6 * p + k)) (by simp only [cE2, sev, svl, cen, List.cons_append, List.nil_append]; omega) (by simp only [cE2, sev, svl, cen, List.cons_append, List.nil_append]; omega) (by omega) ?_
            rw [e29]
            refine d_br (fun h => ?_) (fun h => ?_)
            · simp only [cCmp, cE2, sev, svl, cen, List.cons_append, List.nil_append] at h
              omega
            · clear h
              refine d_br (fun h => ?_) (fun h => ?_)
              · clear h
                refine d_rng (by simp only [clo, chi, cE2, sev, svl, cen, List.cons_append, List.nil_append]; omega) ?_
                refine d_row 0 ((6 * p + k) - 1) (by simp only [cE2, sev, svl, cen, List.cons_append, List.nil_append]; omega) (by simp only [cE2, sev, svl, cen, List.cons_append, List.nil_append]; omega) (by omega) ?_
                rw [e28']
                refine d_row 0 a (by simp only [cE2, sev, svl, cen, List.cons_append, List.nil_append]; omega) (by simp only [cE2, sev, svl, cen, List.cons_append, List.nil_append]; omega) (by omega) ?_
                refine d_br (fun h => ?_) (fun h => ?_)
                · simp only [cCmp, cE2, sev, svl, cen, List.cons_append, List.nil_append] at h
                  omega
                · clear h
                  refine d_call (m_isThere hp (Z := Z) (p := p) (ly := k) (a := 6) (b := 6) hI hX hz hp9 hl he) (by simp [cAs, cE2, sev, svl, cen] <;> omega) ?_
                  intro rr M' hq
                  obtain ⟨hM', hq⟩ := hq
                  rw [hM']
                  rcases hq with ⟨rfl, q8⟩ | ⟨rfl, q8⟩
                  · refine ⟨rfl, ?_⟩
                    refine d_br (fun h => ?_) (fun h => ?_)
                    · simp only [cCmp, cE2, sev, svl, cen, List.cons_append, List.nil_append] at h
                      omega
                    · clear h
                      refine d_br (fun h => ?_) (fun h => ?_)
                      · simp only [cCmp, cE2, sev, svl, cen, List.cons_append, List.nil_append] at h
                        first
                        | omega
                        | skip
                          exact d_ret [1] rfl (by decide) (hP (Or.inr ⟨hlt, Or.inr (Or.inl ⟨hd, q8, by omega⟩)⟩))
                      · simp only [cCmp, cE2, sev, svl, cen, List.cons_append, List.nil_append] at h
                        first
                        | omega
                        | skip
                          refine d_br (fun h => ?_) (fun h => ?_)
                          · simp only [cCmp, cE2, sev, svl, cen, List.cons_append, List.nil_append] at h
                            first
                            | omega
                            | skip
                              exact d_ret [0] rfl (by decide) (hN (fun y => y.elim hown (fun y => y.2.elim (fun z => by have := z.1; omega) (fun z => z.elim (fun z => by first | exact absurd z.2.1 (by assumption) | (have := z.2.2; omega)) (fun z => by have := z.1; omega)))))
                          · simp only [cCmp, cE2, sev, svl, cen, List.cons_append, List.nil_append] at h
                            first
                            | omega
                            | skip
                              exact d_ret [1] rfl (by decide) (hP (Or.inr ⟨hlt, Or.inr (Or.inl ⟨hd, q8, by omega⟩)⟩))
                  · refine ⟨rfl, ?_⟩
                    refine d_br (fun h => ?_) (fun h => ?_)
                    · clear h
                      exact d_ret [0] rfl (by decide) (hN (fun y => y.elim hown (fun y => y.2.elim (fun z => by have := z.1; omega) (fun z => z.elim (fun z => by first | exact absurd z.2.1 (by assumption) | (have := z.2.2; omega)) (fun z => by have := z.1; omega)))))
                    · simp only [cCmp, cE2, sev, svl, cen, List.cons_append, List.nil_append] at h
                      omega
              · simp only [cCmp, cE2, sev, svl, cen, List.cons_append, List.nil_append] at h
                omega
        · simp only [cCmp, cE2, sev, svl, cen, List.cons_append, List.nil_append] at h
          first
          | omega
          | skip
            refine d_rng (by simp only [clo, chi, cE2, sev, svl, cen, List.cons_append, List.nil_append]; omega) ?_
            refine d_rng (by simp only [clo, chi, cE2, sev, svl, cen, List.cons_append, List.nil_append]; omega) ?_
            refine d_row 0 (6 * p + k) (by simp only [cE2, sev, svl, cen, List.cons_append, List.nil_append]; omega) (by simp only [cE2, sev, svl, cen, List.cons_append, List.nil_append]; omega) (by omega) ?_
            refine d_row 0 (((M 28 0 (6 * p + k))).toNat) (by simp only [cE2, sev, svl, cen, List.cons_append, List.nil_append]; omega) (by simp only [cE2, sev, svl, cen, List.cons_append, List.nil_append]; omega) (by omega) ?_
            refine d_br (fun h => ?_) (fun h => ?_)
            · simp only [cCmp, cE2, sev, svl, cen, List.cons_append, List.nil_append] at h
              first
              | omega
              | skip
                refine d_rng (by simp only [clo, chi, cE2, sev, svl, cen, List.cons_append, List.nil_append]; omega) ?_
                refine d_cut [(p : Int), (k : Int), ((6 * p + k : Nat) : Int), (M 34 0 hh), ((k : Int) + 1)] (by simp [cE2, sev, svl, cen] <;> omega) ?_
                exact ⟨rfl, rfl⟩
            · simp only [cCmp, cE2, sev, svl, cen, List.cons_append, List.nil_append] at h
              first
              | omega
              | skip
                exact d_ret [0] rfl (by decide) (hN (fun y => y.elim hown (fun y => y.2.elim (fun z => by have := z.1; omega) (fun z => z.elim (fun z => by first | exact absurd z.2.1 (by assumption) | (have := z.2.2; omega)) (fun z => by have := z.1; omega)))))
    | succ m ih =>
      intro k hk hlt
      have hkl : k < Z.1 p := by omega
      obtain ⟨a, ea⟩ : ∃ a : Nat, a = Z.2.1 p k := ⟨_, rfl⟩
      have ha6 : a < 6 := by rw [ea]; exact w1 p k
      have e28' : M 28 0 (6 * p + k) = (a : Int) := by rw [(hz.2.1 p k hp9 hkl).1, ea]
      refine cEnds_at gX10_lets_m31 rfl ?_
      refine d_br (fun h => ?_) (fun h => ?_)
      · simp only [cCmp, cE2, sev, svl, cen, List.cons_append, List.nil_append] at h
        omega
      · clear h
        refine d_rng (by simp only [clo, chi, cE2, sev, svl, cen, List.cons_append, List.nil_append]; omega) ?_
        refine d_rng (by simp only [clo, chi, cE2, sev, svl, cen, List.cons_append, List.nil_append]; omega) ?_
        refine d_row 0 (6 * p + k) (by simp only [cE2, sev, svl, cen, List.cons_append, List.nil_append]; omega) (by simp only [cE2, sev, svl, cen, List.cons_append, List.nil_append]; omega) (by omega) ?_
        rw [e28']
        refine d_row 0 a (by simp only [cE2, sev, svl, cen, List.cons_append, List.nil_append]; omega) (by simp only [cE2, sev, svl, cen, List.cons_append, List.nil_append]; omega) (by omega) ?_
        refine d_br (fun h => ?_) (fun h => ?_)
        · simp only [cCmp, cE2, sev, svl, cen, List.cons_append, List.nil_append] at h
          refine d_rng (by simp only [clo, chi, cE2, sev, svl, cen, List.cons_append, List.nil_append]; omega) ?_
          refine d_cut [(p : Int), (ly : Int), ((6 * p + ly : Nat) : Int), M 34 0 hh, ((k + 1 : Nat) : Int)] (by simp [cE2, sev, svl, cen] <;> omega) ?_
          refine ih (k + 1) (by omega) (fun i hi => ?_)
          by_cases e : i = k
          · rw [e, ← ea]
            omega
          · exact hlt i (by omega)
        · simp only [cCmp, cE2, sev, svl, cen, List.cons_append, List.nil_append] at h
          exact d_ret [0] rfl (by decide) (hN (fun y => y.elim hown (fun y => by
            have := y.1 k (by omega)
            rw [← ea] at this
            omega)))
  refine cEnds_at gX10_lets_m0 rfl ?_
  refine d_rng (by simp only [clo, chi, cE2, sev, svl, cen, List.cons_append, List.nil_append]; omega) ?_
  refine d_rng (by simp only [clo, chi, cE2, sev, svl, cen, List.cons_append, List.nil_append]; omega) ?_
  refine d_row 0 (6 * p + ly) (by simp only [cE2, sev, svl, cen, List.cons_append, List.nil_append]; omega) (by simp only [cE2, sev, svl, cen, List.cons_append, List.nil_append]; omega) (by omega) ?_
  rw [e28]
  refine d_row 0 hh (by simp only [cE2, sev, svl, cen, List.cons_append, List.nil_append]; omega) (by simp only [cE2, sev, svl, cen, List.cons_append, List.nil_append]; omega) hh6 ?_
  refine d_br (fun h => ?_) (fun h => ?_)
  · simp only [cCmp, cE2, sev, svl, cen, List.cons_append, List.nil_append] at h
    refine d_cut [(p : Int), (ly : Int), ((6 * p + ly : Nat) : Int), M 34 0 hh, ((0 : Nat) : Int)] (by simp [cE2, sev, svl, cen] <;> omega) ?_
    exact loop (by omega) ly 0 (by omega) (fun i hi => absurd hi (Nat.not_lt_zero _))
  · simp only [cCmp, cE2, sev, svl, cen, List.cons_append, List.nil_append] at h
    exact d_ret [1] rfl (by decide) (hP (Or.inl (by omega)))
theorem m_letsAll (hp : cPl tm tc tf EX) {Z : STZ} {M : SMem} (hI : sI tg M) (hX : sX M) (hZ : sWf Z) (hz : sMz Z M) (h34 : M 1 0 34 = 0) : cBG tm tf EX l dC dI cA ad scrS (d + 9) kX10_letsAll [(2, 1, 0)] M (fun rr MM => MM = M ∧ ((rr = [1] ∧ (sAll Z (M 34 0))) ∨ (rr = [0] ∧ ¬ (sAll Z (M 34 0))))) := by
  refine cMeth (v := []) (Fd := 90) hp (by decide) gX10_letsAll_ok gX10_letsAll_m0 (by simp [cAs, cE2, sev, svl, cen]) ?_
  suffices H : ∀ Po : List Int → SMem → Prop, (sAll Z (M 34 0) → Po [1] M) → (¬ sAll Z (M 34 0) → Po [0] M) → cEnds (cBG tm tf EX l dC dI cA ad scrS (d + 8)) Po 90 gX10_letsAll 0 [] M from H _ (fun w => ⟨rfl, Or.inl ⟨rfl, w⟩⟩) (fun w => ⟨rfl, Or.inr ⟨rfl, w⟩⟩)
  intro Po hP hN
  have l2 : ∀ (m p : Nat), p + m = 12 → (∀ q, q < p → ∀ ly, ly < Z.1 q → sLet Z (M 34 0) q ly) → cEnds (cBG tm tf EX l dC dI cA ad scrS (d + 8)) Po 90 gX10_letsAll 2 [(p : Int)] M := by
    intro m
    induction m with
    | zero =>
      intro p hpm hq
      refine cEnds_at gX10_letsAll_m2 rfl ?_
      refine d_br (fun h => ?_) (fun h => ?_)
      · exact d_ret [1] rfl (by decide) (hP (fun q hq9 ly hl => hq q (by omega) ly hl))
      · simp only [cCmp, cE2, sev, svl, cen, List.cons_append, List.nil_append] at h
        omega
    | succ m ih =>
      intro p hpm hq
      have hp9 : p < 12 := by omega
      have s6 := (hz.1 p hp9).2.2
      have l10 : ∀ (n ly : Nat), ly + n = Z.1 p → (∀ i, i < ly → sLet Z (M 34 0) p i) → cEnds (cBG tm tf EX l dC dI cA ad scrS (d + 8)) Po 90 gX10_letsAll 10 [(p : Int), (ly : Int)] M := by
        intro n
        induction n with
        | zero =>
          intro ly hl hi
          refine cEnds_at gX10_letsAll_m10 rfl ?_
          refine d_call (m_cutsOf hp (Z := Z) (p := p) hz h34 hp9) (by simp [cAs, cE2, sev, svl, cen] <;> omega) ?_
          intro rr M' hq
          obtain ⟨hM', rfl⟩ := hq
          rw [hM']
          refine ⟨rfl, ?_⟩
          refine d_br (fun h => ?_) (fun h => ?_)
          · simp only [cCmp, cE2, sev, svl, cen, List.cons_append, List.nil_append] at h
            first
            | omega
            | skip
              refine d_rng (by simp only [clo, chi, cE2, sev, svl, cen, List.cons_append, List.nil_append]; omega) ?_
              refine d_cut [((p + 1 : Nat) : Int)] (by simp [cE2, sev, svl, cen] <;> omega) ?_
              refine ih (p + 1) (by omega) (fun q hq9 l' hl' => ?_)
              by_cases e : q = p
              · subst e; exact hi l' (by omega)
              · exact hq q (by omega) l' hl'
          · simp only [cCmp, cE2, sev, svl, cen, List.cons_append, List.nil_append] at h
            first
            | omega
            | skip
              omega
        | succ n ihn =>
          intro ly hl hi
          refine cEnds_at gX10_letsAll_m10 rfl ?_
          refine d_call (m_cutsOf hp (Z := Z) (p := p) hz h34 hp9) (by simp [cAs, cE2, sev, svl, cen] <;> omega) ?_
          intro rr M' hq
          obtain ⟨hM', rfl⟩ := hq
          rw [hM']
          refine ⟨rfl, ?_⟩
          refine d_br (fun h => ?_) (fun h => ?_)
          · simp only [cCmp, cE2, sev, svl, cen, List.cons_append, List.nil_append] at h
            first
            | omega
            | skip
              refine d_rng (by simp only [clo, chi, cE2, sev, svl, cen, List.cons_append, List.nil_append]; omega) ?_
              refine d_cut [((p : Int) + 1)] (by simp [cE2, sev, svl, cen] <;> omega) ?_
              exact (by omega)
          · simp only [cCmp, cE2, sev, svl, cen, List.cons_append, List.nil_append] at h
            first
            | omega
            | skip
              refine d_call (m_lets hp (Z := Z) (p := p) (ly := ly) hI hX hZ hz hp9 (by omega)) (by simp [cAs, cE2, sev, svl, cen] <;> omega) ?_
              intro rr M' hq
              obtain ⟨hM', hq⟩ := hq
              rw [hM']
              rcases hq with ⟨rfl, q3⟩ | ⟨rfl, q3⟩
              · refine ⟨rfl, ?_⟩
                refine d_br (fun h => ?_) (fun h => ?_)
                · clear h
                  refine d_rng (by simp only [clo, chi, cE2, sev, svl, cen, List.cons_append, List.nil_append]; omega) ?_
                  refine d_cut [(p : Int), ((ly + 1 : Nat) : Int)] (by simp [cE2, sev, svl, cen] <;> omega) ?_
                  refine ihn (ly + 1) (by omega) (fun i hi9 => ?_)
                  by_cases e : i = ly
                  · rw [e]; exact q3
                  · exact hi i (by omega)
                · simp only [cCmp, cE2, sev, svl, cen, List.cons_append, List.nil_append] at h
                  omega
              · refine ⟨rfl, ?_⟩
                refine d_br (fun h => ?_) (fun h => ?_)
                · simp only [cCmp, cE2, sev, svl, cen, List.cons_append, List.nil_append] at h
                  omega
                · clear h
                  exact d_ret [0] rfl (by decide) (hN (fun w => q3 (w p hp9 ly (by omega))))
      refine cEnds_at gX10_letsAll_m2 rfl ?_
      refine d_br (fun h => ?_) (fun h => ?_)
      · simp only [cCmp, cE2, sev, svl, cen, List.cons_append, List.nil_append] at h
        omega
      · refine d_cut [(p : Int), ((0 : Nat) : Int)] (by simp [cE2, sev, svl, cen] <;> omega) ?_
        exact l10 (Z.1 p) 0 (by omega) (fun i hi => absurd hi (Nat.not_lt_zero _))
  refine cEnds_at gX10_letsAll_m0 rfl ?_
  refine d_cut [((0 : Nat) : Int)] (by simp [cE2, sev, svl, cen] <;> omega) ?_
  exact l2 12 0 (by omega) (fun q hq => absurd hq (Nat.not_lt_zero _))
end CS16
