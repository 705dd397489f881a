/-! what the methods do: the class's calls on blocks -/
theorem wBt_0 {b : Nat → Bool} : ∀ k, (∀ i, i < k → b i = false) → wBt b k = 0 := by
  intro k
  induction k with
  | zero => intro _; rfl
  | succ k ih =>
    intro h
    rw [wBt_n (h k (by omega)), ih (fun i hi => h i (by omega))]
/-- what the class has found out -/
def bOk (M : SMem) : Prop := M 11 0 5 = ((bCnt (M 86 0) (M 87 0) (M 88 0) (M 89 0) 6 0 : Nat) : Int) ∧ ∀ k, k < 6 → M 90 0 k = wBt (wDc (bRc (M 86 0) (M 87 0) (M 88 0) (M 89 0) 6 0 k)) 6
def bTell (M : SMem) (a : Nat) (x y z : Int) : SMem := supd (supd (supd (supd (supd M 86 0 a 1) 87 0 a x) 88 0 a y) 89 0 a z) 11 0 6 0
def bTellM (M : SMem) (a : Nat) (x y z : Int) : SMem := supd (supd (supd (supd M 51 0 a 1) 52 0 a x) 53 0 a y) 54 0 a z
section CB2
variable {EX : SEx} {l : Launch} {dC : Nat → ClassId} {dI : Nat → Nat → Nat} {cA : Nat → ClassId} {ad : SAd} {scrS d : Nat}
theorem b_layAll (hp : cPl tm tc tf EX) {M : SMem} (hI : sI tg M) (hc : M 11 0 6 ≠ 0 → bOk M) : cBG tm tf EX l dC dI cA ad scrS (d + 10) kX1_layAll [(2, 11, 0)] M (fun rr MM => rr = [] ∧ sI tg MM ∧ (∀ f j i, f ≠ 90 → f ≠ 11 → MM f j i = M f j i) ∧ bOk MM) := by
  refine cMeth (v := []) (Fd := 90) hp (by decide) gX1_layAll_ok gX1_layAll_m0 (by simp [cAs, cE2, sev, svl, cen]) ?_
  have loop : ∀ (m k : Nat) (M1 : SMem), k + m = 6 → sI tg M1 → (∀ f j i, f ≠ 90 → M1 f j i = M f j i) → (∀ i, i < k → M1 90 0 i = 0) → cEnds (cBG tm tf EX l dC dI cA ad scrS (d + 9)) (fun rr MM => rr = [] ∧ sI tg MM ∧ (∀ f j i, f ≠ 90 → f ≠ 11 → MM f j i = M f j i) ∧ bOk MM) 90 gX1_layAll 10 [(k : Int)] M1 := by
    intro m
    induction m with
    | zero =>
      intro k M1 hk i1 f1 z1
      have ek : k = 6 := by omega
      subst ek
      have c1 := Nat.le_trans (bCnt_le (T := M1 86 0) (L := M1 87 0) (R := M1 88 0) (C := M1 89 0) 6 0) (pow6 (Nat.le_refl 6))
      refine cEnds_at gX1_layAll_m10 rfl ?_
      refine d_br (fun h => ?_) (fun h => ?_)
      · refine d_call (b_layFrom (d := d) hp (T := M1 86 0) (L := M1 87 0) (R := M1 88 0) (C := M1 89 0) 6 (Nat.le_refl _) 0 (fun _ _ => False) M1 i1 rfl rfl rfl rfl (fun k hk => ?_)) (by simp [cAs, cE2, sev, svl, cen]) ?_
        · rw [z1 k hk, wBt_0 6 (fun i _ => wDc_n (P := fun _ => False) id)]
        rintro rr M2 ⟨rfl, i2, f2, s2⟩
        refine ⟨rfl, ?_⟩
        refine d_put 0 ((bCnt (M1 86 0) (M1 87 0) (M1 88 0) (M1 89 0) 6 0 : Nat) : Int) (by simp only [cE2, sev, svl, cen, List.cons_append, List.nil_append]; omega) (by simp only [cE2, sev, svl, cen, List.cons_append, List.nil_append]; omega) ?_
        refine d_rng (by simp only [clo, chi, cE2, sev, svl, cen, List.cons_append, List.nil_append]; omega) ?_
        refine d_put 0 1 (by simp only [cE2, sev, svl, cen, List.cons_append, List.nil_append]; omega) (by simp only [cE2, sev, svl, cen, List.cons_append, List.nil_append]; omega) ?_
        refine d_ret [] rfl (by decide) ⟨rfl, wI (lo := 0) (hi := 1) (wI (lo := -2147483648) (hi := 2147483647) i2 rfl ⟨by omega, by omega⟩) rfl ⟨by omega, by omega⟩, fun f j i z2 z3 => by rw [supd_f z3, supd_f z3, f2 f j i z2, f1 f j i z2], ?_⟩
        have e : ∀ f, f ≠ 90 → f ≠ 11 → supd (supd M2 11 0 5 ((bCnt (M1 86 0) (M1 87 0) (M1 88 0) (M1 89 0) 6 0 : Nat) : Int)) 11 0 6 1 f 0 = M1 f 0 := fun f z2 z3 => by
          funext i
          rw [supd_f z3, supd_f z3, f2 f 0 i z2]
        unfold bOk
        rw [e 86 (by decide) (by decide), e 87 (by decide) (by decide), e 88 (by decide) (by decide), e 89 (by decide) (by decide)]
        refine ⟨by rw [supd_i (by decide), supd_at], fun k hk => ?_⟩
        rw [supd_f (by decide), supd_f (by decide), s2 k hk]
        exact wBt_cg 6 (fun i _ => wDc_cg ⟨fun z => z.elim False.elim id, Or.inr⟩)
      · simp only [cCmp, cE2, sev, svl, cen, List.cons_append, List.nil_append] at h
        omega
    | succ m ih =>
      intro k M1 hk i1 f1 z1
      refine cEnds_at gX1_layAll_m10 rfl ?_
      refine d_br (fun h => ?_) (fun h => ?_)
      · simp only [cCmp, cE2, sev, svl, cen, List.cons_append, List.nil_append] at h
        omega
      · refine d_set 0 k 0 (by simp only [cE2, sev, svl, cen, List.cons_append, List.nil_append]; omega) (by simp only [cE2, sev, svl, cen, List.cons_append, List.nil_append]; omega) (by omega) (by simp only [cE2, sev, svl, cen, List.cons_append, List.nil_append]; omega) ?_
        refine d_rng (by simp only [clo, chi, cE2, sev, svl, cen, List.cons_append, List.nil_append]; omega) ?_
        refine d_cut [((k + 1 : Nat) : Int)] (by simp [cE2, sev, svl, cen] <;> omega) ?_
        refine ih (k + 1) _ (by omega) (wI (lo := -2147483648) (hi := 2147483647) i1 rfl ⟨by omega, by omega⟩) (fun f j i z => by rw [supd_f z, f1 f j i z]) (fun i hi => ?_)
        by_cases e : i = k
        · rw [e, supd_at]
        · rw [supd_i e]
          exact z1 i (by omega)
  refine cEnds_at gX1_layAll_m0 rfl ?_
  refine d_fld 0 (by simp only [cE2, sev, svl, cen, List.cons_append, List.nil_append]; omega) ?_
  refine d_br (fun h => ?_) (fun h => ?_)
  · refine d_cut [((0 : Nat) : Int)] (by simp [cE2, sev, svl, cen] <;> omega) ?_
    exact loop 6 0 M (by omega) hI (fun _ _ _ _ => rfl) (fun i hi => by omega)
  · simp only [cCmp, cE2, sev, svl, cen, List.cons_append, List.nil_append] at h
    exact d_ret [] rfl (by decide) ⟨rfl, hI, fun _ _ _ _ _ => rfl, hc (by omega)⟩
theorem b_block (hp : cPl tm tc tf EX) {gp n x y z : Int} {M : SMem} : cBG tm tf EX l dC dI cA ad scrS (d + 2) kX9_block [(2, 0, 0), (0, 0, gp), (0, 0, n), (0, 0, x), (0, 0, y), (0, 0, z)] M (fun rr MM => (((0 ≤ n ∧ n < 6) ∧ (0 ≤ x ∧ x < 1000) ∧ (0 ≤ y ∧ y < 1000) ∧ (0 ≤ z ∧ z < 10) ∧ (gp = 0 ∨ (x ≠ 0 ∧ y ≠ 0))) ∧ rr = [1] ∧ MM = bTell M (if gp = 0 then n.toNat else n.toNat + 6) x y z) ∨ (¬ ((0 ≤ n ∧ n < 6) ∧ (0 ≤ x ∧ x < 1000) ∧ (0 ≤ y ∧ y < 1000) ∧ (0 ≤ z ∧ z < 10) ∧ (gp = 0 ∨ (x ≠ 0 ∧ y ≠ 0))) ∧ rr = [0] ∧ MM = M)) := by
  refine cMeth (v := [gp, n, x, y, z]) (Fd := 90) hp (by decide) gX9_block_ok gX9_block_m0 (by simp [cAs, cE2, sev, svl, cen]) ?_
  have s76 : ((0 ≤ n ∧ n < 6) ∧ (0 ≤ x ∧ x < 1000) ∧ (0 ≤ y ∧ y < 1000) ∧ (0 ≤ z ∧ z < 10) ∧ (gp = 0 ∨ (x ≠ 0 ∧ y ≠ 0))) → cEnds (cBG tm tf EX l dC dI cA ad scrS (d + 1)) (fun rr MM => (((0 ≤ n ∧ n < 6) ∧ (0 ≤ x ∧ x < 1000) ∧ (0 ≤ y ∧ y < 1000) ∧ (0 ≤ z ∧ z < 10) ∧ (gp = 0 ∨ (x ≠ 0 ∧ y ≠ 0))) ∧ rr = [1] ∧ MM = bTell M (if gp = 0 then n.toNat else n.toNat + 6) x y z) ∨ (¬ ((0 ≤ n ∧ n < 6) ∧ (0 ≤ x ∧ x < 1000) ∧ (0 ≤ y ∧ y < 1000) ∧ (0 ≤ z ∧ z < 10) ∧ (gp = 0 ∨ (x ≠ 0 ∧ y ≠ 0))) ∧ rr = [0] ∧ MM = M)) 90 gX9_block 76 [gp, n, x, y, z] M := by
    intro hB
    refine cEnds_at gX9_block_m76 rfl ?_
    refine d_br (fun h => ?_) (fun h => ?_)
    · simp only [cCmp, cE2, sev, svl, cen, List.cons_append, List.nil_append] at h
      refine d_call (b_btell hp (a := n.toNat) (x := x) (y := y) (z := z) (by omega)) (by simp [cAs, cE2, sev, svl, cen] <;> omega) ?_
      rintro rr M' ⟨rfl, hM'⟩
      rw [hM']
      refine ⟨rfl, ?_⟩
      exact d_ret [1] rfl (by decide) (Or.inl ⟨hB, rfl, by rw [if_pos (by omega)]; rfl⟩)
    · simp only [cCmp, cE2, sev, svl, cen, List.cons_append, List.nil_append] at h
      refine d_rng (by simp only [clo, chi, cE2, sev, svl, cen, List.cons_append, List.nil_append]; omega) ?_
      refine d_call (b_btell hp (a := n.toNat + 6) (x := x) (y := y) (z := z) (by omega)) (by simp [cAs, cE2, sev, svl, cen] <;> omega) ?_
      rintro rr M' ⟨rfl, hM'⟩
      rw [hM']
      refine ⟨rfl, ?_⟩
      exact d_ret [1] rfl (by decide) (Or.inl ⟨hB, rfl, by rw [if_neg (by omega)]; rfl⟩)
  refine cEnds_at gX9_block_m0 rfl ?_
  refine d_br (fun h => ?_) (fun h => ?_)
  · simp only [cCmp, cE2, sev, svl, cen, List.cons_append, List.nil_append] at h
    first
    | omega
    | skip
      refine d_call (b_isBelow hp (x := n) (y := 6)) (by simp [cAs, cE2, sev, svl, cen] <;> omega) ?_
      intro rr M' hq
      obtain ⟨hM', hq⟩ := hq
      rw [hM']
      rcases hq with ⟨rfl, q5⟩ | ⟨rfl, q5⟩
      · refine ⟨rfl, ?_⟩
        refine d_br (fun h => ?_) (fun h => ?_)
        · simp only [cCmp, cE2, sev, svl, cen, List.cons_append, List.nil_append] at h
          omega
        · clear h
          refine d_call (b_isBelow hp (x := x) (y := 1000)) (by simp [cAs, cE2, sev, svl, cen] <;> omega) ?_
          intro rr M' hq
          obtain ⟨hM', hq⟩ := hq
          rw [hM']
          rcases hq with ⟨rfl, q6⟩ | ⟨rfl, q6⟩
          · refine ⟨rfl, ?_⟩
            refine d_br (fun h => ?_) (fun h => ?_)
            · simp only [cCmp, cE2, sev, svl, cen, List.cons_append, List.nil_append] at h
              omega
            · clear h
              refine d_call (b_isBelow hp (x := y) (y := 1000)) (by simp [cAs, cE2, sev, svl, cen] <;> omega) ?_
              intro rr M' hq
              obtain ⟨hM', hq⟩ := hq
              rw [hM']
              rcases hq with ⟨rfl, q7⟩ | ⟨rfl, q7⟩
              · refine ⟨rfl, ?_⟩
                refine d_br (fun h => ?_) (fun h => ?_)
                · simp only [cCmp, cE2, sev, svl, cen, List.cons_append, List.nil_append] at h
                  omega
                · clear h
                  refine d_call (b_isBelow hp (x := z) (y := 10)) (by simp [cAs, cE2, sev, svl, cen] <;> omega) ?_
                  intro rr M' hq
                  obtain ⟨hM', hq⟩ := hq
                  rw [hM']
                  rcases hq with ⟨rfl, q8⟩ | ⟨rfl, q8⟩
                  · refine ⟨rfl, ?_⟩
                    refine d_br (fun h => ?_) (fun h => ?_)
                    · simp only [cCmp, cE2, sev, svl, cen, List.cons_append, List.nil_append] at h
                      omega
                    · clear h
                      refine d_br (fun h => ?_) (fun h => ?_)
                      · simp only [cCmp, cE2, sev, svl, cen, List.cons_append, List.nil_append] at h
                        first
                        | omega
                        | skip
                          exact d_cut [gp, n, x, y, z] (by simp [cE2, sev, svl, cen] <;> omega) (s76 (by omega))
                      · simp only [cCmp, cE2, sev, svl, cen, List.cons_append, List.nil_append] at h
                        first
                        | omega
                        | skip
                          refine d_br (fun h => ?_) (fun h => ?_)
                          · simp only [cCmp, cE2, sev, svl, cen, List.cons_append, List.nil_append] at h
                            first
                            | omega
                            | skip
                              exact d_ret [0] rfl (by decide) (Or.inr ⟨by omega, rfl, rfl⟩)
                          · simp only [cCmp, cE2, sev, svl, cen, List.cons_append, List.nil_append] at h
                            first
                            | omega
                            | skip
                              refine d_br (fun h => ?_) (fun h => ?_)
                              · simp only [cCmp, cE2, sev, svl, cen, List.cons_append, List.nil_append] at h
                                first
                                | omega
                                | skip
                                  exact d_cut [gp, n, x, y, z] (by simp [cE2, sev, svl, cen] <;> omega) (s76 (by omega))
                              · simp only [cCmp, cE2, sev, svl, cen, List.cons_append, List.nil_append] at h
                                first
                                | omega
                                | skip
                                  exact d_ret [0] rfl (by decide) (Or.inr ⟨by omega, rfl, rfl⟩)
                  · refine ⟨rfl, ?_⟩
                    refine d_br (fun h => ?_) (fun h => ?_)
                    · clear h
                      exact d_ret [0] rfl (by decide) (Or.inr ⟨by omega, rfl, rfl⟩)
                    · simp only [cCmp, cE2, sev, svl, cen, List.cons_append, List.nil_append] at h
                      omega
              · refine ⟨rfl, ?_⟩
                refine d_br (fun h => ?_) (fun h => ?_)
                · clear h
                  exact d_ret [0] rfl (by decide) (Or.inr ⟨by omega, rfl, rfl⟩)
                · simp only [cCmp, cE2, sev, svl, cen, List.cons_append, List.nil_append] at h
                  omega
          · refine ⟨rfl, ?_⟩
            refine d_br (fun h => ?_) (fun h => ?_)
            · clear h
              exact d_ret [0] rfl (by decide) (Or.inr ⟨by omega, rfl, rfl⟩)
            · simp only [cCmp, cE2, sev, svl, cen, List.cons_append, List.nil_append] at h
              omega
      · refine ⟨rfl, ?_⟩
        refine d_br (fun h => ?_) (fun h => ?_)
        · clear h
          exact d_ret [0] rfl (by decide) (Or.inr ⟨by omega, rfl, rfl⟩)
        · simp only [cCmp, cE2, sev, svl, cen, List.cons_append, List.nil_append] at h
          omega
  · simp only [cCmp, cE2, sev, svl, cen, List.cons_append, List.nil_append] at h
    first
    | omega
    | skip
      refine d_call (b_isBelow hp (x := n) (y := 6)) (by simp [cAs, cE2, sev, svl, cen] <;> omega) ?_
      intro rr M' hq
      obtain ⟨hM', hq⟩ := hq
      rw [hM']
      rcases hq with ⟨rfl, q5⟩ | ⟨rfl, q5⟩
      · refine ⟨rfl, ?_⟩
        refine d_br (fun h => ?_) (fun h => ?_)
        · simp only [cCmp, cE2, sev, svl, cen, List.cons_append, List.nil_append] at h
          omega
        · clear h
          refine d_call (b_isBelow hp (x := x) (y := 1000)) (by simp [cAs, cE2, sev, svl, cen] <;> omega) ?_
          intro rr M' hq
          obtain ⟨hM', hq⟩ := hq
          rw [hM']
          rcases hq with ⟨rfl, q6⟩ | ⟨rfl, q6⟩
          · refine ⟨rfl, ?_⟩
            refine d_br (fun h => ?_) (fun h => ?_)
            · simp only [cCmp, cE2, sev, svl, cen, List.cons_append, List.nil_append] at h
              omega
            · clear h
              refine d_call (b_isBelow hp (x := y) (y := 1000)) (by simp [cAs, cE2, sev, svl, cen] <;> omega) ?_
              intro rr M' hq
              obtain ⟨hM', hq⟩ := hq
              rw [hM']
              rcases hq with ⟨rfl, q7⟩ | ⟨rfl, q7⟩
              · refine ⟨rfl, ?_⟩
                refine d_br (fun h => ?_) (fun h => ?_)
                · simp only [cCmp, cE2, sev, svl, cen, List.cons_append, List.nil_append] at h
                  omega
                · clear h
                  refine d_call (b_isBelow hp (x := z) (y := 10)) (by simp [cAs, cE2, sev, svl, cen] <;> omega) ?_
                  intro rr M' hq
                  obtain ⟨hM', hq⟩ := hq
                  rw [hM']
                  rcases hq with ⟨rfl, q8⟩ | ⟨rfl, q8⟩
                  · refine ⟨rfl, ?_⟩
                    refine d_br (fun h => ?_) (fun h => ?_)
                    · simp only [cCmp, cE2, sev, svl, cen, List.cons_append, List.nil_append] at h
                      omega
                    · clear h
                      refine d_br (fun h => ?_) (fun h => ?_)
                      · simp only [cCmp, cE2, sev, svl, cen, List.cons_append, List.nil_append] at h
                        first
                        | omega
                        | skip
                          exact d_cut [gp, n, x, y, z] (by simp [cE2, sev, svl, cen] <;> omega) (s76 (by omega))
                      · simp only [cCmp, cE2, sev, svl, cen, List.cons_append, List.nil_append] at h
                        first
                        | omega
                        | skip
                          refine d_br (fun h => ?_) (fun h => ?_)
                          · simp only [cCmp, cE2, sev, svl, cen, List.cons_append, List.nil_append] at h
                            first
                            | omega
                            | skip
                              exact d_ret [0] rfl (by decide) (Or.inr ⟨by omega, rfl, rfl⟩)
                          · simp only [cCmp, cE2, sev, svl, cen, List.cons_append, List.nil_append] at h
                            first
                            | omega
                            | skip
                              refine d_br (fun h => ?_) (fun h => ?_)
                              · simp only [cCmp, cE2, sev, svl, cen, List.cons_append, List.nil_append] at h
                                first
                                | omega
                                | skip
                                  exact d_cut [gp, n, x, y, z] (by simp [cE2, sev, svl, cen] <;> omega) (s76 (by omega))
                              · simp only [cCmp, cE2, sev, svl, cen, List.cons_append, List.nil_append] at h
                                first
                                | omega
                                | skip
                                  exact d_ret [0] rfl (by decide) (Or.inr ⟨by omega, rfl, rfl⟩)
                  · refine ⟨rfl, ?_⟩
                    refine d_br (fun h => ?_) (fun h => ?_)
                    · clear h
                      exact d_ret [0] rfl (by decide) (Or.inr ⟨by omega, rfl, rfl⟩)
                    · simp only [cCmp, cE2, sev, svl, cen, List.cons_append, List.nil_append] at h
                      omega
              · refine ⟨rfl, ?_⟩
                refine d_br (fun h => ?_) (fun h => ?_)
                · clear h
                  exact d_ret [0] rfl (by decide) (Or.inr ⟨by omega, rfl, rfl⟩)
                · simp only [cCmp, cE2, sev, svl, cen, List.cons_append, List.nil_append] at h
                  omega
          · refine ⟨rfl, ?_⟩
            refine d_br (fun h => ?_) (fun h => ?_)
            · clear h
              exact d_ret [0] rfl (by decide) (Or.inr ⟨by omega, rfl, rfl⟩)
            · simp only [cCmp, cE2, sev, svl, cen, List.cons_append, List.nil_append] at h
              omega
      · refine ⟨rfl, ?_⟩
        refine d_br (fun h => ?_) (fun h => ?_)
        · clear h
          exact d_ret [0] rfl (by decide) (Or.inr ⟨by omega, rfl, rfl⟩)
        · simp only [cCmp, cE2, sev, svl, cen, List.cons_append, List.nil_append] at h
          omega
end CB2
