/-! ways, back and block of the reference; both alike -/
section CB5
variable {EX : SEx} {l : Launch} {dC : Nat → ClassId} {dI : Nat → Nat → Nat} {cA : Nat → ClassId} {ad : SAd} {scrS d : Nat}
theorem m_ways (hp : cPl tm tc tf EX) {w : Int} {M : SMem} (hI : sI tg M) : cBG tm tf EX l dC dI cA ad scrS (d + 11) kX10_ways [(2, 1, 0), (0, 0, w)] M (fun rr MM => (sI tg MM ∧ (∀ f j i, f ≠ 55 → f ≠ 56 → ¬ (f = 1 ∧ (i = 0 ∨ i = 56)) → MM f j i = M f j i)) ∧ ∃ r : Int, rr = [r] ∧ ((¬ (0 ≤ w ∧ w < 2) ∧ r = -1) ∨ (w = 0 ∧ r = ((bCnt (M 51 0) (M 52 0) (M 53 0) (M 54 0) 6 0 : Nat) : Int)) ∨ (w = 1 ∧ r = wBt (wDc (fun b => bOne (wBt (wDc (bRc (M 51 0) (M 52 0) (M 53 0) (M 54 0) 6 0 b)) 6))) 6))) := by
  refine cMeth (v := [w]) (Fd := 90) hp (by decide) gX10_ways_ok gX10_ways_m0 (by simp [cAs, cE2, sev, svl, cen]) ?_
  have c1 := Nat.le_trans (bCnt_le (T := M 51 0) (L := M 52 0) (R := M 53 0) (C := M 54 0) 6 0) (pow6 (Nat.le_refl 6))
  suffices H : ∀ Po : List Int → SMem → Prop, (∀ rr MM, ((sI tg MM ∧ (∀ f j i, f ≠ 55 → f ≠ 56 → ¬ (f = 1 ∧ (i = 0 ∨ i = 56)) → MM f j i = M f j i)) ∧ ∃ r : Int, rr = [r] ∧ ((¬ (0 ≤ w ∧ w < 2) ∧ r = -1) ∨ (w = 0 ∧ r = ((bCnt (M 51 0) (M 52 0) (M 53 0) (M 54 0) 6 0 : Nat) : Int)) ∨ (w = 1 ∧ r = wBt (wDc (fun b => bOne (wBt (wDc (bRc (M 51 0) (M 52 0) (M 53 0) (M 54 0) 6 0 b)) 6))) 6))) → Po rr MM) → cEnds (cBG tm tf EX l dC dI cA ad scrS (d + 10)) Po 90 gX10_ways 0 [w] M from H _ (fun _ _ h => h)
  intro Po hPo
  generalize hb : wDc (fun b => bOne (wBt (wDc (bRc (M 51 0) (M 52 0) (M 53 0) (M 54 0) 6 0 b)) 6)) = bb at hPo
  have loop : (0 ≤ w ∧ w < 2) → ∀ M1 : SMem, sI tg M1 → (∀ f j i, f ≠ 55 → f ≠ 56 → ¬ (f = 1 ∧ (i = 0 ∨ i = 56)) → M1 f j i = M f j i) → M1 1 0 56 = ((bCnt (M 51 0) (M 52 0) (M 53 0) (M 54 0) 6 0 : Nat) : Int) → (∀ k, k < 6 → M1 56 0 k = wBt (wDc (bRc (M 51 0) (M 52 0) (M 53 0) (M 54 0) 6 0 k)) 6) → ∀ (m k : Nat), k + m = 6 → cEnds (cBG tm tf EX l dC dI cA ad scrS (d + 10)) Po 90 gX10_ways 24 [w, wBt bb k, (k : Int)] M1 := by
    intro hw M1 i1 f1 w1 s1 m
    induction m with
    | zero =>
      intro k hk
      have br := wBt_r bb k
      have ek : k = 6 := by omega
      subst ek
      refine cEnds_at gX10_ways_m24 rfl ?_
      refine d_br (fun h => ?_) (fun h => ?_)
      · simp only [cCmp, cE2, sev, svl, cen, List.cons_append, List.nil_append] at h
        first
        | omega
        | skip
          refine d_br (fun h => ?_) (fun h => ?_)
          · simp only [cCmp, cE2, sev, svl, cen, List.cons_append, List.nil_append] at h
            first
            | omega
            | skip
              exact wret1 (wBt bb 6) (by simp only [cE2, sev, svl, cen, List.cons_append, List.nil_append]; omega) (by omega) (hPo _ _ ⟨⟨i1, f1⟩, _, rfl, Or.inr (Or.inr ⟨by omega, rfl⟩)⟩)
          · simp only [cCmp, cE2, sev, svl, cen, List.cons_append, List.nil_append] at h
            first
            | omega
            | skip
              refine d_fld 0 (by simp only [cE2, sev, svl, cen, List.cons_append, List.nil_append]; omega) ?_
              rw [w1]
              exact wret1 ((bCnt (M 51 0) (M 52 0) (M 53 0) (M 54 0) 6 0 : Nat) : Int) (by simp only [cE2, sev, svl, cen, List.cons_append, List.nil_append]; omega) (by omega) (hPo _ _ ⟨⟨i1, f1⟩, _, rfl, Or.inr (Or.inl ⟨by omega, rfl⟩)⟩)
      · simp only [cCmp, cE2, sev, svl, cen, List.cons_append, List.nil_append] at h
        first
        | omega
        | skip
          refine d_row 0 (6) (by simp only [cE2, sev, svl, cen, List.cons_append, List.nil_append]; omega) (by simp only [cE2, sev, svl, cen, List.cons_append, List.nil_append]; omega) (by omega) ?_
          refine d_br (fun h => ?_) (fun h => ?_)
          · simp only [cCmp, cE2, sev, svl, cen, List.cons_append, List.nil_append] at h
            first
            | omega
            | skip
              refine d_opw (wBt bb 6) 0 (by simp [cE2, sev, svl, cen] <;> omega) (by simp [cE2, sev, svl, cen] <;> omega) ?_
              refine d_rng (by simp only [clo, chi, cE2, sev, svl, cen, List.cons_append, List.nil_append]; omega) ?_
              refine d_cut [w, (cfn 1 (wBt bb 6) 0), (((6 : Nat) : Int) + 1)] (by simp [cE2, sev, svl, cen] <;> omega) ?_
              exact (by omega)
          · simp only [cCmp, cE2, sev, svl, cen, List.cons_append, List.nil_append] at h
            first
            | omega
            | skip
              refine d_rng (by simp only [clo, chi, cE2, sev, svl, cen, List.cons_append, List.nil_append]; omega) ?_
              refine d_opw (M1 56 0 (6)) ((M1 56 0 (6)) - 1) (by simp [cE2, sev, svl, cen] <;> omega) (by simp [cE2, sev, svl, cen] <;> omega) ?_
              refine d_br (fun h => ?_) (fun h => ?_)
              · simp only [cCmp, cE2, sev, svl, cen, List.cons_append, List.nil_append] at h
                first
                | omega
                | skip
                  refine d_opw (wBt bb 6) 0 (by simp [cE2, sev, svl, cen] <;> omega) (by simp [cE2, sev, svl, cen] <;> omega) ?_
                  refine d_rng (by simp only [clo, chi, cE2, sev, svl, cen, List.cons_append, List.nil_append]; omega) ?_
                  refine d_cut [w, (cfn 1 (wBt bb 6) 0), (((6 : Nat) : Int) + 1)] (by simp [cE2, sev, svl, cen] <;> omega) ?_
                  exact (by omega)
              · simp only [cCmp, cE2, sev, svl, cen, List.cons_append, List.nil_append] at h
                first
                | omega
                | skip
                  refine d_opw 1 ((6 : Nat) : Int) (by simp [cE2, sev, svl, cen] <;> omega) (by simp [cE2, sev, svl, cen] <;> omega) ?_
                  refine d_opw (wBt bb 6) (cfn 2 1 ((6 : Nat) : Int)) (by simp [cE2, sev, svl, cen] <;> omega) (by simp [cE2, sev, svl, cen] <;> omega) ?_
                  refine d_rng (by simp only [clo, chi, cE2, sev, svl, cen, List.cons_append, List.nil_append]; omega) ?_
                  refine d_cut [w, (cfn 1 (wBt bb 6) (cfn 2 1 ((6 : Nat) : Int))), (((6 : Nat) : Int) + 1)] (by simp [cE2, sev, svl, cen] <;> omega) ?_
                  exact (by omega)
    | succ m ih =>
      intro k hk
      have br := wBt_r bb k
      have sk := s1 k (by omega)
      have c63 := wBt_63 (wDc (bRc (M 51 0) (M 52 0) (M 53 0) (M 54 0) 6 0 k))
      have hbk : bb k = true ↔ bOne (wBt (wDc (bRc (M 51 0) (M 52 0) (M 53 0) (M 54 0) 6 0 k)) 6) := by rw [← hb]; exact wDc_iff
      generalize wBt (wDc (bRc (M 51 0) (M 52 0) (M 53 0) (M 54 0) 6 0 k)) 6 = x at sk c63 hbk
      unfold bOne at hbk
      have hn : ¬ (x ≠ 0 ∧ cfn 0 x (x - 1) = 0) → bb k = false := fun z => by
        cases e : bb k with
        | true => exact absurd (hbk.mp e) z
        | false => rfl
      refine cEnds_at gX10_ways_m24 rfl ?_
      refine d_br (fun h => ?_) (fun h => ?_)
      · simp only [cCmp, cE2, sev, svl, cen, List.cons_append, List.nil_append] at h
        refine d_br (fun h => ?_) (fun h => ?_)
        · simp only [cCmp, cE2, sev, svl, cen, List.cons_append, List.nil_append] at h
          exact wret1 (wBt bb k) (by simp only [cE2, sev, svl, cen, List.cons_append, List.nil_append]; omega) (by omega) (by omega)
        · simp only [cCmp, cE2, sev, svl, cen, List.cons_append, List.nil_append] at h
          refine d_fld 0 (by simp only [cE2, sev, svl, cen, List.cons_append, List.nil_append]; omega) ?_
          exact wret1 (M1 1 0 56) (by simp only [cE2, sev, svl, cen, List.cons_append, List.nil_append]; omega) (by omega) (by omega)
      · simp only [cCmp, cE2, sev, svl, cen, List.cons_append, List.nil_append] at h
        refine d_row 0 k (by simp only [cE2, sev, svl, cen, List.cons_append, List.nil_append]; omega) (by simp only [cE2, sev, svl, cen, List.cons_append, List.nil_append]; omega) (by omega) ?_
        rw [sk]
        refine d_br (fun h => ?_) (fun h => ?_)
        · simp only [cCmp, cE2, sev, svl, cen, List.cons_append, List.nil_append] at h
          refine d_opw (wBt bb k) 0 (by simp [cE2, sev, svl, cen] <;> omega) (by simp [cE2, sev, svl, cen] <;> omega) ?_
          refine d_rng (by simp only [clo, chi, cE2, sev, svl, cen, List.cons_append, List.nil_append]; omega) ?_
          rw [cfn1_0 br, ← wBt_n (hn (by omega))]
          refine d_cut [w, wBt bb (k + 1), ((k + 1 : Nat) : Int)] (by simp [cE2, sev, svl, cen] <;> omega) ?_
          exact ih (k + 1) (by omega)
        · simp only [cCmp, cE2, sev, svl, cen, List.cons_append, List.nil_append] at h
          refine d_rng (by simp only [clo, chi, cE2, sev, svl, cen, List.cons_append, List.nil_append]; omega) ?_
          refine d_opw x (x - 1) (by simp [cE2, sev, svl, cen] <;> omega) (by simp [cE2, sev, svl, cen] <;> omega) ?_
          refine d_br (fun h => ?_) (fun h => ?_)
          · simp only [cCmp, cE2, sev, svl, cen, List.cons_append, List.nil_append] at h
            refine d_opw (wBt bb k) 0 (by simp [cE2, sev, svl, cen] <;> omega) (by simp [cE2, sev, svl, cen] <;> omega) ?_
            refine d_rng (by simp only [clo, chi, cE2, sev, svl, cen, List.cons_append, List.nil_append]; omega) ?_
            rw [cfn1_0 br, ← wBt_n (hn (by omega))]
            refine d_cut [w, wBt bb (k + 1), ((k + 1 : Nat) : Int)] (by simp [cE2, sev, svl, cen] <;> omega) ?_
            exact ih (k + 1) (by omega)
          · simp only [cCmp, cE2, sev, svl, cen, List.cons_append, List.nil_append] at h
            refine d_opw 1 (k : Int) (by simp [cE2, sev, svl, cen] <;> omega) (by simp [cE2, sev, svl, cen] <;> omega) ?_
            refine d_opw (wBt bb k) (cfn 2 1 (k : Int)) (by simp [cE2, sev, svl, cen] <;> omega) (by simp [cE2, sev, svl, cen] <;> omega) ?_
            refine d_rng (by simp only [clo, chi, cE2, sev, svl, cen, List.cons_append, List.nil_append]; omega) ?_
            rw [← wBt_y (hbk.mpr ⟨by omega, by omega⟩)]
            refine d_cut [w, wBt bb (k + 1), ((k + 1 : Nat) : Int)] (by simp [cE2, sev, svl, cen] <;> omega) ?_
            exact ih (k + 1) (by omega)
  have i0 : sI tg (supd M 1 0 0 0) := wI (lo := 0) (hi := 1) hI rfl ⟨by omega, by omega⟩
  have r0 : ∀ f, f ≠ 1 → supd M 1 0 0 0 f = M f := fun f q => supd_ff q
  have f0 : ∀ f j i, ¬ (f = 1 ∧ (i = 0 ∨ i = 56)) → supd M 1 0 0 0 f j i = M f j i := fun f j i q => if_neg (fun z => q ⟨z.1, Or.inl z.2.2⟩)
  refine cEnds_at gX10_ways_m0 rfl ?_
  refine d_put 0 0 (by simp only [cE2, sev, svl, cen, List.cons_append, List.nil_append]; omega) (by simp only [cE2, sev, svl, cen, List.cons_append, List.nil_append]; omega) ?_
  generalize supd M 1 0 0 0 = M0 at i0 r0 f0 ⊢
  refine d_call (m_within hp (x := w) (y := 0) (z := 1)) (by simp [cAs, cE2, sev, svl, cen] <;> omega) ?_
  intro rr M' hq
  obtain ⟨hM', hq⟩ := hq
  rw [hM']
  rcases hq with ⟨rfl, q1⟩ | ⟨rfl, q1⟩
  · refine ⟨rfl, ?_⟩
    refine d_br (fun h => ?_) (fun h => ?_)
    · clear h
      refine d_call (m_findWays (d := d) hp i0) (by simp [cAs, cE2, sev, svl, cen] <;> omega) ?_
      intro rr M' hq
      obtain ⟨rfl, ⟨i1, f1⟩, -, w1, s1⟩ := hq
      rw [r0 51 (by decide), r0 52 (by decide), r0 53 (by decide), r0 54 (by decide)] at w1 s1
      refine ⟨rfl, ?_⟩
      refine d_cut [w, wBt bb 0, ((0 : Nat) : Int)] (by simp [cE2, sev, svl, cen, wBt]) ?_
      exact loop (by omega) M' i1 (fun f j i y1 y2 y3 => (f1 f j i y1 y2 y3).trans (f0 f j i y3)) w1 s1 6 0 (by omega)
    · simp only [cCmp, cE2, sev, svl, cen, List.cons_append, List.nil_append] at h
      omega
  · refine ⟨rfl, ?_⟩
    refine d_br (fun h => ?_) (fun h => ?_)
    · simp only [cCmp, cE2, sev, svl, cen, List.cons_append, List.nil_append] at h
      omega
    · clear h
      exact d_ret [(-1)] rfl (by decide) (hPo _ _ ⟨⟨i0, fun f j i _ _ y3 => f0 f j i y3⟩, -1, rfl, Or.inl ⟨by omega, rfl⟩⟩)
theorem m_back (hp : cPl tm tc tf EX) {b : Int} {M : SMem} (hI : sI tg M) : cBG tm tf EX l dC dI cA ad scrS (d + 11) kX10_back [(2, 1, 0), (0, 0, b)] M (fun rr MM => (sI tg MM ∧ (∀ f j i, f ≠ 55 → f ≠ 56 → ¬ (f = 1 ∧ (i = 0 ∨ i = 56)) → MM f j i = M f j i)) ∧ ∃ r : Int, rr = [r] ∧ ((¬ (0 ≤ b ∧ b < 6 ∧ M 51 0 b.toNat ≠ 0) ∧ r = -1) ∨ ((0 ≤ b ∧ b < 6 ∧ M 51 0 b.toNat ≠ 0) ∧ r = wBt (wDc (bRc (M 51 0) (M 52 0) (M 53 0) (M 54 0) 6 0 b.toNat)) 6))) := by
  refine cMeth (v := [b]) (Fd := 90) hp (by decide) gX10_back_ok gX10_back_m0 (by simp [cAs, cE2, sev, svl, cen]) ?_
  have i0 : sI tg (supd M 1 0 0 0) := wI (lo := 0) (hi := 1) hI rfl ⟨by omega, by omega⟩
  have r0 : ∀ f, f ≠ 1 → supd M 1 0 0 0 f = M f := fun f q => supd_ff q
  have f0 : ∀ f j i, ¬ (f = 1 ∧ (i = 0 ∨ i = 56)) → supd M 1 0 0 0 f j i = M f j i := fun f j i q => if_neg (fun z => q ⟨z.1, Or.inl z.2.2⟩)
  have e51 := congrFun (congrFun (r0 51 (by decide)) 0) b.toNat
  refine cEnds_at gX10_back_m0 rfl ?_
  refine d_put 0 0 (by simp only [cE2, sev, svl, cen, List.cons_append, List.nil_append]; omega) (by simp only [cE2, sev, svl, cen, List.cons_append, List.nil_append]; omega) ?_
  generalize supd M 1 0 0 0 = M0 at i0 r0 f0 e51 ⊢
  refine d_call (m_within hp (x := b) (y := 0) (z := 5)) (by simp [cAs, cE2, sev, svl, cen]) ?_
  intro rr M' hq
  obtain ⟨hM', hq⟩ := hq
  rw [hM']
  rcases hq with ⟨rfl, q1⟩ | ⟨rfl, q1⟩
  · refine ⟨rfl, ?_⟩
    refine d_br (fun h => ?_) (fun h => ?_)
    · simp only [cCmp, cE2, sev, svl, cen, List.cons_append, List.nil_append] at h
      omega
    · refine d_row 0 b.toNat (by simp only [cE2, sev, svl, cen, List.cons_append, List.nil_append]; omega) (by simp only [cE2, sev, svl, cen, List.cons_append, List.nil_append]; omega) (by omega) ?_
      refine d_br (fun h => ?_) (fun h => ?_)
      · simp only [cCmp, cE2, sev, svl, cen, List.cons_append, List.nil_append] at h
        refine d_call (m_findWays (d := d) hp i0) (by simp [cAs, cE2, sev, svl, cen]) ?_
        rintro rr M1 ⟨rfl, ⟨i1, f1⟩, -, w1, s1⟩
        refine ⟨rfl, ?_⟩
        rw [r0 51 (by decide), r0 52 (by decide), r0 53 (by decide), r0 54 (by decide)] at s1
        refine d_row 0 b.toNat (by simp only [cE2, sev, svl, cen, List.cons_append, List.nil_append]; omega) (by simp only [cE2, sev, svl, cen, List.cons_append, List.nil_append]; omega) (by omega) ?_
        rw [s1 b.toNat (by omega)]
        exact wret1 (wBt (wDc (bRc (M 51 0) (M 52 0) (M 53 0) (M 54 0) 6 0 b.toNat)) 6) (by simp only [cE2, sev, svl, cen, List.cons_append, List.nil_append]; omega) (wBt_r _ 6) ⟨⟨i1, fun f j i y1 y2 y3 => (f1 f j i y1 y2 y3).trans (f0 f j i y3)⟩, _, rfl, Or.inr ⟨by omega, rfl⟩⟩
      · simp only [cCmp, cE2, sev, svl, cen, List.cons_append, List.nil_append] at h
        exact d_ret [-1] rfl (by decide) ⟨⟨i0, fun f j i _ _ y3 => f0 f j i y3⟩, -1, rfl, Or.inl ⟨by omega, rfl⟩⟩
  · refine ⟨rfl, ?_⟩
    refine d_br (fun h => ?_) (fun h => ?_)
    · exact d_ret [-1] rfl (by decide) ⟨⟨i0, fun f j i _ _ y3 => f0 f j i y3⟩, -1, rfl, Or.inl ⟨by omega, rfl⟩⟩
    · simp only [cCmp, cE2, sev, svl, cen, List.cons_append, List.nil_append] at h
      omega
theorem m_block (hp : cPl tm tc tf EX) {gp n x y z : Int} {M : SMem} : cBG tm tf EX l dC dI cA ad scrS (d + 2) kX10_block [(2, 1, 0), (0, 0, gp), (0, 0, n), (0, 0, x), (0, 0, y), (0, 0, z)] M (fun rr MM => (((0 ≤ n ∧ n < 6) ∧ (0 ≤ x ∧ x < 1000) ∧ (0 ≤ y ∧ y < 1000) ∧ (0 ≤ z ∧ z < 10) ∧ (gp = 0 ∨ (x ≠ 0 ∧ y ≠ 0))) ∧ rr = [1] ∧ MM = bTellM (supd M 1 0 0 0) (if gp = 0 then n.toNat else n.toNat + 6) x y z) ∨ (¬ ((0 ≤ n ∧ n < 6) ∧ (0 ≤ x ∧ x < 1000) ∧ (0 ≤ y ∧ y < 1000) ∧ (0 ≤ z ∧ z < 10) ∧ (gp = 0 ∨ (x ≠ 0 ∧ y ≠ 0))) ∧ rr = [0] ∧ MM = supd M 1 0 0 0)) := by
  refine cMeth (v := [gp, n, x, y, z]) (Fd := 90) hp (by decide) gX10_block_ok gX10_block_m0 (by simp [cAs, cE2, sev, svl, cen]) ?_
  refine cEnds_at gX10_block_m0 rfl ?_
  refine d_put 0 0 (by simp only [cE2, sev, svl, cen, List.cons_append, List.nil_append]; omega) (by simp only [cE2, sev, svl, cen, List.cons_append, List.nil_append]; omega) ?_
  generalize supd M 1 0 0 0 = M0
  refine d_br (fun h => ?_) (fun h => ?_)
  · simp only [cCmp, cE2, sev, svl, cen, List.cons_append, List.nil_append] at h
    first
    | omega
    | skip
      refine d_call (m_within hp (x := n) (y := 0) (z := 5)) (by simp [cAs, cE2, sev, svl, cen] <;> omega) ?_
      intro rr M' hq
      obtain ⟨hM', hq⟩ := hq
      rw [hM']
      rcases hq with ⟨rfl, q5⟩ | ⟨rfl, q5⟩
      · refine ⟨rfl, ?_⟩
        refine d_br (fun h => ?_) (fun h => ?_)
        · simp only [cCmp, cE2, sev, svl, cen, List.cons_append, List.nil_append] at h
          omega
        · clear h
          refine d_call (m_within hp (x := x) (y := 0) (z := 999)) (by simp [cAs, cE2, sev, svl, cen] <;> omega) ?_
          intro rr M' hq
          obtain ⟨hM', hq⟩ := hq
          rw [hM']
          rcases hq with ⟨rfl, q6⟩ | ⟨rfl, q6⟩
          · refine ⟨rfl, ?_⟩
            refine d_br (fun h => ?_) (fun h => ?_)
            · simp only [cCmp, cE2, sev, svl, cen, List.cons_append, List.nil_append] at h
              omega
            · clear h
              refine d_call (m_within hp (x := y) (y := 0) (z := 999)) (by simp [cAs, cE2, sev, svl, cen] <;> omega) ?_
              intro rr M' hq
              obtain ⟨hM', hq⟩ := hq
              rw [hM']
              rcases hq with ⟨rfl, q7⟩ | ⟨rfl, q7⟩
              · refine ⟨rfl, ?_⟩
                refine d_br (fun h => ?_) (fun h => ?_)
                · simp only [cCmp, cE2, sev, svl, cen, List.cons_append, List.nil_append] at h
                  omega
                · clear h
                  refine d_call (m_within hp (x := z) (y := 0) (z := 9)) (by simp [cAs, cE2, sev, svl, cen] <;> omega) ?_
                  intro rr M' hq
                  obtain ⟨hM', hq⟩ := hq
                  rw [hM']
                  rcases hq with ⟨rfl, q8⟩ | ⟨rfl, q8⟩
                  · refine ⟨rfl, ?_⟩
                    refine d_br (fun h => ?_) (fun h => ?_)
                    · clear h
                      refine d_br (fun h => ?_) (fun h => ?_)
                      · simp only [cCmp, cE2, sev, svl, cen, List.cons_append, List.nil_append] at h
                        first
                        | omega
                        | skip
                          refine d_rng (by simp only [clo, chi, cE2, sev, svl, cen, List.cons_append, List.nil_append]; omega) ?_
                          refine d_set 0 n.toNat 1 (by simp only [cE2, sev, svl, cen, List.cons_append, List.nil_append]; omega) (by simp only [cE2, sev, svl, cen, List.cons_append, List.nil_append]; omega) (by omega) (by simp only [cE2, sev, svl, cen, List.cons_append, List.nil_append]; omega) ?_
                          refine d_set 0 n.toNat x (by simp only [cE2, sev, svl, cen, List.cons_append, List.nil_append]; omega) (by simp only [cE2, sev, svl, cen, List.cons_append, List.nil_append]; omega) (by omega) (by simp only [cE2, sev, svl, cen, List.cons_append, List.nil_append]; omega) ?_
                          refine d_set 0 n.toNat y (by simp only [cE2, sev, svl, cen, List.cons_append, List.nil_append]; omega) (by simp only [cE2, sev, svl, cen, List.cons_append, List.nil_append]; omega) (by omega) (by simp only [cE2, sev, svl, cen, List.cons_append, List.nil_append]; omega) ?_
                          refine d_set 0 n.toNat z (by simp only [cE2, sev, svl, cen, List.cons_append, List.nil_append]; omega) (by simp only [cE2, sev, svl, cen, List.cons_append, List.nil_append]; omega) (by omega) (by simp only [cE2, sev, svl, cen, List.cons_append, List.nil_append]; omega) ?_
                          exact d_ret [1] rfl (by decide) (Or.inl ⟨by omega, rfl, by first | (rw [if_pos (by omega)]; rfl) | (rw [if_neg (by omega)]; rfl)⟩)
                      · simp only [cCmp, cE2, sev, svl, cen, List.cons_append, List.nil_append] at h
                        first
                        | omega
                        | skip
                          refine d_rng (by simp only [clo, chi, cE2, sev, svl, cen, List.cons_append, List.nil_append]; omega) ?_
                          refine d_rng (by simp only [clo, chi, cE2, sev, svl, cen, List.cons_append, List.nil_append]; omega) ?_
                          refine d_set 0 (n.toNat + 6) 1 (by simp only [cE2, sev, svl, cen, List.cons_append, List.nil_append]; omega) (by simp only [cE2, sev, svl, cen, List.cons_append, List.nil_append]; omega) (by omega) (by simp only [cE2, sev, svl, cen, List.cons_append, List.nil_append]; omega) ?_
                          refine d_set 0 (n.toNat + 6) x (by simp only [cE2, sev, svl, cen, List.cons_append, List.nil_append]; omega) (by simp only [cE2, sev, svl, cen, List.cons_append, List.nil_append]; omega) (by omega) (by simp only [cE2, sev, svl, cen, List.cons_append, List.nil_append]; omega) ?_
                          refine d_set 0 (n.toNat + 6) y (by simp only [cE2, sev, svl, cen, List.cons_append, List.nil_append]; omega) (by simp only [cE2, sev, svl, cen, List.cons_append, List.nil_append]; omega) (by omega) (by simp only [cE2, sev, svl, cen, List.cons_append, List.nil_append]; omega) ?_
                          refine d_set 0 (n.toNat + 6) z (by simp only [cE2, sev, svl, cen, List.cons_append, List.nil_append]; omega) (by simp only [cE2, sev, svl, cen, List.cons_append, List.nil_append]; omega) (by omega) (by simp only [cE2, sev, svl, cen, List.cons_append, List.nil_append]; omega) ?_
                          exact d_ret [1] rfl (by decide) (Or.inl ⟨by omega, rfl, by first | (rw [if_pos (by omega)]; rfl) | (rw [if_neg (by omega)]; rfl)⟩)
                    · simp only [cCmp, cE2, sev, svl, cen, List.cons_append, List.nil_append] at h
                      omega
                  · refine ⟨rfl, ?_⟩
                    refine d_br (fun h => ?_) (fun h => ?_)
                    · simp only [cCmp, cE2, sev, svl, cen, List.cons_append, List.nil_append] at h
                      omega
                    · clear h
                      exact d_ret [0] rfl (by decide) (Or.inr ⟨by omega, rfl, rfl⟩)
              · refine ⟨rfl, ?_⟩
                refine d_br (fun h => ?_) (fun h => ?_)
                · clear h
                  exact d_ret [0] rfl (by decide) (Or.inr ⟨by omega, rfl, rfl⟩)
                · simp only [cCmp, cE2, sev, svl, cen, List.cons_append, List.nil_append] at h
                  omega
          · refine ⟨rfl, ?_⟩
            refine d_br (fun h => ?_) (fun h => ?_)
            · clear h
              exact d_ret [0] rfl (by decide) (Or.inr ⟨by omega, rfl, rfl⟩)
            · simp only [cCmp, cE2, sev, svl, cen, List.cons_append, List.nil_append] at h
              omega
      · refine ⟨rfl, ?_⟩
        refine d_br (fun h => ?_) (fun h => ?_)
        · clear h
          exact d_ret [0] rfl (by decide) (Or.inr ⟨by omega, rfl, rfl⟩)
        · simp only [cCmp, cE2, sev, svl, cen, List.cons_append, List.nil_append] at h
          omega
  · simp only [cCmp, cE2, sev, svl, cen, List.cons_append, List.nil_append] at h
    first
    | omega
    | skip
      refine d_call (m_within hp (x := n) (y := 0) (z := 5)) (by simp [cAs, cE2, sev, svl, cen] <;> omega) ?_
      intro rr M' hq
      obtain ⟨hM', hq⟩ := hq
      rw [hM']
      rcases hq with ⟨rfl, q5⟩ | ⟨rfl, q5⟩
      · refine ⟨rfl, ?_⟩
        refine d_br (fun h => ?_) (fun h => ?_)
        · simp only [cCmp, cE2, sev, svl, cen, List.cons_append, List.nil_append] at h
          omega
        · clear h
          refine d_call (m_within hp (x := x) (y := 1) (z := 999)) (by simp [cAs, cE2, sev, svl, cen] <;> omega) ?_
          intro rr M' hq
          obtain ⟨hM', hq⟩ := hq
          rw [hM']
          rcases hq with ⟨rfl, q6⟩ | ⟨rfl, q6⟩
          · refine ⟨rfl, ?_⟩
            refine d_br (fun h => ?_) (fun h => ?_)
            · simp only [cCmp, cE2, sev, svl, cen, List.cons_append, List.nil_append] at h
              omega
            · clear h
              refine d_call (m_within hp (x := y) (y := 1) (z := 999)) (by simp [cAs, cE2, sev, svl, cen] <;> omega) ?_
              intro rr M' hq
              obtain ⟨hM', hq⟩ := hq
              rw [hM']
              rcases hq with ⟨rfl, q7⟩ | ⟨rfl, q7⟩
              · refine ⟨rfl, ?_⟩
                refine d_br (fun h => ?_) (fun h => ?_)
                · simp only [cCmp, cE2, sev, svl, cen, List.cons_append, List.nil_append] at h
                  omega
                · clear h
                  refine d_call (m_within hp (x := z) (y := 0) (z := 9)) (by simp [cAs, cE2, sev, svl, cen] <;> omega) ?_
                  intro rr M' hq
                  obtain ⟨hM', hq⟩ := hq
                  rw [hM']
                  rcases hq with ⟨rfl, q8⟩ | ⟨rfl, q8⟩
                  · refine ⟨rfl, ?_⟩
                    refine d_br (fun h => ?_) (fun h => ?_)
                    · clear h
                      refine d_br (fun h => ?_) (fun h => ?_)
                      · simp only [cCmp, cE2, sev, svl, cen, List.cons_append, List.nil_append] at h
                        first
                        | omega
                        | skip
                          refine d_rng (by simp only [clo, chi, cE2, sev, svl, cen, List.cons_append, List.nil_append]; omega) ?_
                          refine d_set 0 n.toNat 1 (by simp only [cE2, sev, svl, cen, List.cons_append, List.nil_append]; omega) (by simp only [cE2, sev, svl, cen, List.cons_append, List.nil_append]; omega) (by omega) (by simp only [cE2, sev, svl, cen, List.cons_append, List.nil_append]; omega) ?_
                          refine d_set 0 n.toNat x (by simp only [cE2, sev, svl, cen, List.cons_append, List.nil_append]; omega) (by simp only [cE2, sev, svl, cen, List.cons_append, List.nil_append]; omega) (by omega) (by simp only [cE2, sev, svl, cen, List.cons_append, List.nil_append]; omega) ?_
                          refine d_set 0 n.toNat y (by simp only [cE2, sev, svl, cen, List.cons_append, List.nil_append]; omega) (by simp only [cE2, sev, svl, cen, List.cons_append, List.nil_append]; omega) (by omega) (by simp only [cE2, sev, svl, cen, List.cons_append, List.nil_append]; omega) ?_
                          refine d_set 0 n.toNat z (by simp only [cE2, sev, svl, cen, List.cons_append, List.nil_append]; omega) (by simp only [cE2, sev, svl, cen, List.cons_append, List.nil_append]; omega) (by omega) (by simp only [cE2, sev, svl, cen, List.cons_append, List.nil_append]; omega) ?_
                          exact d_ret [1] rfl (by decide) (Or.inl ⟨by omega, rfl, by first | (rw [if_pos (by omega)]; rfl) | (rw [if_neg (by omega)]; rfl)⟩)
                      · simp only [cCmp, cE2, sev, svl, cen, List.cons_append, List.nil_append] at h
                        first
                        | omega
                        | skip
                          refine d_rng (by simp only [clo, chi, cE2, sev, svl, cen, List.cons_append, List.nil_append]; omega) ?_
                          refine d_rng (by simp only [clo, chi, cE2, sev, svl, cen, List.cons_append, List.nil_append]; omega) ?_
                          refine d_set 0 (n.toNat + 6) 1 (by simp only [cE2, sev, svl, cen, List.cons_append, List.nil_append]; omega) (by simp only [cE2, sev, svl, cen, List.cons_append, List.nil_append]; omega) (by omega) (by simp only [cE2, sev, svl, cen, List.cons_append, List.nil_append]; omega) ?_
                          refine d_set 0 (n.toNat + 6) x (by simp only [cE2, sev, svl, cen, List.cons_append, List.nil_append]; omega) (by simp only [cE2, sev, svl, cen, List.cons_append, List.nil_append]; omega) (by omega) (by simp only [cE2, sev, svl, cen, List.cons_append, List.nil_append]; omega) ?_
                          refine d_set 0 (n.toNat + 6) y (by simp only [cE2, sev, svl, cen, List.cons_append, List.nil_append]; omega) (by simp only [cE2, sev, svl, cen, List.cons_append, List.nil_append]; omega) (by omega) (by simp only [cE2, sev, svl, cen, List.cons_append, List.nil_append]; omega) ?_
                          refine d_set 0 (n.toNat + 6) z (by simp only [cE2, sev, svl, cen, List.cons_append, List.nil_append]; omega) (by simp only [cE2, sev, svl, cen, List.cons_append, List.nil_append]; omega) (by omega) (by simp only [cE2, sev, svl, cen, List.cons_append, List.nil_append]; omega) ?_
                          exact d_ret [1] rfl (by decide) (Or.inl ⟨by omega, rfl, by first | (rw [if_pos (by omega)]; rfl) | (rw [if_neg (by omega)]; rfl)⟩)
                    · simp only [cCmp, cE2, sev, svl, cen, List.cons_append, List.nil_append] at h
                      omega
                  · refine ⟨rfl, ?_⟩
                    refine d_br (fun h => ?_) (fun h => ?_)
                    · simp only [cCmp, cE2, sev, svl, cen, List.cons_append, List.nil_append] at h
                      omega
                    · clear h
                      exact d_ret [0] rfl (by decide) (Or.inr ⟨by omega, rfl, rfl⟩)
              · refine ⟨rfl, ?_⟩
                refine d_br (fun h => ?_) (fun h => ?_)
                · clear h
                  exact d_ret [0] rfl (by decide) (Or.inr ⟨by omega, rfl, rfl⟩)
                · simp only [cCmp, cE2, sev, svl, cen, List.cons_append, List.nil_append] at h
                  omega
          · refine ⟨rfl, ?_⟩
            refine d_br (fun h => ?_) (fun h => ?_)
            · clear h
              exact d_ret [0] rfl (by decide) (Or.inr ⟨by omega, rfl, rfl⟩)
            · simp only [cCmp, cE2, sev, svl, cen, List.cons_append, List.nil_append] at h
              omega
      · refine ⟨rfl, ?_⟩
        refine d_br (fun h => ?_) (fun h => ?_)
        · clear h
          exact d_ret [0] rfl (by decide) (Or.inr ⟨by omega, rfl, rfl⟩)
        · simp only [cCmp, cE2, sev, svl, cen, List.cons_append, List.nil_append] at h
          omega
end CB5
/-- the blocks of both are alike -/
def Rb (M : SMem) : Prop := M 86 0 = M 51 0 ∧ M 87 0 = M 52 0 ∧ M 88 0 = M 53 0 ∧ M 89 0 = M 54 0 ∧ (M 11 0 6 ≠ 0 → bOk M)
def lRow : List Nat := [11, 51, 52, 53, 54, 86, 87, 88, 89, 90]
theorem bOk_congr {M M' : SMem} (h : ∀ f, f ∈ lRow → M' f = M f) (hr : bOk M) : bOk M' := by
  unfold bOk
  rw [h 11 (by decide), h 86 (by decide), h 87 (by decide), h 88 (by decide), h 89 (by decide), h 90 (by decide)]
  exact hr
theorem Rr_congr {M M' : SMem} (h : ∀ f, f ∈ lRow → M' f = M f) (hr : Rb M) : Rb M' := by
  have hk := hr.2.2.2.2
  unfold Rb
  rw [h 86 (by decide), h 87 (by decide), h 88 (by decide), h 89 (by decide), h 51 (by decide), h 52 (by decide), h 53 (by decide), h 54 (by decide), h 11 (by decide)]
  exact ⟨hr.1, hr.2.1, hr.2.2.1, hr.2.2.2.1, fun z => bOk_congr h (hk z)⟩
def lDB : List Nat := [1, 11, 51, 52, 53, 54, 55, 56, 86, 87, 88, 89, 90]
def Rq (M M2 : SMem) : Prop := sI tg M2 ∧ Rb M2 ∧ sX M2 ∧ M2 3 0 1 = M2 1 0 2 ∧ ∀ f j i, f ∉ lDB → M2 f j i = M f j i
theorem sX_congr {M M' : SMem} (h1 : M' 29 = M 29) (h2 : M' 27 = M 27) (h3 : M' 50 = M 50) (hr : sX M) : sX M' := by
  unfold sX
  rw [h1, h2, h3]
  exact hr
/-- what the class's call may write, and the reference's -/
def lDX : List Nat := [11, 86, 87, 88, 89, 90]
theorem Rq_mk {M M1 M2 : SMem} (hX : sX M) (hl : M 3 0 1 = M 1 0 2) (i2 : sI tg M2) (f1 : ∀ f j i, f ∉ lDX → M1 f j i = M f j i) (f2 : ∀ f j i, f ≠ 51 → f ≠ 52 → f ≠ 53 → f ≠ 54 → f ≠ 55 → f ≠ 56 → ¬ (f = 1 ∧ (i = 0 ∨ i = 56)) → M2 f j i = M1 f j i) (hb : Rb M2) : Rq M M2 := by
  have fr : ∀ f j i, f ∉ lDB → M2 f j i = M f j i := fun f j i z => by
    simp only [lDB, List.mem_cons, List.not_mem_nil, or_false, not_or] at z
    rw [f2 f j i (by omega) (by omega) (by omega) (by omega) (by omega) (by omega) (by omega), f1 f j i (by simp only [lDX, List.mem_cons, List.not_mem_nil, or_false, not_or]; omega)]
  have e : ∀ f, f ∉ lDB → M2 f = M f := fun f z => by
    funext j i
    exact fr f j i z
  refine ⟨i2, hb, sX_congr (e 29 (by decide)) (e 27 (by decide)) (e 50 (by decide)) hX, ?_, fr⟩
  rw [fr 3 0 1 (by decide), f2 1 0 2 (by decide) (by decide) (by decide) (by decide) (by decide) (by decide) (by decide), f1 1 0 2 (by decide), hl]
theorem bRc_told {T L R C : Nat → Int} : ∀ r u k x, bRc T L R C r u k x → T k ≠ 0 := by
  intro r
  induction r with
  | zero => intro u k x h; exact h.elim
  | succ r ih =>
    intro u k x h
    unfold bRc at h
    rcases h with ⟨z0, g', -, -, -, ⟨z, -⟩ | z⟩ | ⟨-, z⟩
    · rw [z]; exact z0
    · exact ih _ _ _ z
    · exact ih _ _ _ z
theorem fin_ways {M : SMem} {w r r' : Int} (hR : Rb M) (hx : ((¬ (0 ≤ w ∧ w < 2) ∧ r = -1) ∨ (w = 0 ∧ r = ((bCnt (M 86 0) (M 87 0) (M 88 0) (M 89 0) 6 0 : Nat) : Int)) ∨ (w = 1 ∧ r = wBt (wDc (fun b => M 86 0 b ≠ 0 ∧ bOne (wBt (wDc (bRc (M 86 0) (M 87 0) (M 88 0) (M 89 0) 6 0 b)) 6))) 6))) (hm : ((¬ (0 ≤ w ∧ w < 2) ∧ r' = -1) ∨ (w = 0 ∧ r' = ((bCnt (M 51 0) (M 52 0) (M 53 0) (M 54 0) 6 0 : Nat) : Int)) ∨ (w = 1 ∧ r' = wBt (wDc (fun b => bOne (wBt (wDc (bRc (M 51 0) (M 52 0) (M 53 0) (M 54 0) 6 0 b)) 6))) 6))) : r = r' := by
  obtain ⟨g1, g2, g3, g4, -⟩ := hR
  rw [g1, g2, g3, g4] at hx
  have e : wBt (wDc (fun b => M 51 0 b ≠ 0 ∧ bOne (wBt (wDc (bRc (M 51 0) (M 52 0) (M 53 0) (M 54 0) 6 0 b)) 6))) 6 = wBt (wDc (fun b => bOne (wBt (wDc (bRc (M 51 0) (M 52 0) (M 53 0) (M 54 0) 6 0 b)) 6))) 6 := by
    refine wBt_cg 6 (fun b hb => wDc_cg ⟨fun z => z.2, fun z => ⟨fun y => z.1 ?_, z⟩⟩)
    exact wBt_0 6 (fun i _ => wDc_n (fun q => bRc_told _ _ _ _ q y))
  rw [e] at hx
  omega
theorem fin_back {M : SMem} {b r r' : Int} (hR : Rb M) (hx : (¬ (0 ≤ b ∧ b < 6 ∧ M 86 0 b.toNat ≠ 0) ∧ r = -1) ∨ ((0 ≤ b ∧ b < 6 ∧ M 86 0 b.toNat ≠ 0) ∧ r = wBt (wDc (bRc (M 86 0) (M 87 0) (M 88 0) (M 89 0) 6 0 b.toNat)) 6)) (hm : (¬ (0 ≤ b ∧ b < 6 ∧ M 51 0 b.toNat ≠ 0) ∧ r' = -1) ∨ ((0 ≤ b ∧ b < 6 ∧ M 51 0 b.toNat ≠ 0) ∧ r' = wBt (wDc (bRc (M 51 0) (M 52 0) (M 53 0) (M 54 0) 6 0 b.toNat)) 6)) : r = r' := by
  obtain ⟨g1, g2, g3, g4, -⟩ := hR
  rw [g1, g2, g3, g4] at hx
  omega
def wBkX (M : SMem) (gp n x y z r : Int) (M1 : SMem) : Prop := (((0 ≤ n ∧ n < 6) ∧ (0 ≤ x ∧ x < 1000) ∧ (0 ≤ y ∧ y < 1000) ∧ (0 ≤ z ∧ z < 10) ∧ (gp = 0 ∨ (x ≠ 0 ∧ y ≠ 0))) ∧ r = 1 ∧ M1 = bTell M (if gp = 0 then n.toNat else n.toNat + 6) x y z) ∨ (¬ ((0 ≤ n ∧ n < 6) ∧ (0 ≤ x ∧ x < 1000) ∧ (0 ≤ y ∧ y < 1000) ∧ (0 ≤ z ∧ z < 10) ∧ (gp = 0 ∨ (x ≠ 0 ∧ y ≠ 0))) ∧ r = 0 ∧ M1 = M)
def wBkM (M : SMem) (gp n x y z r : Int) (M2 : SMem) : Prop := (((0 ≤ n ∧ n < 6) ∧ (0 ≤ x ∧ x < 1000) ∧ (0 ≤ y ∧ y < 1000) ∧ (0 ≤ z ∧ z < 10) ∧ (gp = 0 ∨ (x ≠ 0 ∧ y ≠ 0))) ∧ r = 1 ∧ M2 = bTellM (supd M 1 0 0 0) (if gp = 0 then n.toNat else n.toNat + 6) x y z) ∨ (¬ ((0 ≤ n ∧ n < 6) ∧ (0 ≤ x ∧ x < 1000) ∧ (0 ≤ y ∧ y < 1000) ∧ (0 ≤ z ∧ z < 10) ∧ (gp = 0 ∨ (x ≠ 0 ∧ y ≠ 0))) ∧ r = 0 ∧ M2 = supd M 1 0 0 0)
theorem wBkX_of {M MM : SMem} {gp n x y z : Int} {rr : List Int} (h : (((0 ≤ n ∧ n < 6) ∧ (0 ≤ x ∧ x < 1000) ∧ (0 ≤ y ∧ y < 1000) ∧ (0 ≤ z ∧ z < 10) ∧ (gp = 0 ∨ (x ≠ 0 ∧ y ≠ 0))) ∧ rr = [1] ∧ MM = bTell M (if gp = 0 then n.toNat else n.toNat + 6) x y z) ∨ (¬ ((0 ≤ n ∧ n < 6) ∧ (0 ≤ x ∧ x < 1000) ∧ (0 ≤ y ∧ y < 1000) ∧ (0 ≤ z ∧ z < 10) ∧ (gp = 0 ∨ (x ≠ 0 ∧ y ≠ 0))) ∧ rr = [0] ∧ MM = M)) : ∃ r : Int, rr = [r] ∧ wBkX M gp n x y z r MM := by
  obtain ⟨S, e, f⟩ | ⟨S, e, f⟩ := h
  · exact ⟨1, e, Or.inl ⟨S, rfl, f⟩⟩
  · exact ⟨0, e, Or.inr ⟨S, rfl, f⟩⟩
theorem wBkM_of {M MM : SMem} {gp n x y z : Int} {rr : List Int} (h : (((0 ≤ n ∧ n < 6) ∧ (0 ≤ x ∧ x < 1000) ∧ (0 ≤ y ∧ y < 1000) ∧ (0 ≤ z ∧ z < 10) ∧ (gp = 0 ∨ (x ≠ 0 ∧ y ≠ 0))) ∧ rr = [1] ∧ MM = bTellM (supd M 1 0 0 0) (if gp = 0 then n.toNat else n.toNat + 6) x y z) ∨ (¬ ((0 ≤ n ∧ n < 6) ∧ (0 ≤ x ∧ x < 1000) ∧ (0 ≤ y ∧ y < 1000) ∧ (0 ≤ z ∧ z < 10) ∧ (gp = 0 ∨ (x ≠ 0 ∧ y ≠ 0))) ∧ rr = [0] ∧ MM = supd M 1 0 0 0)) : ∃ r : Int, rr = [r] ∧ wBkM M gp n x y z r MM := by
  obtain ⟨S, e, f⟩ | ⟨S, e, f⟩ := h
  · exact ⟨1, e, Or.inl ⟨S, rfl, f⟩⟩
  · exact ⟨0, e, Or.inr ⟨S, rfl, f⟩⟩
theorem wBkX_fr {M M1 : SMem} {gp n x y z r : Int} (h : wBkX M gp n x y z r M1) : ∀ f j i, f ∉ lDX → M1 f j i = M f j i := by
  intro f j i hf
  simp only [lDX, List.mem_cons, List.not_mem_nil, or_false, not_or] at hf
  obtain ⟨-, -, rfl⟩ | ⟨-, -, rfl⟩ := h
  · unfold bTell
    rw [supd_f (by omega), supd_f (by omega), supd_f (by omega), supd_f (by omega), supd_f (by omega)]
  · rfl
theorem wBkM_fr {M M2 : SMem} {gp n x y z r : Int} (h : wBkM M gp n x y z r M2) : ∀ f j i, f ≠ 51 → f ≠ 52 → f ≠ 53 → f ≠ 54 → f ≠ 55 → f ≠ 56 → ¬ (f = 1 ∧ (i = 0 ∨ i = 56)) → M2 f j i = M f j i := by
  intro f j i h1 h2 h3 h4 _ _ h5
  have e : supd M 1 0 0 0 f j i = M f j i := if_neg (fun q => h5 ⟨q.1, Or.inl q.2.2⟩)
  obtain ⟨-, -, rfl⟩ | ⟨-, -, rfl⟩ := h
  · unfold bTellM
    rw [supd_f h4, supd_f h3, supd_f h2, supd_f h1, e]
  · exact e
theorem supd_row2 {M : SMem} {f i : Nat} {z : Int} : supd M f 0 i z f 0 = wSt (M f 0) i z := supd_row
theorem fin_block {M M1 M2 : SMem} {gp n x y z r r' : Int} (hI : sI tg M) (hR : Rb M) (hX : sX M) (hl : M 3 0 1 = M 1 0 2) (hx : wBkX M gp n x y z r M1) (hm : wBkM M1 gp n x y z r' M2) : r = r' ∧ Rq M M2 := by
  have f1 := wBkX_fr hx
  have f2 := wBkM_fr hm
  obtain ⟨g1, g2, g3, g4, g5⟩ := hR
  obtain ⟨S, rfl, rfl⟩ | ⟨S, rfl, rfl⟩ := hx
  · obtain ⟨-, rfl, rfl⟩ | ⟨S', -, -⟩ := hm
    · refine ⟨rfl, Rq_mk hX hl ?_ f1 f2 ?_⟩
      · have i1 : sI tg (bTell M (if gp = 0 then n.toNat else n.toNat + 6) x y z) := wI (lo := 0) (hi := 1) (wI (lo := 0) (hi := 9) (wI (lo := 0) (hi := 999) (wI (lo := 0) (hi := 999) (wI (lo := 0) (hi := 1) hI rfl ⟨by omega, by omega⟩) rfl ⟨by omega, by omega⟩) rfl ⟨by omega, by omega⟩) rfl ⟨by omega, by omega⟩) rfl ⟨by omega, by omega⟩
        exact wI (lo := 0) (hi := 9) (wI (lo := 0) (hi := 999) (wI (lo := 0) (hi := 999) (wI (lo := 0) (hi := 1) (wI (lo := 0) (hi := 1) i1 rfl ⟨by omega, by omega⟩) rfl ⟨by omega, by omega⟩) rfl ⟨by omega, by omega⟩) rfl ⟨by omega, by omega⟩) rfl ⟨by omega, by omega⟩
      · unfold Rb
        generalize (if gp = 0 then n.toNat else n.toNat + 6) = a
        refine ⟨?_, ?_, ?_, ?_, fun z => absurd ?_ z⟩
        · funext k
          have := congrFun g1 k
          by_cases e : k = a <;> simp [bTellM, bTell, supd, e, this]
        · funext k
          have := congrFun g2 k
          by_cases e : k = a <;> simp [bTellM, bTell, supd, e, this]
        · funext k
          have := congrFun g3 k
          by_cases e : k = a <;> simp [bTellM, bTell, supd, e, this]
        · funext k
          have := congrFun g4 k
          by_cases e : k = a <;> simp [bTellM, bTell, supd, e, this]
        · simp [bTellM, bTell, supd]
    · exact absurd S S'
  · obtain ⟨S', -, -⟩ | ⟨-, rfl, rfl⟩ := hm
    · exact absurd S' S
    · refine ⟨rfl, Rq_mk hX hl (wI (lo := 0) (hi := 1) hI rfl ⟨by omega, by omega⟩) f1 f2 (Rr_congr (fun f hf => supd_ff (fun z => ?_)) ⟨g1, g2, g3, g4, g5⟩)⟩
      rw [z] at hf
      revert hf
      decide
/-- behind ways and back -/
theorem fin_ask {M M1 M2 : SMem} (hX : sX M) (hR : Rb M) (hl : M 3 0 1 = M 1 0 2) (hx : sI tg M1 ∧ (∀ f j i, f ≠ 90 → f ≠ 11 → M1 f j i = M f j i) ∧ (M1 11 0 6 ≠ 0 → bOk M1)) (hm : sI tg M2 ∧ (∀ f j i, f ≠ 55 → f ≠ 56 → ¬ (f = 1 ∧ (i = 0 ∨ i = 56)) → M2 f j i = M1 f j i)) : Rq M M2 := by
  obtain ⟨i1, f1, k1⟩ := hx
  obtain ⟨i2, f2⟩ := hm
  obtain ⟨g1, g2, g3, g4, -⟩ := hR
  have r1 : Rb M1 := by
    have e : ∀ f, f ≠ 90 → f ≠ 11 → M1 f 0 = M f 0 := fun f z1 z2 => by
      funext i
      exact f1 f 0 i z1 z2
    refine ⟨?_, ?_, ?_, ?_, k1⟩
    · rw [e 86 (by decide) (by decide), e 51 (by decide) (by decide), g1]
    · rw [e 87 (by decide) (by decide), e 52 (by decide) (by decide), g2]
    · rw [e 88 (by decide) (by decide), e 53 (by decide) (by decide), g3]
    · rw [e 89 (by decide) (by decide), e 54 (by decide) (by decide), g4]
  refine Rq_mk hX hl i2 (fun f j i z => f1 f j i (fun q => z (by rw [q]; decide)) (fun q => z (by rw [q]; decide))) (fun f j i _ _ _ _ z5 z6 z7 => f2 f j i z5 z6 z7) (Rr_congr (fun f hf => ?_) r1)
  funext j i
  refine f2 f j i ?_ ?_ ?_
  · intro z; rw [z] at hf; revert hf; decide
  · intro z; rw [z] at hf; revert hf; decide
  · intro z; rw [z.1] at hf; revert hf; decide
