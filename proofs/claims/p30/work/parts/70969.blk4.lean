/-! what the methods do: ways and back; both alike -/
def bcA (x : Int) : Int := x - cfn 0 (cfn 15 x 1) 1431655765
def bcB (x : Int) : Int := cfn 0 (bcA x) 858993459 + cfn 0 (cfn 15 (bcA x) 2) 858993459
def bcC (x : Int) : Int := cfn 0 (bcB x + cfn 15 (bcB x) 4) 252645135
def bcD (x : Int) : Int := bcC x + cfn 15 (bcC x) 8
def bcE (x : Int) : Int := bcD x + cfn 15 (bcD x) 16
def bcR (x : Int) : Int := cfn 0 (bcE x) 63
/-- one bit alone -/
def bOne (x : Int) : Prop := x ≠ 0 ∧ cfn 0 x (x - 1) = 0
theorem bcf : ∀ x : Fin 64, (0 ≤ bcA ((x.val : Nat) : Int) ∧ bcA ((x.val : Nat) : Int) ≤ 9999) ∧ (0 ≤ bcB ((x.val : Nat) : Int) ∧ bcB ((x.val : Nat) : Int) ≤ 9999) ∧ (0 ≤ bcB ((x.val : Nat) : Int) + cfn 15 (bcB ((x.val : Nat) : Int)) 4 ∧ bcB ((x.val : Nat) : Int) + cfn 15 (bcB ((x.val : Nat) : Int)) 4 ≤ 9999) ∧ (0 ≤ bcD ((x.val : Nat) : Int) ∧ bcD ((x.val : Nat) : Int) ≤ 9999) ∧ (0 ≤ bcE ((x.val : Nat) : Int) ∧ bcE ((x.val : Nat) : Int) ≤ 9999) ∧ (0 ≤ bcR ((x.val : Nat) : Int) ∧ bcR ((x.val : Nat) : Int) ≤ 9999) ∧ (bcR ((x.val : Nat) : Int) = 1 ↔ (((x.val : Nat) : Int) ≠ 0 ∧ cfn 0 ((x.val : Nat) : Int) (((x.val : Nat) : Int) - 1) = 0)) := by decide +kernel
section CB4
variable {EX : SEx} {l : Launch} {dC : Nat → ClassId} {dI : Nat → Nat → Nat} {cA : Nat → ClassId} {ad : SAd} {scrS d : Nat}
theorem b_bitCount (hp : cPl tm tc tf EX) {x : Int} {M : SMem} (h0 : 0 ≤ x ∧ x ≤ 63) : cBG tm tf EX l dC dI cA ad scrS (d + 1) kJ6_bitCount_0f7a4 [(0, 0, x)] M (fun rr MM => MM = M ∧ ∃ r : Int, rr = [r] ∧ (r = 1 ↔ bOne x)) := by
  obtain ⟨y, rfl⟩ : ∃ y : Nat, x = (y : Int) := ⟨x.toNat, by omega⟩
  obtain ⟨hA, hB, hB2, hD, hE, hR, hF⟩ := bcf ⟨y, by omega⟩
  dsimp only at hA hB hB2 hD hE hR hF
  refine cMeth (v := [(y : Int)]) (Fd := 90) hp (by decide) gJ6_bitCount_0f7a4_ok gJ6_bitCount_0f7a4_m0 (by simp [cAs, cE2, sev, svl, cen]) ?_
  refine cEnds_at gJ6_bitCount_0f7a4_m0 rfl ?_
  have eA : (y : Int) - cfn 0 (cfn 15 (y : Int) 1) 1431655765 = bcA (y : Int) := rfl
  have eB : cfn 0 (bcA (y : Int)) 858993459 + cfn 0 (cfn 15 (bcA (y : Int)) 2) 858993459 = bcB (y : Int) := rfl
  have eC : cfn 0 (bcB (y : Int) + cfn 15 (bcB (y : Int)) 4) 252645135 = bcC (y : Int) := rfl
  have eD : bcC (y : Int) + cfn 15 (bcC (y : Int)) 8 = bcD (y : Int) := rfl
  have eE : bcD (y : Int) + cfn 15 (bcD (y : Int)) 16 = bcE (y : Int) := rfl
  have eR : cfn 0 (bcE (y : Int)) 63 = bcR (y : Int) := rfl
  generalize bcA (y : Int) = A at *
  generalize bcB (y : Int) = B at *
  generalize bcC (y : Int) = C at *
  generalize bcD (y : Int) = D at *
  generalize bcE (y : Int) = E at *
  generalize bcR (y : Int) = R at *
  refine d_opw (y : Int) 1 (by simp [cE2, sev, svl, cen] <;> omega) (by simp [cE2, sev, svl, cen] <;> omega) ?_
  refine d_opw (cfn 15 (y : Int) 1) 1431655765 (by simp [cE2, sev, svl, cen] <;> omega) (by simp [cE2, sev, svl, cen] <;> omega) ?_
  refine d_rng (by simp only [clo, chi, cE2, sev, svl, cen, List.cons_append, List.nil_append]; omega) ?_
  refine d_opw A 858993459 (by simp [cE2, sev, svl, cen]; omega) (by simp [cE2, sev, svl, cen] <;> omega) ?_
  refine d_opw A 2 (by simp [cE2, sev, svl, cen]; omega) (by simp [cE2, sev, svl, cen] <;> omega) ?_
  refine d_opw (cfn 15 A 2) 858993459 (by simp [cE2, sev, svl, cen] <;> omega) (by simp [cE2, sev, svl, cen] <;> omega) ?_
  refine d_rng (by simp only [clo, chi, cE2, sev, svl, cen, List.cons_append, List.nil_append]; omega) ?_
  refine d_opw B 4 (by simp [cE2, sev, svl, cen]; omega) (by simp [cE2, sev, svl, cen] <;> omega) ?_
  refine d_rng (by simp only [clo, chi, cE2, sev, svl, cen, List.cons_append, List.nil_append]; omega) ?_
  refine d_opw (B + cfn 15 B 4) 252645135 (by simp [cE2, sev, svl, cen]; omega) (by simp [cE2, sev, svl, cen] <;> omega) ?_
  rw [eC]
  refine d_opw C 8 (by simp [cE2, sev, svl, cen] <;> omega) (by simp [cE2, sev, svl, cen] <;> omega) ?_
  refine d_rng (by simp only [clo, chi, cE2, sev, svl, cen, List.cons_append, List.nil_append]; omega) ?_
  refine d_opw D 16 (by simp [cE2, sev, svl, cen]; omega) (by simp [cE2, sev, svl, cen] <;> omega) ?_
  refine d_rng (by simp only [clo, chi, cE2, sev, svl, cen, List.cons_append, List.nil_append]; omega) ?_
  refine d_opw E 63 (by simp [cE2, sev, svl, cen]; omega) (by simp [cE2, sev, svl, cen] <;> omega) ?_
  rw [eR]
  exact wret1 R (by simp only [cE2, sev, svl, cen, List.cons_append, List.nil_append]; omega) (by omega) ⟨rfl, R, rfl, hF⟩
theorem b_sureBlocks (hp : cPl tm tc tf EX) {M : SMem} (h63 : ∀ k, k < 6 → 0 ≤ M 90 0 k ∧ M 90 0 k ≤ 63) : cBG tm tf EX l dC dI cA ad scrS (d + 2) kX1_sureBlocks [(2, 11, 0)] M (fun rr MM => MM = M ∧ rr = [wBt (wDc (fun b => M 86 0 b ≠ 0 ∧ bOne (M 90 0 b))) 6]) := by
  refine cMeth (v := []) (Fd := 90) hp (by decide) gX1_sureBlocks_ok gX1_sureBlocks_m0 (by simp [cAs, cE2, sev, svl, cen]) ?_
  generalize hb : wDc (fun b => M 86 0 b ≠ 0 ∧ bOne (M 90 0 b)) = bb
  have loop : ∀ (m k : Nat), k + m = 6 → cEnds (cBG tm tf EX l dC dI cA ad scrS (d + 1)) (fun rr MM => MM = M ∧ rr = [wBt bb 6]) 90 gX1_sureBlocks 4 [wBt bb k, (k : Int)] M := by
    intro m
    induction m with
    | zero =>
      intro k hk
      have br := wBt_r bb k
      refine cEnds_at gX1_sureBlocks_m4 rfl ?_
      refine d_br (fun h => ?_) (fun h => ?_)
      · exact wret1 (wBt bb k) (by simp only [cE2, sev, svl, cen, List.cons_append, List.nil_append]; omega) br ⟨rfl, by rw [show k = 6 by omega]⟩
      · simp only [cCmp, cE2, sev, svl, cen, List.cons_append, List.nil_append] at h
        omega
    | succ m ih =>
      intro k hk
      have br := wBt_r bb k
      have c63 := h63 k (by omega)
      refine cEnds_at gX1_sureBlocks_m4 rfl ?_
      refine d_br (fun h => ?_) (fun h => ?_)
      · simp only [cCmp, cE2, sev, svl, cen, List.cons_append, List.nil_append] at h
        first
        | omega
        | skip
          exact wret1 (wBt bb k) (by simp only [cE2, sev, svl, cen, List.cons_append, List.nil_append]; omega) (by omega) (by omega)
      · simp only [cCmp, cE2, sev, svl, cen, List.cons_append, List.nil_append] at h
        first
        | omega
        | skip
          refine d_row 0 k (by simp only [cE2, sev, svl, cen, List.cons_append, List.nil_append]; omega) (by simp only [cE2, sev, svl, cen, List.cons_append, List.nil_append]; omega) (by omega) ?_
          refine d_br (fun h => ?_) (fun h => ?_)
          · simp only [cCmp, cE2, sev, svl, cen, List.cons_append, List.nil_append] at h
            first
            | omega
            | skip
              refine d_rng (by simp only [clo, chi, cE2, sev, svl, cen, List.cons_append, List.nil_append]; omega) ?_
              have e : bb k = false := by rw [← hb]; exact wDc_n (fun w => w.1 (by omega))
              rw [← wBt_n e]
              refine d_cut [wBt bb (k + 1), ((k + 1 : Nat) : Int)] (by simp [cE2, sev, svl, cen] <;> omega) ?_
              exact ih (k + 1) (by omega)
          · simp only [cCmp, cE2, sev, svl, cen, List.cons_append, List.nil_append] at h
            first
            | omega
            | skip
              refine d_row 0 k (by simp only [cE2, sev, svl, cen, List.cons_append, List.nil_append]; omega) (by simp only [cE2, sev, svl, cen, List.cons_append, List.nil_append]; omega) (by omega) ?_
              refine d_call (b_bitCount hp (x := (M 90 0 k)) c63) (by simp [cAs, cE2, sev, svl, cen] <;> omega) ?_
              intro rr M' hq
              obtain ⟨hM', r, rfl, hr⟩ := hq
              rw [hM']
              refine ⟨rfl, ?_⟩
              refine d_br (fun h => ?_) (fun h => ?_)
              · simp only [cCmp, cE2, sev, svl, cen, List.cons_append, List.nil_append] at h
                first
                | omega
                | skip
                  refine d_rng (by simp only [clo, chi, cE2, sev, svl, cen, List.cons_append, List.nil_append]; omega) ?_
                  have e : bb k = false := by rw [← hb]; exact wDc_n (fun w => by have := hr.mpr w.2; omega)
                  rw [← wBt_n e]
                  refine d_cut [wBt bb (k + 1), ((k + 1 : Nat) : Int)] (by simp [cE2, sev, svl, cen] <;> omega) ?_
                  exact ih (k + 1) (by omega)
              · simp only [cCmp, cE2, sev, svl, cen, List.cons_append, List.nil_append] at h
                first
                | omega
                | skip
                  refine d_opw 1 (k : Int) (by simp [cE2, sev, svl, cen] <;> omega) (by simp [cE2, sev, svl, cen] <;> omega) ?_
                  refine d_opw (wBt bb k) (cfn 2 1 (k : Int)) (by simp [cE2, sev, svl, cen] <;> omega) (by simp [cE2, sev, svl, cen] <;> omega) ?_
                  refine d_rng (by simp only [clo, chi, cE2, sev, svl, cen, List.cons_append, List.nil_append]; omega) ?_
                  have e : bb k = true := by rw [← hb]; exact wDc_y ⟨by omega, hr.mp (by omega)⟩
                  rw [← wBt_y e]
                  refine d_cut [wBt bb (k + 1), ((k + 1 : Nat) : Int)] (by simp [cE2, sev, svl, cen] <;> omega) ?_
                  exact ih (k + 1) (by omega)
  refine cEnds_at gX1_sureBlocks_m0 rfl ?_
  refine d_cut [wBt bb 0, ((0 : Nat) : Int)] (by simp [cE2, sev, svl, cen, wBt]) ?_
  exact loop 6 0 (by omega)
/-- behind a call that asks for ways -/
theorem b_ways (hp : cPl tm tc tf EX) {w : Int} {M : SMem} (hI : sI tg M) (hc : M 11 0 6 ≠ 0 → bOk M) : cBG tm tf EX l dC dI cA ad scrS (d + 11) kX9_ways [(2, 0, 0), (0, 0, w)] M (fun rr MM => (sI tg MM ∧ (∀ f j i, f ≠ 90 → f ≠ 11 → MM f j i = M f j i) ∧ (MM 11 0 6 ≠ 0 → bOk MM)) ∧ ∃ r : Int, rr = [r] ∧ ((¬ (0 ≤ w ∧ w < 2) ∧ r = -1) ∨ (w = 0 ∧ r = ((bCnt (M 86 0) (M 87 0) (M 88 0) (M 89 0) 6 0 : Nat) : Int)) ∨ (w = 1 ∧ r = wBt (wDc (fun b => M 86 0 b ≠ 0 ∧ bOne (wBt (wDc (bRc (M 86 0) (M 87 0) (M 88 0) (M 89 0) 6 0 b)) 6))) 6))) := by
  refine cMeth (v := [w]) (Fd := 90) hp (by decide) gX9_ways_ok gX9_ways_m0 (by simp [cAs, cE2, sev, svl, cen]) ?_
  refine cEnds_at gX9_ways_m0 rfl ?_
  have c1 := Nat.le_trans (bCnt_le (T := M 86 0) (L := M 87 0) (R := M 88 0) (C := M 89 0) 6 0) (pow6 (Nat.le_refl 6))
  refine d_call (b_isBelow hp (x := w) (y := 2)) (by simp [cAs, cE2, sev, svl, cen]) ?_
  intro rr M' hq
  obtain ⟨hM', hq⟩ := hq
  rw [hM']
  rcases hq with ⟨rfl, q1⟩ | ⟨rfl, q1⟩
  · refine ⟨rfl, ?_⟩
    refine d_br (fun h => ?_) (fun h => ?_)
    · refine d_call (b_layAll (d := d) hp hI hc) (by simp [cAs, cE2, sev, svl, cen]) ?_
      rintro rr M1 ⟨rfl, i1, f1, k1⟩
      refine ⟨rfl, ?_⟩
      have row : ∀ f, f ≠ 90 → f ≠ 11 → M1 f 0 = M f 0 := fun f z1 z2 => by
        funext i
        exact f1 f 0 i z1 z2
      have k2 := k1
      unfold bOk at k2
      rw [row 86 (by decide) (by decide), row 87 (by decide) (by decide), row 88 (by decide) (by decide), row 89 (by decide) (by decide)] at k2
      refine d_br (fun h => ?_) (fun h => ?_)
      · simp only [cCmp, cE2, sev, svl, cen, List.cons_append, List.nil_append] at h
        refine d_call (b_sureBlocks (d := d + 8) hp (M := M1) (fun k hk => by rw [k2.2 k hk]; exact wBt_63 _)) (by simp [cAs, cE2, sev, svl, cen]) ?_
        rintro rr M2 ⟨hM2, rfl⟩
        rw [hM2]
        refine ⟨rfl, ?_⟩
        refine wret1 (wBt (wDc (fun b => M1 86 0 b ≠ 0 ∧ bOne (M1 90 0 b))) 6) (by simp only [cE2, sev, svl, cen, List.cons_append, List.nil_append]; omega) (wBt_r _ 6) ⟨⟨i1, f1, fun _ => k1⟩, _, rfl, Or.inr (Or.inr ⟨by omega, ?_⟩)⟩
        refine wBt_cg 6 (fun i hi => wDc_cg ?_)
        rw [row 86 (by decide) (by decide), k2.2 i hi]
      · simp only [cCmp, cE2, sev, svl, cen, List.cons_append, List.nil_append] at h
        refine d_fld 0 (by simp only [cE2, sev, svl, cen, List.cons_append, List.nil_append]; omega) ?_
        rw [k2.1]
        exact wret1 ((bCnt (M 86 0) (M 87 0) (M 88 0) (M 89 0) 6 0 : Nat) : Int) (by simp only [cE2, sev, svl, cen, List.cons_append, List.nil_append]; omega) (by omega) ⟨⟨i1, f1, fun _ => k1⟩, _, rfl, Or.inr (Or.inl ⟨by omega, rfl⟩)⟩
    · simp only [cCmp, cE2, sev, svl, cen, List.cons_append, List.nil_append] at h
      omega
  · refine ⟨rfl, ?_⟩
    refine d_br (fun h => ?_) (fun h => ?_)
    · simp only [cCmp, cE2, sev, svl, cen, List.cons_append, List.nil_append] at h
      omega
    · exact d_ret [-1] rfl (by decide) ⟨⟨hI, fun _ _ _ _ _ => rfl, hc⟩, -1, rfl, Or.inl ⟨q1, rfl⟩⟩
theorem b_back (hp : cPl tm tc tf EX) {b : Int} {M : SMem} (hI : sI tg M) (hc : M 11 0 6 ≠ 0 → bOk M) : cBG tm tf EX l dC dI cA ad scrS (d + 11) kX9_back [(2, 0, 0), (0, 0, b)] M (fun rr MM => (sI tg MM ∧ (∀ f j i, f ≠ 90 → f ≠ 11 → MM f j i = M f j i) ∧ (MM 11 0 6 ≠ 0 → bOk MM)) ∧ ∃ r : Int, rr = [r] ∧ ((¬ (0 ≤ b ∧ b < 6 ∧ M 86 0 b.toNat ≠ 0) ∧ r = -1) ∨ ((0 ≤ b ∧ b < 6 ∧ M 86 0 b.toNat ≠ 0) ∧ r = wBt (wDc (bRc (M 86 0) (M 87 0) (M 88 0) (M 89 0) 6 0 b.toNat)) 6))) := by
  refine cMeth (v := [b]) (Fd := 90) hp (by decide) gX9_back_ok gX9_back_m0 (by simp [cAs, cE2, sev, svl, cen]) ?_
  refine cEnds_at gX9_back_m0 rfl ?_
  refine d_call (b_isBelow hp (x := b) (y := 6)) (by simp [cAs, cE2, sev, svl, cen]) ?_
  intro rr M' hq
  obtain ⟨hM', hq⟩ := hq
  rw [hM']
  rcases hq with ⟨rfl, q1⟩ | ⟨rfl, q1⟩
  · refine ⟨rfl, ?_⟩
    refine d_br (fun h => ?_) (fun h => ?_)
    · simp only [cCmp, cE2, sev, svl, cen, List.cons_append, List.nil_append] at h
      omega
    · refine d_row 0 b.toNat (by simp only [cE2, sev, svl, cen, List.cons_append, List.nil_append]; omega) (by simp only [cE2, sev, svl, cen, List.cons_append, List.nil_append]; omega) (by omega) ?_
      refine d_br (fun h => ?_) (fun h => ?_)
      · simp only [cCmp, cE2, sev, svl, cen, List.cons_append, List.nil_append] at h
        refine d_call (b_layAll (d := d) hp hI hc) (by simp [cAs, cE2, sev, svl, cen]) ?_
        rintro rr M1 ⟨rfl, i1, f1, k1⟩
        refine ⟨rfl, ?_⟩
        have row : ∀ f, f ≠ 90 → f ≠ 11 → M1 f 0 = M f 0 := fun f z1 z2 => by
          funext i
          exact f1 f 0 i z1 z2
        have k2 := k1
        unfold bOk at k2
        rw [row 86 (by decide) (by decide), row 87 (by decide) (by decide), row 88 (by decide) (by decide), row 89 (by decide) (by decide)] at k2
        refine d_row 0 b.toNat (by simp only [cE2, sev, svl, cen, List.cons_append, List.nil_append]; omega) (by simp only [cE2, sev, svl, cen, List.cons_append, List.nil_append]; omega) (by omega) ?_
        rw [k2.2 b.toNat (by omega)]
        exact wret1 (wBt (wDc (bRc (M 86 0) (M 87 0) (M 88 0) (M 89 0) 6 0 b.toNat)) 6) (by simp only [cE2, sev, svl, cen, List.cons_append, List.nil_append]; omega) (wBt_r _ 6) ⟨⟨i1, f1, fun _ => k1⟩, _, rfl, Or.inr ⟨by omega, rfl⟩⟩
      · simp only [cCmp, cE2, sev, svl, cen, List.cons_append, List.nil_append] at h
        exact d_ret [-1] rfl (by decide) ⟨⟨hI, fun _ _ _ _ _ => rfl, hc⟩, -1, rfl, Or.inl ⟨by omega, rfl⟩⟩
  · refine ⟨rfl, ?_⟩
    refine d_br (fun h => ?_) (fun h => ?_)
    · exact d_ret [-1] rfl (by decide) ⟨⟨hI, fun _ _ _ _ _ => rfl, hc⟩, -1, rfl, Or.inl ⟨by omega, rfl⟩⟩
    · simp only [cCmp, cE2, sev, svl, cen, List.cons_append, List.nil_append] at h
      omega
theorem m_findWays (hp : cPl tm tc tf EX) {M : SMem} (hI : sI tg M) : cBG tm tf EX l dC dI cA ad scrS (d + 10) kX10_findWays [(2, 1, 0)] M (fun rr MM => rr = [] ∧ (sI tg MM ∧ (∀ f j i, f ≠ 55 → f ≠ 56 → ¬ (f = 1 ∧ (i = 0 ∨ i = 56)) → MM f j i = M f j i)) ∧ MM 1 0 0 = M 1 0 0 ∧ MM 1 0 56 = ((bCnt (M 51 0) (M 52 0) (M 53 0) (M 54 0) 6 0 : Nat) : Int) ∧ ∀ k, k < 6 → MM 56 0 k = wBt (wDc (bRc (M 51 0) (M 52 0) (M 53 0) (M 54 0) 6 0 k)) 6) := by
  refine cMeth (v := []) (Fd := 90) hp (by decide) gX10_findWays_ok gX10_findWays_m0 (by simp [cAs, cE2, sev, svl, cen]) ?_
  have loop : ∀ (m k : Nat) (M1 : SMem), k + m = 6 → sI tg M1 → (∀ f j i, f ≠ 56 → ¬ (f = 1 ∧ i = 56) → M1 f j i = M f j i) → M1 1 0 56 = 0 → (∀ i, i < k → M1 56 0 i = 0) → cEnds (cBG tm tf EX l dC dI cA ad scrS (d + 9)) (fun rr MM => rr = [] ∧ (sI tg MM ∧ (∀ f j i, f ≠ 55 → f ≠ 56 → ¬ (f = 1 ∧ (i = 0 ∨ i = 56)) → MM f j i = M f j i)) ∧ MM 1 0 0 = M 1 0 0 ∧ MM 1 0 56 = ((bCnt (M 51 0) (M 52 0) (M 53 0) (M 54 0) 6 0 : Nat) : Int) ∧ ∀ k, k < 6 → MM 56 0 k = wBt (wDc (bRc (M 51 0) (M 52 0) (M 53 0) (M 54 0) 6 0 k)) 6) 90 gX10_findWays 7 [(k : Int)] M1 := by
    intro m
    induction m with
    | zero =>
      intro k M1 hk i1 f1 w1 z1
      have ek : k = 6 := by omega
      subst ek
      have row : ∀ f, f ≠ 56 → f ≠ 1 → M1 f 0 = M f 0 := fun f y1 y2 => by
        funext i
        exact f1 f 0 i y1 (fun q => y2 q.1)
      refine cEnds_at gX10_findWays_m7 rfl ?_
      refine d_br (fun h => ?_) (fun h => ?_)
      · refine d_call (m_fills (d := d) hp (T := M 51 0) (L := M 52 0) (R := M 53 0) (C := M 54 0) 6 (Nat.le_refl _) 0 (fun _ _ => False) 0 M1 i1 (row 51 (by decide) (by decide)) (row 52 (by decide) (by decide)) (row 53 (by decide) (by decide)) (row 54 (by decide) (by decide)) (fun k hk => ?_) w1 (by decide)) (by simp [cAs, cE2, sev, svl, cen]) ?_
        · rw [z1 k hk, wBt_0 6 (fun i _ => wDc_n (P := fun _ => False) id)]
        rintro rr M2 ⟨rfl, i2, w2, f2, -, s2⟩
        refine ⟨rfl, ?_⟩
        refine d_ret [] rfl (by decide) ⟨rfl, ⟨i2, fun f j i y1 y2 y3 => ?_⟩, ?_, by rw [w2, Nat.zero_add], fun k hk => ?_⟩
        · rw [f2 f j i y1 y2 (fun q => y3 ⟨q.1, Or.inr q.2⟩), f1 f j i y2 (fun q => y3 ⟨q.1, Or.inr q.2⟩)]
        · rw [f2 1 0 0 (by decide) (by decide) (by decide), f1 1 0 0 (by decide) (by decide)]
        · rw [s2 k hk]
          exact wBt_cg 6 (fun i _ => wDc_cg ⟨fun z => z.elim False.elim (fun z => z.elim (fun z => absurd z.1 (by omega)) id), fun z => Or.inr (Or.inr z)⟩)
      · simp only [cCmp, cE2, sev, svl, cen, List.cons_append, List.nil_append] at h
        omega
    | succ m ih =>
      intro k M1 hk i1 f1 w1 z1
      refine cEnds_at gX10_findWays_m7 rfl ?_
      refine d_br (fun h => ?_) (fun h => ?_)
      · simp only [cCmp, cE2, sev, svl, cen, List.cons_append, List.nil_append] at h
        omega
      · refine d_set 0 k 0 (by simp only [cE2, sev, svl, cen, List.cons_append, List.nil_append]; omega) (by simp only [cE2, sev, svl, cen, List.cons_append, List.nil_append]; omega) (by omega) (by simp only [cE2, sev, svl, cen, List.cons_append, List.nil_append]; omega) ?_
        refine d_rng (by simp only [clo, chi, cE2, sev, svl, cen, List.cons_append, List.nil_append]; omega) ?_
        refine d_cut [((k + 1 : Nat) : Int)] (by simp [cE2, sev, svl, cen] <;> omega) ?_
        refine ih (k + 1) _ (by omega) (wI (lo := -2147483648) (hi := 2147483647) i1 rfl ⟨by omega, by omega⟩) (fun f j i z y => by rw [supd_f z, f1 f j i z y]) (by rw [supd_f (by decide)]; exact w1) (fun i hi => ?_)
        by_cases e : i = k
        · rw [e, supd_at]
        · rw [supd_i e]
          exact z1 i (by omega)
  refine cEnds_at gX10_findWays_m0 rfl ?_
  refine d_put 0 0 (by simp only [cE2, sev, svl, cen, List.cons_append, List.nil_append]; omega) (by simp only [cE2, sev, svl, cen, List.cons_append, List.nil_append]; omega) ?_
  refine d_cut [((0 : Nat) : Int)] (by simp [cE2, sev, svl, cen] <;> omega) ?_
  exact loop 6 0 _ (by omega) (wI (lo := -2147483648) (hi := 2147483647) hI rfl ⟨by omega, by omega⟩) (fun f j i _ y => if_neg (fun q => y ⟨q.1, q.2.2⟩)) (supd_at _ _ _ _ _) (fun i hi => by omega)
end CB4
