/-! what the methods do: far, the reference's side; both alike -/
def vEr (M : SMem) (hd nm : Int) (p : Nat) : Prop := M 22 0 p ≠ 0 ∧ ∃ i : Nat, 1 ≤ i ∧ (i : Int) < M 27 0 p ∧ ¬ (M 29 0 (6 * p + i) = 0 ∨ M 29 0 (6 * p + i) = 3 ∨ M 29 0 (6 * p + i) = 4) ∧ M 28 0 (6 * p + i) = hd ∧ M 30 0 (6 * p + i - 1) = nm
def vBe (M : SMem) (nm : Int) (p : Nat) : Prop := M 22 0 p ≠ 0 ∧ 0 < M 27 0 p ∧ M 30 0 (6 * p + (M 27 0 p).toNat - 1) = nm
theorem cfn1_idem {x y : Int} : cfn 1 (cfn 1 x y) y = cfn 1 x y := by
  show (Int32.ofInt (Int32.ofInt x ||| Int32.ofInt y).toInt ||| Int32.ofInt y).toInt = (Int32.ofInt x ||| Int32.ofInt y).toInt
  rw [Int32.ofInt_toInt, Int32.or_assoc, Int32.or_self]
section CFM
variable {EX : SEx} {l : Launch} {dC : Nat → ClassId} {dI : Nat → Nat → Nat} {cA : Nat → ClassId} {ad : SAd} {scrS d : Nat}
set_option maxHeartbeats 4000000 in
theorem m_far (hp : cPl tm tc tf EX) {hd nm w : Int} {M : SMem} (hI : sI tg M) : cBG tm tf EX l dC dI cA ad scrS (d + 3) kX10_far [(2, 1, 0), (0, 0, hd), (0, 0, nm), (0, 0, w)] M (fun rr MM => MM = supd M 1 0 0 0 ∧ ∃ r : Int, rr = [r] ∧ ((¬ ((0 ≤ hd ∧ hd ≤ 5) ∧ (0 ≤ nm ∧ nm < 8 ∧ M 17 0 nm.toNat ≠ 0) ∧ (0 ≤ w ∧ w ≤ 3)) ∧ r = -1) ∨ (((0 ≤ hd ∧ hd ≤ 5) ∧ (0 ≤ nm ∧ nm < 8 ∧ M 17 0 nm.toNat ≠ 0) ∧ (0 ≤ w ∧ w ≤ 3)) ∧ ((w = 0 ∧ r = wHi (wDc (vEr M hd nm)) (M 24 0) 12) ∨ (w = 1 ∧ r = wLo (wDc (vBe M nm)) (M 24 0) 12) ∨ (w = 2 ∧ r = wSo (wDc (vEr M hd nm)) (M 25 0) 12) ∨ (w = 3 ∧ r = wSo (wDc (vBe M nm)) (M 25 0) 12))))) := by
  refine cMeth (v := [hd, nm, w]) (Fd := 120) hp (by decide) gX10_far_ok gX10_far_m0 (by simp [cAs, cE2, sev, svl, cen]) ?_
  suffices H : ∀ Po : List Int → SMem → Prop, (∀ rr MM, (MM = supd M 1 0 0 0 ∧ ∃ r : Int, rr = [r] ∧ ((¬ ((0 ≤ hd ∧ hd ≤ 5) ∧ (0 ≤ nm ∧ nm < 8 ∧ M 17 0 nm.toNat ≠ 0) ∧ (0 ≤ w ∧ w ≤ 3)) ∧ r = -1) ∨ (((0 ≤ hd ∧ hd ≤ 5) ∧ (0 ≤ nm ∧ nm < 8 ∧ M 17 0 nm.toNat ≠ 0) ∧ (0 ≤ w ∧ w ≤ 3)) ∧ ((w = 0 ∧ r = wHi (wDc (vEr M hd nm)) (M 24 0) 12) ∨ (w = 1 ∧ r = wLo (wDc (vBe M nm)) (M 24 0) 12) ∨ (w = 2 ∧ r = wSo (wDc (vEr M hd nm)) (M 25 0) 12) ∨ (w = 3 ∧ r = wSo (wDc (vBe M nm)) (M 25 0) 12))))) → Po rr MM) → cEnds (cBG tm tf EX l dC dI cA ad scrS (d + 2)) Po 120 gX10_far 0 [hd, nm, w] M from H _ (fun _ _ h => h)
  intro Po hPo
  have i1 : sI tg (supd M 1 0 0 0) := wI (lo := 0) (hi := 1) hI rfl ⟨by omega, by omega⟩
  have r1 : ∀ f, f ≠ 1 → supd M 1 0 0 0 f = M f := fun f q => supd_ff q
  have e17 := congrFun (congrFun (r1 17 (by decide)) 0) nm.toNat
  have hr := wHi_r (E := wDc (vEr M hd nm)) (H := M 24 0) (fun k => wIb (f := 24) (i := k) (lo := 0) (hi := 99) hI 0 rfl)
  have hr2 := wLo_r (E := wDc (vBe M nm)) (H := M 24 0) (fun k => wIb (f := 24) (i := k) (lo := 0) (hi := 99) hI 0 rfl)
  have hr3 := wSo_r (E := wDc (vEr M hd nm)) (H := M 25 0)
  have hr4 := wSo_r (E := wDc (vBe M nm)) (H := M 25 0)
  have hEy : ∀ p, vEr M hd nm p → wDc (vEr M hd nm) p = true := fun p h => wDc_y h
  have hEn : ∀ p, ¬ vEr M hd nm p → wDc (vEr M hd nm) p = false := fun p h => wDc_n h
  have hBy : ∀ p, vBe M nm p → wDc (vBe M nm) p = true := fun p h => wDc_y h
  have hBn : ∀ p, ¬ vBe M nm p → wDc (vBe M nm) p = false := fun p h => wDc_n h
  generalize wDc (vEr M hd nm) = E at hr hr3 hEy hEn hPo
  generalize wDc (vBe M nm) = B at hr2 hr4 hBy hBn hPo
  generalize hM1 : supd M 1 0 0 0 = M1 at i1 r1 e17 hPo
  have q22 : ∀ p, M1 22 0 p = M 22 0 p := fun p => by rw [r1 22 (by decide)]
  have q24 : ∀ p, M1 24 0 p = M 24 0 p := fun p => by rw [r1 24 (by decide)]
  have q25 : ∀ p, M1 25 0 p = M 25 0 p := fun p => by rw [r1 25 (by decide)]
  have q27 : ∀ p, M1 27 0 p = M 27 0 p := fun p => by rw [r1 27 (by decide)]
  have q28 : ∀ p, M1 28 0 p = M 28 0 p := fun p => by rw [r1 28 (by decide)]
  have q29 : ∀ p, M1 29 0 p = M 29 0 p := fun p => by rw [r1 29 (by decide)]
  have q30 : ∀ p, M1 30 0 p = M 30 0 p := fun p => by rw [r1 30 (by decide)]
  have l48 : (0 ≤ hd ∧ hd ≤ 5) ∧ (0 ≤ nm ∧ nm < 8 ∧ M 17 0 nm.toNat ≠ 0) ∧ (0 ≤ w ∧ w ≤ 3) → ∀ (m p : Nat), p + m = 12 → cEnds (cBG tm tf EX l dC dI cA ad scrS (d + 2)) Po 120 gX10_far 48 [hd, nm, w, wHi E (M 24 0) p, wLo B (M 24 0) p, wSo E (M 25 0) p, wSo B (M 25 0) p, (p : Int)] M1 := by
    intro hOK m
    induction m with
    | zero =>
      intro p hpm
      have c1 := hr p
      have c2 := hr2 p
      have c3 := hr3 p
      have c4 := hr4 p
      refine cEnds_at gX10_far_m48 rfl ?_
      have ep : p = 12 := by omega
      subst ep
      refine d_br (fun h => ?_) (fun h => ?_)
      · simp only [cCmp, cE2, sev, svl, cen, List.cons_append, List.nil_append] at h
        first
        | omega
        | skip
          refine d_br (fun h => ?_) (fun h => ?_)
          · simp only [cCmp, cE2, sev, svl, cen, List.cons_append, List.nil_append] at h
            first
            | omega
            | skip
              refine d_br (fun h => ?_) (fun h => ?_)
              · simp only [cCmp, cE2, sev, svl, cen, List.cons_append, List.nil_append] at h
                first
                | omega
                | skip
                  refine d_br (fun h => ?_) (fun h => ?_)
                  · simp only [cCmp, cE2, sev, svl, cen, List.cons_append, List.nil_append] at h
                    first
                    | omega
                    | skip
                      exact wret1 (wSo B (M 25 0) 12) (by simp only [cE2, sev, svl, cen, List.cons_append, List.nil_append]; omega) (by omega) (hPo _ _ ⟨rfl, _, rfl, Or.inr ⟨hOK, by omega⟩⟩)
                  · simp only [cCmp, cE2, sev, svl, cen, List.cons_append, List.nil_append] at h
                    first
                    | omega
                    | skip
                      exact wret1 (wSo E (M 25 0) 12) (by simp only [cE2, sev, svl, cen, List.cons_append, List.nil_append]; omega) (by omega) (hPo _ _ ⟨rfl, _, rfl, Or.inr ⟨hOK, by omega⟩⟩)
              · simp only [cCmp, cE2, sev, svl, cen, List.cons_append, List.nil_append] at h
                first
                | omega
                | skip
                  exact wret1 (wLo B (M 24 0) 12) (by simp only [cE2, sev, svl, cen, List.cons_append, List.nil_append]; omega) (by omega) (hPo _ _ ⟨rfl, _, rfl, Or.inr ⟨hOK, by omega⟩⟩)
          · simp only [cCmp, cE2, sev, svl, cen, List.cons_append, List.nil_append] at h
            first
            | omega
            | skip
              exact wret1 (wHi E (M 24 0) 12) (by simp only [cE2, sev, svl, cen, List.cons_append, List.nil_append]; omega) (by omega) (hPo _ _ ⟨rfl, _, rfl, Or.inr ⟨hOK, by omega⟩⟩)
      · simp only [cCmp, cE2, sev, svl, cen, List.cons_append, List.nil_append] at h
        first
        | omega
        | skip
          refine d_cut [hd, nm, w, (wHi E (M 24 0) 12), (wLo B (M 24 0) 12), (wSo E (M 25 0) 12), (wSo B (M 25 0) 12), ((12 : Nat) : Int), 1] (by simp [cE2, sev, svl, cen] <;> omega) ?_
          exact (by omega)
    | succ m ih =>
      intro p hpm
      have c1 := hr p
      have c2 := hr2 p
      have c3 := hr3 p
      have c4 := hr4 p
      have bH := wIb (f := 24) (i := p) (lo := 0) (hi := 99) hI 0 rfl
      have b6 := wIb (f := 27) (i := p) (lo := 0) (hi := 6) hI 0 rfl
      obtain ⟨sz, hsz⟩ : ∃ sz : Nat, M 27 0 p = (sz : Int) := ⟨(M 27 0 p).toNat, by omega⟩
      have qsz : M1 27 0 p = (sz : Int) := (q27 p).trans hsz
      have hBe : vBe M nm p ↔ (M 22 0 p ≠ 0 ∧ 0 < sz ∧ M 30 0 (6 * p + sz - 1) = nm) := by
        unfold vBe
        rw [hsz, show ((sz : Int)).toNat = sz by omega]
        constructor <;> intro z <;> exact ⟨z.1, by omega, z.2.2⟩
      have eL : B p = true → wLo B (M 24 0) (p + 1) = if wLo B (M 24 0) p < 0 ∨ M 24 0 p < wLo B (M 24 0) p then M 24 0 p else wLo B (M 24 0) p := fun e => wLo_y e
      -- the next place
      have s266 : cEnds (cBG tm tf EX l dC dI cA ad scrS (d + 2)) Po 120 gX10_far 266 [hd, nm, w, wHi E (M 24 0) (p + 1), wLo B (M 24 0) (p + 1), wSo E (M 25 0) (p + 1), wSo B (M 25 0) (p + 1), (p : Int)] M1 := by
        refine cEnds_at gX10_far_m266 rfl ?_
        refine d_rng (by simp only [clo, chi, cE2, sev, svl, cen, List.cons_append, List.nil_append]; omega) ?_
        refine d_cut [hd, nm, w, wHi E (M 24 0) (p + 1), wLo B (M 24 0) (p + 1), wSo E (M 25 0) (p + 1), wSo B (M 25 0) (p + 1), ((p + 1 : Nat) : Int)] (by simp [cE2, sev, svl, cen] <;> omega) ?_
        exact ih (p + 1) (by omega)
      have c5 := hr (p + 1)
      have c6 := hr3 (p + 1)
      -- what stands there
      have s173 : cEnds (cBG tm tf EX l dC dI cA ad scrS (d + 2)) Po 120 gX10_far 173 [hd, nm, w, wHi E (M 24 0) (p + 1), wLo B (M 24 0) p, wSo E (M 25 0) (p + 1), wSo B (M 25 0) p, (p : Int)] M1 := by
        refine cEnds_at gX10_far_m173 rfl ?_
        generalize wHi E (M 24 0) (p + 1) = hi1 at s266 c5 ⊢
        generalize wSo E (M 25 0) (p + 1) = dn1 at s266 c6 ⊢
        refine d_rng (by simp only [clo, chi, cE2, sev, svl, cen, List.cons_append, List.nil_append]; omega) ?_
        refine d_row 0 p (by simp only [cE2, sev, svl, cen, List.cons_append, List.nil_append]; omega) (by simp only [cE2, sev, svl, cen, List.cons_append, List.nil_append]; omega) (by omega) ?_
        rw [qsz]
        refine d_rng (by simp only [clo, chi, cE2, sev, svl, cen, List.cons_append, List.nil_append]; omega) ?_
        refine d_rng (by simp only [clo, chi, cE2, sev, svl, cen, List.cons_append, List.nil_append]; omega) ?_
        refine d_row 0 p (by simp only [cE2, sev, svl, cen, List.cons_append, List.nil_append]; omega) (by simp only [cE2, sev, svl, cen, List.cons_append, List.nil_append]; omega) (by omega) ?_
        rw [q22 p]
        refine d_br (fun h => ?_) (fun h => ?_)
        · simp only [cCmp, cE2, sev, svl, cen, List.cons_append, List.nil_append] at h
          first
          | omega
          | skip
            have e : B p = false := hBn p (fun z => by have := hBe.mp z; omega)
            rw [wLo_n e, wSo_n e] at s266
            refine d_cut [hd, nm, w, hi1, wLo B (M 24 0) p, dn1, wSo B (M 25 0) p, (p : Int)] (by simp [cE2, sev, svl, cen] <;> omega) ?_
            exact s266
        · simp only [cCmp, cE2, sev, svl, cen, List.cons_append, List.nil_append] at h
          first
          | omega
          | skip
            refine d_row 0 p (by simp only [cE2, sev, svl, cen, List.cons_append, List.nil_append]; omega) (by simp only [cE2, sev, svl, cen, List.cons_append, List.nil_append]; omega) (by omega) ?_
            rw [qsz]
            refine d_br (fun h => ?_) (fun h => ?_)
            · simp only [cCmp, cE2, sev, svl, cen, List.cons_append, List.nil_append] at h
              first
              | omega
              | skip
                have e : B p = false := hBn p (fun z => by have := hBe.mp z; omega)
                rw [wLo_n e, wSo_n e] at s266
                refine d_cut [hd, nm, w, hi1, wLo B (M 24 0) p, dn1, wSo B (M 25 0) p, (p : Int)] (by simp [cE2, sev, svl, cen] <;> omega) ?_
                exact s266
            · simp only [cCmp, cE2, sev, svl, cen, List.cons_append, List.nil_append] at h
              first
              | omega
              | skip
                refine d_row 0 (6 * p + sz - 1) (by simp only [cE2, sev, svl, cen, List.cons_append, List.nil_append]; omega) (by simp only [cE2, sev, svl, cen, List.cons_append, List.nil_append]; omega) (by omega) ?_
                rw [q30 (6 * p + sz - 1)]
                refine d_br (fun h => ?_) (fun h => ?_)
                · simp only [cCmp, cE2, sev, svl, cen, List.cons_append, List.nil_append] at h
                  first
                  | omega
                  | skip
                    have e : B p = false := hBn p (fun z => by have := hBe.mp z; omega)
                    rw [wLo_n e, wSo_n e] at s266
                    refine d_cut [hd, nm, w, hi1, wLo B (M 24 0) p, dn1, wSo B (M 25 0) p, (p : Int)] (by simp [cE2, sev, svl, cen] <;> omega) ?_
                    exact s266
                · simp only [cCmp, cE2, sev, svl, cen, List.cons_append, List.nil_append] at h
                  first
                  | omega
                  | skip
                    refine d_br (fun h => ?_) (fun h => ?_)
                    · simp only [cCmp, cE2, sev, svl, cen, List.cons_append, List.nil_append] at h
                      first
                      | omega
                      | skip
                        refine d_row 0 p (by simp only [cE2, sev, svl, cen, List.cons_append, List.nil_append]; omega) (by simp only [cE2, sev, svl, cen, List.cons_append, List.nil_append]; omega) (by omega) ?_
                        rw [q24 p]
                        refine d_row 0 p (by simp only [cE2, sev, svl, cen, List.cons_append, List.nil_append]; omega) (by simp only [cE2, sev, svl, cen, List.cons_append, List.nil_append]; omega) (by omega) ?_
                        rw [q25 p]
                        refine d_opw 1 (M 25 0 p) (by simp [cE2, sev, svl, cen] <;> omega) (by simp [cE2, sev, svl, cen] <;> omega) ?_
                        refine d_opw (wSo B (M 25 0) p) (cfn 2 1 (M 25 0 p)) (by simp [cE2, sev, svl, cen] <;> omega) (by simp [cE2, sev, svl, cen] <;> omega) ?_
                        have e : B p = true := hBy p (hBe.mpr ⟨by omega, by omega, by omega⟩)
                        have e2 := eL e
                        rw [if_pos (by omega)] at e2
                        rw [e2, wSo_y e] at s266
                        refine d_cut [hd, nm, w, hi1, M 24 0 p, dn1, cfn 1 (wSo B (M 25 0) p) (cfn 2 1 (M 25 0 p)), (p : Int)] (by simp [cE2, sev, svl, cen] <;> omega) ?_
                        exact s266
                    · simp only [cCmp, cE2, sev, svl, cen, List.cons_append, List.nil_append] at h
                      first
                      | omega
                      | skip
                        refine d_row 0 p (by simp only [cE2, sev, svl, cen, List.cons_append, List.nil_append]; omega) (by simp only [cE2, sev, svl, cen, List.cons_append, List.nil_append]; omega) (by omega) ?_
                        rw [q24 p]
                        refine d_br (fun h => ?_) (fun h => ?_)
                        · simp only [cCmp, cE2, sev, svl, cen, List.cons_append, List.nil_append] at h
                          first
                          | omega
                          | skip
                            refine d_row 0 p (by simp only [cE2, sev, svl, cen, List.cons_append, List.nil_append]; omega) (by simp only [cE2, sev, svl, cen, List.cons_append, List.nil_append]; omega) (by omega) ?_
                            rw [q25 p]
                            refine d_opw 1 (M 25 0 p) (by simp [cE2, sev, svl, cen] <;> omega) (by simp [cE2, sev, svl, cen] <;> omega) ?_
                            refine d_opw (wSo B (M 25 0) p) (cfn 2 1 (M 25 0 p)) (by simp [cE2, sev, svl, cen] <;> omega) (by simp [cE2, sev, svl, cen] <;> omega) ?_
                            have e : B p = true := hBy p (hBe.mpr ⟨by omega, by omega, by omega⟩)
                            have e2 := eL e
                            rw [if_neg (by omega)] at e2
                            rw [e2, wSo_y e] at s266
                            refine d_cut [hd, nm, w, hi1, wLo B (M 24 0) p, dn1, cfn 1 (wSo B (M 25 0) p) (cfn 2 1 (M 25 0 p)), (p : Int)] (by simp [cE2, sev, svl, cen] <;> omega) ?_
                            exact s266
                        · simp only [cCmp, cE2, sev, svl, cen, List.cons_append, List.nil_append] at h
                          first
                          | omega
                          | skip
                            refine d_row 0 p (by simp only [cE2, sev, svl, cen, List.cons_append, List.nil_append]; omega) (by simp only [cE2, sev, svl, cen, List.cons_append, List.nil_append]; omega) (by omega) ?_
                            rw [q24 p]
                            refine d_row 0 p (by simp only [cE2, sev, svl, cen, List.cons_append, List.nil_append]; omega) (by simp only [cE2, sev, svl, cen, List.cons_append, List.nil_append]; omega) (by omega) ?_
                            rw [q25 p]
                            refine d_opw 1 (M 25 0 p) (by simp [cE2, sev, svl, cen] <;> omega) (by simp [cE2, sev, svl, cen] <;> omega) ?_
                            refine d_opw (wSo B (M 25 0) p) (cfn 2 1 (M 25 0 p)) (by simp [cE2, sev, svl, cen] <;> omega) (by simp [cE2, sev, svl, cen] <;> omega) ?_
                            have e : B p = true := hBy p (hBe.mpr ⟨by omega, by omega, by omega⟩)
                            have e2 := eL e
                            rw [if_pos (by omega)] at e2
                            rw [e2, wSo_y e] at s266
                            refine d_cut [hd, nm, w, hi1, M 24 0 p, dn1, cfn 1 (wSo B (M 25 0) p) (cfn 2 1 (M 25 0 p)), (p : Int)] (by simp [cE2, sev, svl, cen] <;> omega) ?_
                            exact s266
      -- the layers, one found
      have s58y : E p = true → M 22 0 p ≠ 0 → ∀ (m2 k : Nat), 1 ≤ k → k + m2 = 7 → cEnds (cBG tm tf EX l dC dI cA ad scrS (d + 2)) Po 120 gX10_far 58 [hd, nm, w, wHi E (M 24 0) (p + 1), wLo B (M 24 0) p, wSo E (M 25 0) (p + 1), wSo B (M 25 0) p, (p : Int), (k : Int)] M1 := by
        intro hE h22 m2
        have g1 : M 24 0 p ≤ wHi E (M 24 0) (p + 1) := by
          rw [wHi_y hE]
          have := @cfn11 (wHi E (M 24 0) p) (M 24 0 p)
          omega
        have g2 : cfn 1 (wSo E (M 25 0) (p + 1)) (cfn 2 1 (M 25 0 p)) = wSo E (M 25 0) (p + 1) := by
          rw [wSo_y hE, cfn1_idem]
        generalize wHi E (M 24 0) (p + 1) = hi1 at s173 c5 g1 ⊢
        generalize wSo E (M 25 0) (p + 1) = dn1 at s173 c6 g2 ⊢
        induction m2 with
        | zero =>
          intro k h1 hk
          refine cEnds_at gX10_far_m58 rfl ?_
          refine d_row 0 p (by simp only [cE2, sev, svl, cen, List.cons_append, List.nil_append]; omega) (by simp only [cE2, sev, svl, cen, List.cons_append, List.nil_append]; omega) (by omega) ?_
          rw [qsz]
          refine d_br (fun h => ?_) (fun h => ?_)
          · refine d_cut [hd, nm, w, hi1, wLo B (M 24 0) p, dn1, wSo B (M 25 0) p, (p : Int)] (by simp [cE2, sev, svl, cen] <;> omega) ?_
            exact s173
          · simp only [cCmp, cE2, sev, svl, cen, List.cons_append, List.nil_append] at h
            omega
        | succ m2 ihk =>
          intro k h1 hk
          refine cEnds_at gX10_far_m58 rfl ?_
          refine d_row 0 p (by simp only [cE2, sev, svl, cen, List.cons_append, List.nil_append]; omega) (by simp only [cE2, sev, svl, cen, List.cons_append, List.nil_append]; omega) (by omega) ?_
          rw [qsz]
          refine d_br (fun h => ?_) (fun h => ?_)
          · simp only [cCmp, cE2, sev, svl, cen, List.cons_append, List.nil_append] at h
            first
            | omega
            | skip
              refine d_cut [hd, nm, w, hi1, (wLo B (M 24 0) p), dn1, (wSo B (M 25 0) p), (p : Int)] (by simp [cE2, sev, svl, cen] <;> omega) ?_
              exact s173
          · simp only [cCmp, cE2, sev, svl, cen, List.cons_append, List.nil_append] at h
            first
            | omega
            | skip
              refine d_row 0 p (by simp only [cE2, sev, svl, cen, List.cons_append, List.nil_append]; omega) (by simp only [cE2, sev, svl, cen, List.cons_append, List.nil_append]; omega) (by omega) ?_
              rw [q22 p]
              refine d_br (fun h => ?_) (fun h => ?_)
              · simp only [cCmp, cE2, sev, svl, cen, List.cons_append, List.nil_append] at h
                first
                | omega
                | skip
                  refine d_cut [hd, nm, w, hi1, (wLo B (M 24 0) p), dn1, (wSo B (M 25 0) p), (p : Int)] (by simp [cE2, sev, svl, cen] <;> omega) ?_
                  exact s173
              · simp only [cCmp, cE2, sev, svl, cen, List.cons_append, List.nil_append] at h
                first
                | omega
                | skip
                  refine d_rng (by simp only [clo, chi, cE2, sev, svl, cen, List.cons_append, List.nil_append]; omega) ?_
                  refine d_rng (by simp only [clo, chi, cE2, sev, svl, cen, List.cons_append, List.nil_append]; omega) ?_
                  refine d_row 0 (6 * p + k) (by simp only [cE2, sev, svl, cen, List.cons_append, List.nil_append]; omega) (by simp only [cE2, sev, svl, cen, List.cons_append, List.nil_append]; omega) (by omega) ?_
                  rw [q29 (6 * p + k)]
                  refine d_call (m_names hp (x := (M 29 0 (6 * p + k)))) (by simp [cAs, cE2, sev, svl, cen] <;> omega) ?_
                  intro rr M' hq
                  obtain ⟨hM', hq⟩ := hq
                  rw [hM']
                  rcases hq with ⟨rfl, q12⟩ | ⟨rfl, q12⟩
                  · refine ⟨rfl, ?_⟩
                    refine d_br (fun h => ?_) (fun h => ?_)
                    · clear h
                      refine d_rng (by simp only [clo, chi, cE2, sev, svl, cen, List.cons_append, List.nil_append]; omega) ?_
                      refine d_cut [hd, nm, w, hi1, wLo B (M 24 0) p, dn1, wSo B (M 25 0) p, (p : Int), ((k + 1 : Nat) : Int)] (by simp [cE2, sev, svl, cen] <;> omega) ?_
                      exact ihk (k + 1) (by omega) (by omega)
                    · simp only [cCmp, cE2, sev, svl, cen, List.cons_append, List.nil_append] at h
                      omega
                  · refine ⟨rfl, ?_⟩
                    refine d_br (fun h => ?_) (fun h => ?_)
                    · simp only [cCmp, cE2, sev, svl, cen, List.cons_append, List.nil_append] at h
                      omega
                    · clear h
                      refine d_row 0 (6 * p + k) (by simp only [cE2, sev, svl, cen, List.cons_append, List.nil_append]; omega) (by simp only [cE2, sev, svl, cen, List.cons_append, List.nil_append]; omega) (by omega) ?_
                      rw [q28 (6 * p + k)]
                      refine d_br (fun h => ?_) (fun h => ?_)
                      · simp only [cCmp, cE2, sev, svl, cen, List.cons_append, List.nil_append] at h
                        first
                        | omega
                        | skip
                          refine d_rng (by simp only [clo, chi, cE2, sev, svl, cen, List.cons_append, List.nil_append]; omega) ?_
                          refine d_cut [hd, nm, w, hi1, wLo B (M 24 0) p, dn1, wSo B (M 25 0) p, (p : Int), ((k + 1 : Nat) : Int)] (by simp [cE2, sev, svl, cen] <;> omega) ?_
                          exact ihk (k + 1) (by omega) (by omega)
                      · simp only [cCmp, cE2, sev, svl, cen, List.cons_append, List.nil_append] at h
                        first
                        | omega
                        | skip
                          refine d_rng (by simp only [clo, chi, cE2, sev, svl, cen, List.cons_append, List.nil_append]; omega) ?_
                          refine d_row 0 (6 * p + k - 1) (by simp only [cE2, sev, svl, cen, List.cons_append, List.nil_append]; omega) (by simp only [cE2, sev, svl, cen, List.cons_append, List.nil_append]; omega) (by omega) ?_
                          rw [q30 (6 * p + k - 1)]
                          refine d_br (fun h => ?_) (fun h => ?_)
                          · simp only [cCmp, cE2, sev, svl, cen, List.cons_append, List.nil_append] at h
                            first
                            | omega
                            | skip
                              refine d_rng (by simp only [clo, chi, cE2, sev, svl, cen, List.cons_append, List.nil_append]; omega) ?_
                              refine d_cut [hd, nm, w, hi1, wLo B (M 24 0) p, dn1, wSo B (M 25 0) p, (p : Int), ((k + 1 : Nat) : Int)] (by simp [cE2, sev, svl, cen] <;> omega) ?_
                              exact ihk (k + 1) (by omega) (by omega)
                          · simp only [cCmp, cE2, sev, svl, cen, List.cons_append, List.nil_append] at h
                            first
                            | omega
                            | skip
                              refine d_row 0 p (by simp only [cE2, sev, svl, cen, List.cons_append, List.nil_append]; omega) (by simp only [cE2, sev, svl, cen, List.cons_append, List.nil_append]; omega) (by omega) ?_
                              rw [q24 p]
                              refine d_br (fun h => ?_) (fun h => ?_)
                              · simp only [cCmp, cE2, sev, svl, cen, List.cons_append, List.nil_append] at h
                                first
                                | omega
                                | skip
                                  refine d_row 0 p (by simp only [cE2, sev, svl, cen, List.cons_append, List.nil_append]; omega) (by simp only [cE2, sev, svl, cen, List.cons_append, List.nil_append]; omega) (by omega) ?_
                                  rw [q25 p]
                                  refine d_opw 1 (M 25 0 p) (by simp [cE2, sev, svl, cen] <;> omega) (by simp [cE2, sev, svl, cen] <;> omega) ?_
                                  refine d_opw dn1 (cfn 2 1 (M 25 0 p)) (by simp [cE2, sev, svl, cen] <;> omega) (by simp [cE2, sev, svl, cen] <;> omega) ?_
                                  rw [g2]
                                  refine d_rng (by simp only [clo, chi, cE2, sev, svl, cen, List.cons_append, List.nil_append]; omega) ?_
                                  refine d_cut [hd, nm, w, hi1, wLo B (M 24 0) p, dn1, wSo B (M 25 0) p, (p : Int), ((k + 1 : Nat) : Int)] (by simp [cE2, sev, svl, cen] <;> omega) ?_
                                  exact ihk (k + 1) (by omega) (by omega)
                              · simp only [cCmp, cE2, sev, svl, cen, List.cons_append, List.nil_append] at h
                                first
                                | omega
                                | skip
                                  refine d_row 0 p (by simp only [cE2, sev, svl, cen, List.cons_append, List.nil_append]; omega) (by simp only [cE2, sev, svl, cen, List.cons_append, List.nil_append]; omega) (by omega) ?_
                                  rw [q24 p]
                                  refine d_row 0 p (by simp only [cE2, sev, svl, cen, List.cons_append, List.nil_append]; omega) (by simp only [cE2, sev, svl, cen, List.cons_append, List.nil_append]; omega) (by omega) ?_
                                  rw [q25 p]
                                  refine d_opw 1 (M 25 0 p) (by simp [cE2, sev, svl, cen] <;> omega) (by simp [cE2, sev, svl, cen] <;> omega) ?_
                                  refine d_opw dn1 (cfn 2 1 (M 25 0 p)) (by simp [cE2, sev, svl, cen] <;> omega) (by simp [cE2, sev, svl, cen] <;> omega) ?_
                                  rw [g2]
                                  refine d_rng (by simp only [clo, chi, cE2, sev, svl, cen, List.cons_append, List.nil_append]; omega) ?_
                                  refine d_cut [hd, nm, w, (M 24 0 p), (wLo B (M 24 0) p), dn1, (wSo B (M 25 0) p), (p : Int), ((k : Int) + 1)] (by simp [cE2, sev, svl, cen] <;> omega) ?_
                                  exact (by omega)
      -- none yet
      have s58n : ∀ (m2 k : Nat), 1 ≤ k → k + m2 = 7 → (∀ i : Nat, 1 ≤ i → i < k → ¬ (¬ (M 29 0 (6 * p + i) = 0 ∨ M 29 0 (6 * p + i) = 3 ∨ M 29 0 (6 * p + i) = 4) ∧ M 28 0 (6 * p + i) = hd ∧ M 30 0 (6 * p + i - 1) = nm)) → cEnds (cBG tm tf EX l dC dI cA ad scrS (d + 2)) Po 120 gX10_far 58 [hd, nm, w, wHi E (M 24 0) p, wLo B (M 24 0) p, wSo E (M 25 0) p, wSo B (M 25 0) p, (p : Int), (k : Int)] M1 := by
        have fin : (∀ i : Nat, 1 ≤ i → i < sz → M 22 0 p ≠ 0 → ¬ (¬ (M 29 0 (6 * p + i) = 0 ∨ M 29 0 (6 * p + i) = 3 ∨ M 29 0 (6 * p + i) = 4) ∧ M 28 0 (6 * p + i) = hd ∧ M 30 0 (6 * p + i - 1) = nm)) → cEnds (cBG tm tf EX l dC dI cA ad scrS (d + 2)) Po 120 gX10_far 173 [hd, nm, w, wHi E (M 24 0) p, wLo B (M 24 0) p, wSo E (M 25 0) p, wSo B (M 25 0) p, (p : Int)] M1 := by
          intro hno
          have e : E p = false := hEn p (fun ⟨z1, i, z2, z3, z4⟩ => hno i z2 (by omega) z1 z4)
          rw [wHi_n e, wSo_n e] at s173
          exact s173
        intro m2
        induction m2 with
        | zero =>
          intro k h1 hk hl
          refine cEnds_at gX10_far_m58 rfl ?_
          refine d_row 0 p (by simp only [cE2, sev, svl, cen, List.cons_append, List.nil_append]; omega) (by simp only [cE2, sev, svl, cen, List.cons_append, List.nil_append]; omega) (by omega) ?_
          rw [qsz]
          refine d_br (fun h => ?_) (fun h => ?_)
          · refine d_cut [hd, nm, w, wHi E (M 24 0) p, wLo B (M 24 0) p, wSo E (M 25 0) p, wSo B (M 25 0) p, (p : Int)] (by simp [cE2, sev, svl, cen] <;> omega) ?_
            exact fin (fun i z1 z2 _ => hl i z1 (by omega))
          · simp only [cCmp, cE2, sev, svl, cen, List.cons_append, List.nil_append] at h
            omega
        | succ m2 ihk =>
          intro k h1 hk hl
          refine cEnds_at gX10_far_m58 rfl ?_
          refine d_row 0 p (by simp only [cE2, sev, svl, cen, List.cons_append, List.nil_append]; omega) (by simp only [cE2, sev, svl, cen, List.cons_append, List.nil_append]; omega) (by omega) ?_
          rw [qsz]
          refine d_br (fun h => ?_) (fun h => ?_)
          · simp only [cCmp, cE2, sev, svl, cen, List.cons_append, List.nil_append] at h
            first
            | omega
            | skip
              refine d_cut [hd, nm, w, (wHi E (M 24 0) p), (wLo B (M 24 0) p), (wSo E (M 25 0) p), (wSo B (M 25 0) p), (p : Int)] (by simp [cE2, sev, svl, cen] <;> omega) ?_
              exact fin (fun i z1 z2 _ => hl i z1 (by omega))
          · simp only [cCmp, cE2, sev, svl, cen, List.cons_append, List.nil_append] at h
            first
            | omega
            | skip
              refine d_row 0 p (by simp only [cE2, sev, svl, cen, List.cons_append, List.nil_append]; omega) (by simp only [cE2, sev, svl, cen, List.cons_append, List.nil_append]; omega) (by omega) ?_
              rw [q22 p]
              refine d_br (fun h => ?_) (fun h => ?_)
              · simp only [cCmp, cE2, sev, svl, cen, List.cons_append, List.nil_append] at h
                first
                | omega
                | skip
                  refine d_cut [hd, nm, w, (wHi E (M 24 0) p), (wLo B (M 24 0) p), (wSo E (M 25 0) p), (wSo B (M 25 0) p), (p : Int)] (by simp [cE2, sev, svl, cen] <;> omega) ?_
                  exact fin (fun i z1 z2 z3 => by omega)
              · simp only [cCmp, cE2, sev, svl, cen, List.cons_append, List.nil_append] at h
                first
                | omega
                | skip
                  refine d_rng (by simp only [clo, chi, cE2, sev, svl, cen, List.cons_append, List.nil_append]; omega) ?_
                  refine d_rng (by simp only [clo, chi, cE2, sev, svl, cen, List.cons_append, List.nil_append]; omega) ?_
                  refine d_row 0 (6 * p + k) (by simp only [cE2, sev, svl, cen, List.cons_append, List.nil_append]; omega) (by simp only [cE2, sev, svl, cen, List.cons_append, List.nil_append]; omega) (by omega) ?_
                  rw [q29 (6 * p + k)]
                  refine d_call (m_names hp (x := (M 29 0 (6 * p + k)))) (by simp [cAs, cE2, sev, svl, cen] <;> omega) ?_
                  intro rr M' hq
                  obtain ⟨hM', hq⟩ := hq
                  rw [hM']
                  rcases hq with ⟨rfl, q12⟩ | ⟨rfl, q12⟩
                  · refine ⟨rfl, ?_⟩
                    refine d_br (fun h => ?_) (fun h => ?_)
                    · clear h
                      refine d_rng (by simp only [clo, chi, cE2, sev, svl, cen, List.cons_append, List.nil_append]; omega) ?_
                      refine d_cut [hd, nm, w, wHi E (M 24 0) p, wLo B (M 24 0) p, wSo E (M 25 0) p, wSo B (M 25 0) p, (p : Int), ((k + 1 : Nat) : Int)] (by simp [cE2, sev, svl, cen] <;> omega) ?_
                      refine ihk (k + 1) (by omega) (by omega) (fun i z1 z2 z3 => ?_)
                      by_cases z : i = k
                      · rw [z] at z3; omega
                      · exact hl i z1 (by omega) z3
                    · simp only [cCmp, cE2, sev, svl, cen, List.cons_append, List.nil_append] at h
                      omega
                  · refine ⟨rfl, ?_⟩
                    refine d_br (fun h => ?_) (fun h => ?_)
                    · simp only [cCmp, cE2, sev, svl, cen, List.cons_append, List.nil_append] at h
                      omega
                    · clear h
                      refine d_row 0 (6 * p + k) (by simp only [cE2, sev, svl, cen, List.cons_append, List.nil_append]; omega) (by simp only [cE2, sev, svl, cen, List.cons_append, List.nil_append]; omega) (by omega) ?_
                      rw [q28 (6 * p + k)]
                      refine d_br (fun h => ?_) (fun h => ?_)
                      · simp only [cCmp, cE2, sev, svl, cen, List.cons_append, List.nil_append] at h
                        first
                        | omega
                        | skip
                          refine d_rng (by simp only [clo, chi, cE2, sev, svl, cen, List.cons_append, List.nil_append]; omega) ?_
                          refine d_cut [hd, nm, w, wHi E (M 24 0) p, wLo B (M 24 0) p, wSo E (M 25 0) p, wSo B (M 25 0) p, (p : Int), ((k + 1 : Nat) : Int)] (by simp [cE2, sev, svl, cen] <;> omega) ?_
                          refine ihk (k + 1) (by omega) (by omega) (fun i z1 z2 z3 => ?_)
                          by_cases z : i = k
                          · rw [z] at z3; omega
                          · exact hl i z1 (by omega) z3
                      · simp only [cCmp, cE2, sev, svl, cen, List.cons_append, List.nil_append] at h
                        first
                        | omega
                        | skip
                          refine d_rng (by simp only [clo, chi, cE2, sev, svl, cen, List.cons_append, List.nil_append]; omega) ?_
                          refine d_row 0 (6 * p + k - 1) (by simp only [cE2, sev, svl, cen, List.cons_append, List.nil_append]; omega) (by simp only [cE2, sev, svl, cen, List.cons_append, List.nil_append]; omega) (by omega) ?_
                          rw [q30 (6 * p + k - 1)]
                          refine d_br (fun h => ?_) (fun h => ?_)
                          · simp only [cCmp, cE2, sev, svl, cen, List.cons_append, List.nil_append] at h
                            first
                            | omega
                            | skip
                              refine d_rng (by simp only [clo, chi, cE2, sev, svl, cen, List.cons_append, List.nil_append]; omega) ?_
                              refine d_cut [hd, nm, w, wHi E (M 24 0) p, wLo B (M 24 0) p, wSo E (M 25 0) p, wSo B (M 25 0) p, (p : Int), ((k + 1 : Nat) : Int)] (by simp [cE2, sev, svl, cen] <;> omega) ?_
                              refine ihk (k + 1) (by omega) (by omega) (fun i z1 z2 z3 => ?_)
                              by_cases z : i = k
                              · rw [z] at z3; omega
                              · exact hl i z1 (by omega) z3
                          · simp only [cCmp, cE2, sev, svl, cen, List.cons_append, List.nil_append] at h
                            first
                            | omega
                            | skip
                              refine d_row 0 p (by simp only [cE2, sev, svl, cen, List.cons_append, List.nil_append]; omega) (by simp only [cE2, sev, svl, cen, List.cons_append, List.nil_append]; omega) (by omega) ?_
                              rw [q24 p]
                              refine d_br (fun h => ?_) (fun h => ?_)
                              · simp only [cCmp, cE2, sev, svl, cen, List.cons_append, List.nil_append] at h
                                first
                                | omega
                                | skip
                                  refine d_row 0 p (by simp only [cE2, sev, svl, cen, List.cons_append, List.nil_append]; omega) (by simp only [cE2, sev, svl, cen, List.cons_append, List.nil_append]; omega) (by omega) ?_
                                  rw [q25 p]
                                  refine d_opw 1 (M 25 0 p) (by simp [cE2, sev, svl, cen] <;> omega) (by simp [cE2, sev, svl, cen] <;> omega) ?_
                                  refine d_opw (wSo E (M 25 0) p) (cfn 2 1 (M 25 0 p)) (by simp [cE2, sev, svl, cen] <;> omega) (by simp [cE2, sev, svl, cen] <;> omega) ?_
                                  refine d_rng (by simp only [clo, chi, cE2, sev, svl, cen, List.cons_append, List.nil_append]; omega) ?_
                                  have e : E p = true := hEy p ⟨by omega, k, h1, by omega, by omega, by omega, by omega⟩
                                  have y := s58y e (by omega) m2 (k + 1) (by omega) (by omega)
                                  rw [wHi_y e, wSo_y e] at y
                                  have e3 := @cfn11 (wHi E (M 24 0) p) (M 24 0 p)
                                  rw [show cfn 11 (wHi E (M 24 0) p) (M 24 0 p) = wHi E (M 24 0) p by omega] at y
                                  refine d_cut [hd, nm, w, wHi E (M 24 0) p, wLo B (M 24 0) p, cfn 1 (wSo E (M 25 0) p) (cfn 2 1 (M 25 0 p)), wSo B (M 25 0) p, (p : Int), ((k + 1 : Nat) : Int)] (by simp [cE2, sev, svl, cen] <;> omega) ?_
                                  exact y
                              · simp only [cCmp, cE2, sev, svl, cen, List.cons_append, List.nil_append] at h
                                first
                                | omega
                                | skip
                                  refine d_row 0 p (by simp only [cE2, sev, svl, cen, List.cons_append, List.nil_append]; omega) (by simp only [cE2, sev, svl, cen, List.cons_append, List.nil_append]; omega) (by omega) ?_
                                  rw [q24 p]
                                  refine d_row 0 p (by simp only [cE2, sev, svl, cen, List.cons_append, List.nil_append]; omega) (by simp only [cE2, sev, svl, cen, List.cons_append, List.nil_append]; omega) (by omega) ?_
                                  rw [q25 p]
                                  refine d_opw 1 (M 25 0 p) (by simp [cE2, sev, svl, cen] <;> omega) (by simp [cE2, sev, svl, cen] <;> omega) ?_
                                  refine d_opw (wSo E (M 25 0) p) (cfn 2 1 (M 25 0 p)) (by simp [cE2, sev, svl, cen] <;> omega) (by simp [cE2, sev, svl, cen] <;> omega) ?_
                                  refine d_rng (by simp only [clo, chi, cE2, sev, svl, cen, List.cons_append, List.nil_append]; omega) ?_
                                  have e : E p = true := hEy p ⟨by omega, k, h1, by omega, by omega, by omega, by omega⟩
                                  have y := s58y e (by omega) m2 (k + 1) (by omega) (by omega)
                                  rw [wHi_y e, wSo_y e] at y
                                  have e3 := @cfn11 (wHi E (M 24 0) p) (M 24 0 p)
                                  rw [show cfn 11 (wHi E (M 24 0) p) (M 24 0 p) = M 24 0 p by omega] at y
                                  refine d_cut [hd, nm, w, M 24 0 p, wLo B (M 24 0) p, cfn 1 (wSo E (M 25 0) p) (cfn 2 1 (M 25 0 p)), wSo B (M 25 0) p, (p : Int), ((k + 1 : Nat) : Int)] (by simp [cE2, sev, svl, cen] <;> omega) ?_
                                  exact y
      refine cEnds_at gX10_far_m48 rfl ?_
      refine d_br (fun h => ?_) (fun h => ?_)
      · simp only [cCmp, cE2, sev, svl, cen, List.cons_append, List.nil_append] at h
        omega
      · refine d_cut [hd, nm, w, wHi E (M 24 0) p, wLo B (M 24 0) p, wSo E (M 25 0) p, wSo B (M 25 0) p, (p : Int), ((1 : Nat) : Int)] (by simp [cE2, sev, svl, cen] <;> omega) ?_
        exact s58n 6 1 (by omega) (by omega) (fun i z1 z2 => by omega)
  refine cEnds_at gX10_far_m0 rfl ?_
  refine d_put 0 0 (by simp only [cE2, sev, svl, cen, List.cons_append, List.nil_append]; omega) (by simp only [cE2, sev, svl, cen, List.cons_append, List.nil_append]; omega) ?_
  rw [hM1]
  refine d_call (m_within hp (x := hd) (y := 0) (z := 5)) (by simp [cAs, cE2, sev, svl, cen] <;> omega) ?_
  intro rr M' hq
  obtain ⟨hM', hq⟩ := hq
  rw [hM']
  rcases hq with ⟨rfl, q3⟩ | ⟨rfl, q3⟩
  · refine ⟨rfl, ?_⟩
    refine d_br (fun h => ?_) (fun h => ?_)
    · simp only [cCmp, cE2, sev, svl, cen, List.cons_append, List.nil_append] at h
      omega
    · clear h
      refine d_call (m_isName hp (a := nm)) (by simp [cAs, cE2, sev, svl, cen] <;> omega) ?_
      intro rr M' hq
      obtain ⟨hM', hq⟩ := hq
      rw [hM']
      rcases hq with ⟨rfl, q4⟩ | ⟨rfl, q4⟩
      · refine ⟨rfl, ?_⟩
        refine d_br (fun h => ?_) (fun h => ?_)
        · simp only [cCmp, cE2, sev, svl, cen, List.cons_append, List.nil_append] at h
          omega
        · clear h
          refine d_call (m_within hp (x := w) (y := 0) (z := 3)) (by simp [cAs, cE2, sev, svl, cen] <;> omega) ?_
          intro rr M' hq
          obtain ⟨hM', hq⟩ := hq
          rw [hM']
          rcases hq with ⟨rfl, q5⟩ | ⟨rfl, q5⟩
          · refine ⟨rfl, ?_⟩
            refine d_br (fun h => ?_) (fun h => ?_)
            · clear h
              refine d_cut [hd, nm, w, wHi E (M 24 0) 0, wLo B (M 24 0) 0, wSo E (M 25 0) 0, wSo B (M 25 0) 0, ((0 : Nat) : Int)] (by simp [cE2, sev, svl, cen, wHi, wLo, wSo]) ?_
              exact l48 (by omega) 12 0 (by omega)
            · simp only [cCmp, cE2, sev, svl, cen, List.cons_append, List.nil_append] at h
              omega
          · refine ⟨rfl, ?_⟩
            refine d_br (fun h => ?_) (fun h => ?_)
            · simp only [cCmp, cE2, sev, svl, cen, List.cons_append, List.nil_append] at h
              omega
            · clear h
              exact d_ret [(-1)] rfl (by decide) (hPo _ _ ⟨rfl, -1, rfl, Or.inl ⟨by omega, rfl⟩⟩)
      · refine ⟨rfl, ?_⟩
        refine d_br (fun h => ?_) (fun h => ?_)
        · clear h
          exact d_ret [(-1)] rfl (by decide) (hPo _ _ ⟨rfl, -1, rfl, Or.inl ⟨by omega, rfl⟩⟩)
        · simp only [cCmp, cE2, sev, svl, cen, List.cons_append, List.nil_append] at h
          omega
  · refine ⟨rfl, ?_⟩
    refine d_br (fun h => ?_) (fun h => ?_)
    · clear h
      exact d_ret [(-1)] rfl (by decide) (hPo _ _ ⟨rfl, -1, rfl, Or.inl ⟨by omega, rfl⟩⟩)
    · simp only [cCmp, cE2, sev, svl, cen, List.cons_append, List.nil_append] at h
      omega
end CFM
