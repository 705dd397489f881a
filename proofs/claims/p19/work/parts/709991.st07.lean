/-! stories: the least reigns found; all gathered -/
theorem wFt_cg {M M1 : SMem} (h : ∀ f, f ∈ [59, 61, 62, 63, 64, 92, 93, 94, 95] → M1 f = M f) {p nm ly : Nat} {bare : Int} : ∀ a, wFt M1 p nm ly bare a ↔ wFt M p nm ly bare a := by
  intro a
  induction a using Nat.strongRecOn with
  | _ a ih =>
    have e1 := wFt_iff (M := M1) (p := p) (nm := nm) (ly := ly) (bare := bare) a
    have e2 := wFt_iff (M := M) (p := p) (nm := nm) (ly := ly) (bare := bare) a
    unfold wOk wHT wFF at e1 e2
    rw [h 59 (by decide), h 61 (by decide), h 62 (by decide), h 63 (by decide), h 64 (by decide), h 92 (by decide), h 93 (by decide), h 94 (by decide), h 95 (by decide)] at e1
    by_cases h2 : 2 ≤ a
    · rw [ih (a - 2) (by omega)] at e1
      exact e1.trans e2.symm
    · simp only [h2, false_and] at e1 e2
      exact e1.trans e2.symm
/-- what fits a cut, of the class -/
def sFitX (M : SMem) (p ly n : Nat) : Prop := M 58 0 n ≠ 0 ∧ wFt M p n ly 0 ly
def sZ (M : SMem) : STZ := (fun p => (M 64 p 5).toNat, fun p ly => (M 91 p ly).toNat, fun p ly => M 92 p ly, fun p ly n => sFitX M p ly n, fun n => M 60 0 n)
section CS7
variable {EX : SEx} {l : Launch} {dC : Nat → ClassId} {dI : Nat → Nat → Nat} {cA : Nat → ClassId} {ad : SAd} {scrS d : Nat}
set_option maxHeartbeats 4000000 in
theorem b_findLeast (hp : cPl tm tc tf EX) {M : SMem} (hI : sI tg M) (hdv : ∀ p ly : Nat, p < 12 → (ly : Int) < M 64 p 5 → ((M 92 p ly = 1 ∨ M 92 p ly = 2) ↔ ly % 2 = 1)) : cBG tm tf EX l dC dI cA ad scrS (d + 4) kX6_findLeastReigns [(2, 7, 0)] M (fun rr MM => rr = [] ∧ sI tg MM ∧ (∀ f j i, f ≠ 68 → f ≠ 69 → MM f j i = M f j i) ∧ ∀ p ly : Nat, p < 12 → (ly : Int) < M 64 p 5 → ly % 2 = 0 → MM 68 0 (6 * p + ly) = sLr (wDc (sFitX M p ly)) (M 60 0) 8) := by
  refine cMeth (v := []) (Fd := 90) hp (by decide) gX6_findLeastReigns_ok gX6_findLeastReigns_m0 (by simp [cAs, cE2, sev, svl, cen]) ?_
  suffices H : ∀ Po : List Int → SMem → Prop, (∀ rr MM, (rr = [] ∧ sI tg MM ∧ (∀ f j i, f ≠ 68 → f ≠ 69 → MM f j i = M f j i) ∧ ∀ p ly : Nat, p < 12 → (ly : Int) < M 64 p 5 → ly % 2 = 0 → MM 68 0 (6 * p + ly) = sLr (wDc (sFitX M p ly)) (M 60 0) 8) → Po rr MM) → cEnds (cBG tm tf EX l dC dI cA ad scrS (d + 3)) Po 90 gX6_findLeastReigns 0 [] M from H _ (fun _ _ h => h)
  intro Po hPo
  have row : ∀ M1 : SMem, (∀ f j i, f ≠ 68 → f ≠ 69 → M1 f j i = M f j i) → ∀ f, f ≠ 68 → f ≠ 69 → M1 f = M f := fun M1 f1 f y1 y2 => by
    funext j i
    exact f1 f j i y1 y2
  have lrr : ∀ (b : Nat → Bool), 0 ≤ sLr b (M 60 0) 8 ∧ sLr b (M 60 0) 8 ≤ 6 := fun b => by
    have hR : ∀ n, 0 ≤ M 60 0 n ∧ M 60 0 n ≤ 5 := fun n => wIb (f := 60) (i := n) (lo := 0) (hi := 5) hI 0 rfl
    rcases (sLr_ls (b := b) hR 8).2 with ⟨q, -⟩ | ⟨n, -, -, q⟩
    · omega
    · have := hR n
      omega
  have l2 : ∀ (m p : Nat), p + m = 12 → ∀ M1 : SMem, sI tg M1 → (∀ f j i, f ≠ 68 → f ≠ 69 → M1 f j i = M f j i) → (∀ p' ly : Nat, p' < p → (ly : Int) < M 64 p' 5 → ly % 2 = 0 → M1 68 0 (6 * p' + ly) = sLr (wDc (sFitX M p' ly)) (M 60 0) 8) → cEnds (cBG tm tf EX l dC dI cA ad scrS (d + 3)) Po 90 gX6_findLeastReigns 2 [(p : Int)] M1 := by
    intro m
    induction m with
    | zero =>
      intro p hpm M1 i1 f1 q1
      have ep : p = 12 := by omega
      subst ep
      refine cEnds_at gX6_findLeastReigns_m2 rfl ?_
      refine d_br (fun h => ?_) (fun h => ?_)
      · exact d_ret [] rfl (by decide) (hPo _ _ ⟨rfl, i1, f1, q1⟩)
      · simp only [cCmp, cE2, sev, svl, cen, List.cons_append, List.nil_append] at h
        omega
    | succ m ih =>
      intro p hpm M1 i1 f1 q1
      have b6 := wIb (f := 64) (i := 5) (lo := 0) (hi := 6) hI p rfl
      obtain ⟨sz, hsz⟩ : ∃ sz : Nat, M 64 p 5 = (sz : Int) := ⟨(M 64 p 5).toNat, by omega⟩
      have l17 : ∀ (n ly : Nat), ly + n = sz → ∀ M2 : SMem, sI tg M2 → (∀ f j i, f ≠ 68 → f ≠ 69 → M2 f j i = M f j i) → (∀ p' l' : Nat, p' < p → (l' : Int) < M 64 p' 5 → l' % 2 = 0 → M2 68 0 (6 * p' + l') = sLr (wDc (sFitX M p' l')) (M 60 0) 8) → (∀ l', l' < ly → l' % 2 = 0 → M2 68 0 (6 * p + l') = sLr (wDc (sFitX M p l')) (M 60 0) 8) → cEnds (cBG tm tf EX l dC dI cA ad scrS (d + 3)) Po 90 gX6_findLeastReigns 17 [(p : Int), (p : Int), (ly : Int)] M2 := by
        intro n
        induction n with
        | zero =>
          intro ly hl M2 i2 f2 q2 q3
          have e64 : M2 64 p 5 = (sz : Int) := by rw [f2 64 p 5 (by decide) (by decide), hsz]
          have nx : ∀ M3 : SMem, sI tg M3 → (∀ f j i, f ≠ 69 → M3 f j i = M2 f j i) → cEnds (cBG tm tf EX l dC dI cA ad scrS (d + 3)) Po 90 gX6_findLeastReigns 2 [((p + 1 : Nat) : Int)] M3 := by
            intro M3 i3 f3
            refine ih (p + 1) (by omega) M3 i3 (fun f j i y1 y2 => by rw [f3 f j i y2, f2 f j i y1 y2]) (fun p' l' hp' hl' he => ?_)
            rw [f3 68 0 _ (by decide)]
            by_cases e : p' = p
            · subst e
              exact q3 l' (by omega) he
            · exact q2 p' l' (by omega) hl' he
          refine cEnds_at gX6_findLeastReigns_m17 rfl ?_
          refine d_fld p (by simp only [cE2, sev, svl, cen, List.cons_append, List.nil_append]; omega) ?_
          rw [e64]
          refine d_br (fun h => ?_) (fun h => ?_)
          · simp only [cCmp, cE2, sev, svl, cen, List.cons_append, List.nil_append] at h
            first
            | omega
            | skip
              refine d_fld p (by simp only [cE2, sev, svl, cen, List.cons_append, List.nil_append]; omega) ?_
              rw [e64]
              refine d_rng (by simp only [clo, chi, cE2, sev, svl, cen, List.cons_append, List.nil_append]; omega) ?_
              refine d_br (fun h => ?_) (fun h => ?_)
              · simp only [cCmp, cE2, sev, svl, cen, List.cons_append, List.nil_append] at h
                first
                | omega
                | skip
                  refine d_rng (by simp only [clo, chi, cE2, sev, svl, cen, List.cons_append, List.nil_append]; omega) ?_
                  refine d_cut [((p + 1 : Nat) : Int)] (by simp [cE2, sev, svl, cen] <;> omega) ?_
                  exact nx M2 i2 (fun _ _ _ _ => rfl)
              · simp only [cCmp, cE2, sev, svl, cen, List.cons_append, List.nil_append] at h
                first
                | omega
                | skip
                  refine d_row p (sz - 2) (by simp only [cE2, sev, svl, cen, List.cons_append, List.nil_append]; omega) (by simp only [cE2, sev, svl, cen, List.cons_append, List.nil_append]; omega) (by omega) ?_
                  refine d_call (b_isErasure hp (x := (M2 92 p (sz - 2)))) (by simp [cAs, cE2, sev, svl, cen] <;> omega) ?_
                  intro rr M' hq
                  obtain ⟨hM', hq⟩ := hq
                  rw [hM']
                  rcases hq with ⟨rfl, q6⟩ | ⟨rfl, q6⟩
                  · refine ⟨rfl, ?_⟩
                    refine d_br (fun h => ?_) (fun h => ?_)
                    · clear h
                      refine d_rng (by simp only [clo, chi, cE2, sev, svl, cen, List.cons_append, List.nil_append]; omega) ?_
                      refine d_cut [((p + 1 : Nat) : Int)] (by simp [cE2, sev, svl, cen] <;> omega) ?_
                      exact nx M2 i2 (fun _ _ _ _ => rfl)
                    · simp only [cCmp, cE2, sev, svl, cen, List.cons_append, List.nil_append] at h
                      omega
                  · refine ⟨rfl, ?_⟩
                    refine d_br (fun h => ?_) (fun h => ?_)
                    · simp only [cCmp, cE2, sev, svl, cen, List.cons_append, List.nil_append] at h
                      omega
                    · clear h
                      refine d_call (b_fitting hp (p := p) (ly := sz - 2) (bare := 1) i2 (by omega)) (by simp [cAs, cE2, sev, svl, cen] <;> omega) ?_
                      intro rr M' hq
                      obtain ⟨hM', rfl⟩ := hq
                      rw [hM']
                      refine ⟨rfl, ?_⟩
                      refine d_call (b_leastReign hp (b := wDc (fun nm => M2 58 0 nm ≠ 0 ∧ wFt M2 p nm (sz - 2) 1 (sz - 2))) i2) (by simp [cAs, cE2, sev, svl, cen] <;> omega) ?_
                      intro rr M' hq
                      obtain ⟨hM', rfl⟩ := hq
                      rw [hM']
                      refine ⟨rfl, ?_⟩
                      refine d_set 0 p (sLr (wDc (fun nm => M2 58 0 nm ≠ 0 ∧ wFt M2 p nm (sz - 2) 1 (sz - 2))) (M2 60 0) 8) (by simp only [cE2, sev, svl, cen, List.cons_append, List.nil_append]; omega) (by simp only [cE2, sev, svl, cen, List.cons_append, List.nil_append]; omega) (by omega) (by simp only [cE2, sev, svl, cen, List.cons_append, List.nil_append]; omega) ?_
                      refine d_rng (by simp only [clo, chi, cE2, sev, svl, cen, List.cons_append, List.nil_append]; omega) ?_
                      refine d_cut [((p + 1 : Nat) : Int)] (by simp [cE2, sev, svl, cen] <;> omega) ?_
                      refine nx _ (wI (lo := 0) (hi := 6) i2 rfl ?_) (fun f j i y => supd_f y)
                      rw [row M2 f2 60 (by decide) (by decide)]
                      exact lrr _
          · simp only [cCmp, cE2, sev, svl, cen, List.cons_append, List.nil_append] at h
            first
            | omega
            | skip
              refine d_row p ly (by simp only [cE2, sev, svl, cen, List.cons_append, List.nil_append]; omega) (by simp only [cE2, sev, svl, cen, List.cons_append, List.nil_append]; omega) (by omega) ?_
              refine d_call (b_isErasure hp (x := (M2 92 p ly))) (by simp [cAs, cE2, sev, svl, cen] <;> omega) ?_
              intro rr M' hq
              obtain ⟨hM', hq⟩ := hq
              rw [hM']
              rcases hq with ⟨rfl, q5⟩ | ⟨rfl, q5⟩
              · refine ⟨rfl, ?_⟩
                refine d_br (fun h => ?_) (fun h => ?_)
                · clear h
                  refine d_rng (by simp only [clo, chi, cE2, sev, svl, cen, List.cons_append, List.nil_append]; omega) ?_
                  refine d_cut [(p : Int), (p : Int), ((ly : Int) + 1)] (by simp [cE2, sev, svl, cen] <;> omega) ?_
                  exact (by omega)
                · simp only [cCmp, cE2, sev, svl, cen, List.cons_append, List.nil_append] at h
                  omega
              · refine ⟨rfl, ?_⟩
                refine d_br (fun h => ?_) (fun h => ?_)
                · simp only [cCmp, cE2, sev, svl, cen, List.cons_append, List.nil_append] at h
                  omega
                · clear h
                  refine d_rng (by simp only [clo, chi, cE2, sev, svl, cen, List.cons_append, List.nil_append]; omega) ?_
                  refine d_rng (by simp only [clo, chi, cE2, sev, svl, cen, List.cons_append, List.nil_append]; omega) ?_
                  refine d_call (b_fitting hp (p := p) (ly := sz - 2) (bare := 1) i2 (by omega)) (by simp [cAs, cE2, sev, svl, cen] <;> omega) ?_
                  intro rr M' hq
                  obtain ⟨hM', rfl⟩ := hq
                  rw [hM']
                  refine ⟨rfl, ?_⟩
                  refine d_call (b_leastReign hp (b := wDc (fun nm => M2 58 0 nm ≠ 0 ∧ wFt M2 p nm (sz - 2) 1 (sz - 2))) i2) (by simp [cAs, cE2, sev, svl, cen] <;> omega) ?_
                  intro rr M' hq
                  obtain ⟨hM', rfl⟩ := hq
                  rw [hM']
                  refine ⟨rfl, ?_⟩
                  refine d_set 0 (6 * p + ly) (sLr (wDc (fun nm => M2 58 0 nm ≠ 0 ∧ wFt M2 p nm (sz - 2) 1 (sz - 2))) (M2 60 0) 8) (by simp only [cE2, sev, svl, cen, List.cons_append, List.nil_append]; omega) (by simp only [cE2, sev, svl, cen, List.cons_append, List.nil_append]; omega) (by omega) (by simp only [cE2, sev, svl, cen, List.cons_append, List.nil_append]; omega) ?_
                  refine d_rng (by simp only [clo, chi, cE2, sev, svl, cen, List.cons_append, List.nil_append]; omega) ?_
                  refine d_cut [(p : Int), (p : Int), ((ly : Int) + 1)] (by simp [cE2, sev, svl, cen] <;> omega) ?_
                  exact (by omega)
        | succ n ihn =>
          intro ly hl M2 i2 f2 q2 q3
          have e64 : M2 64 p 5 = (sz : Int) := by rw [f2 64 p 5 (by decide) (by decide), hsz]
          have e92 : M2 92 p ly = M 92 p ly := f2 92 p ly (by decide) (by decide)
          have ev := hdv p ly (by omega) (by omega)
          have bits : wDc (fun nm => M2 58 0 nm ≠ 0 ∧ wFt M2 p nm ly 0 ly) = wDc (sFitX M p ly) := by
            funext nm
            refine wDc_cg ?_
            unfold sFitX
            rw [row M2 f2 58 (by decide) (by decide), wFt_cg (fun f hf => row M2 f2 f ?_ ?_) ly]
            · intro z; rw [z] at hf; revert hf; decide
            · intro z; rw [z] at hf; revert hf; decide
          have up2 : ∀ p' l' : Nat, p' < p → (l' : Int) < M 64 p' 5 → l' % 2 = 0 → (supd M2 68 0 (6 * p + ly) (sLr (wDc (sFitX M p ly)) (M 60 0) 8)) 68 0 (6 * p' + l') = sLr (wDc (sFitX M p' l')) (M 60 0) 8 := by
            intro p' l' h1 h2 h3
            have := wIb (f := 64) (i := 5) (lo := 0) (hi := 6) hI p' rfl
            rw [supd_i (by omega)]
            exact q2 p' l' h1 h2 h3
          have up : ∀ l', l' < ly + 1 → l' % 2 = 0 → (supd M2 68 0 (6 * p + ly) (sLr (wDc (sFitX M p ly)) (M 60 0) 8)) 68 0 (6 * p + l') = sLr (wDc (sFitX M p l')) (M 60 0) 8 := by
            intro l' h1 h2
            by_cases e : l' = ly
            · rw [e, supd_at]
            · rw [supd_i (by omega)]
              exact q3 l' (by omega) h2
          refine cEnds_at gX6_findLeastReigns_m17 rfl ?_
          refine d_fld p (by simp only [cE2, sev, svl, cen, List.cons_append, List.nil_append]; omega) ?_
          rw [e64]
          refine d_br (fun h => ?_) (fun h => ?_)
          · simp only [cCmp, cE2, sev, svl, cen, List.cons_append, List.nil_append] at h
            first
            | omega
            | skip
              refine d_fld p (by simp only [cE2, sev, svl, cen, List.cons_append, List.nil_append]; omega) ?_
              rw [e64]
              refine d_rng (by simp only [clo, chi, cE2, sev, svl, cen, List.cons_append, List.nil_append]; omega) ?_
              refine d_br (fun h => ?_) (fun h => ?_)
              · simp only [cCmp, cE2, sev, svl, cen, List.cons_append, List.nil_append] at h
                first
                | omega
                | skip
                  refine d_rng (by simp only [clo, chi, cE2, sev, svl, cen, List.cons_append, List.nil_append]; omega) ?_
                  refine d_cut [((p : Int) + 1)] (by simp [cE2, sev, svl, cen] <;> omega) ?_
                  exact (by omega)
              · simp only [cCmp, cE2, sev, svl, cen, List.cons_append, List.nil_append] at h
                first
                | omega
                | skip
                  refine d_row p (sz - 2) (by simp only [cE2, sev, svl, cen, List.cons_append, List.nil_append]; omega) (by simp only [cE2, sev, svl, cen, List.cons_append, List.nil_append]; omega) (by omega) ?_
                  refine d_call (b_isErasure hp (x := (M2 92 p (sz - 2)))) (by simp [cAs, cE2, sev, svl, cen] <;> omega) ?_
                  intro rr M' hq
                  obtain ⟨hM', hq⟩ := hq
                  rw [hM']
                  rcases hq with ⟨rfl, q6⟩ | ⟨rfl, q6⟩
                  · refine ⟨rfl, ?_⟩
                    refine d_br (fun h => ?_) (fun h => ?_)
                    · clear h
                      refine d_rng (by simp only [clo, chi, cE2, sev, svl, cen, List.cons_append, List.nil_append]; omega) ?_
                      refine d_cut [((p : Int) + 1)] (by simp [cE2, sev, svl, cen] <;> omega) ?_
                      exact (by omega)
                    · simp only [cCmp, cE2, sev, svl, cen, List.cons_append, List.nil_append] at h
                      omega
                  · refine ⟨rfl, ?_⟩
                    refine d_br (fun h => ?_) (fun h => ?_)
                    · simp only [cCmp, cE2, sev, svl, cen, List.cons_append, List.nil_append] at h
                      omega
                    · clear h
                      refine d_call (b_fitting hp (p := p) (ly := ly) (bare := 0) i2 (by omega)) (by simp [cAs, cE2, sev, svl, cen] <;> omega) ?_
                      intro rr M' hq
                      obtain ⟨hM', rfl⟩ := hq
                      rw [hM', bits]
                      refine ⟨rfl, ?_⟩
                      refine d_call (b_leastReign hp (b := wDc (sFitX M p ly)) i2) (by simp [cAs, cE2, sev, svl, cen] <;> omega) ?_
                      intro rr M' hq
                      obtain ⟨hM', rfl⟩ := hq
                      rw [hM']
                      refine ⟨rfl, ?_⟩
                      refine d_set 0 p (sLr (wDc (sFitX M p ly)) (M2 60 0) 8) (by simp only [cE2, sev, svl, cen, List.cons_append, List.nil_append]; omega) (by simp only [cE2, sev, svl, cen, List.cons_append, List.nil_append]; omega) (by omega) (by simp only [cE2, sev, svl, cen, List.cons_append, List.nil_append]; omega) ?_
                      refine d_rng (by simp only [clo, chi, cE2, sev, svl, cen, List.cons_append, List.nil_append]; omega) ?_
                      refine d_cut [((p : Int) + 1)] (by simp [cE2, sev, svl, cen] <;> omega) ?_
                      exact (by omega)
          · simp only [cCmp, cE2, sev, svl, cen, List.cons_append, List.nil_append] at h
            first
            | omega
            | skip
              refine d_row p ly (by simp only [cE2, sev, svl, cen, List.cons_append, List.nil_append]; omega) (by simp only [cE2, sev, svl, cen, List.cons_append, List.nil_append]; omega) (by omega) ?_
              rw [e92]
              refine d_call (b_isErasure hp (x := (M 92 p ly))) (by simp [cAs, cE2, sev, svl, cen] <;> omega) ?_
              intro rr M' hq
              obtain ⟨hM', hq⟩ := hq
              rw [hM']
              rcases hq with ⟨rfl, q5⟩ | ⟨rfl, q5⟩
              · refine ⟨rfl, ?_⟩
                refine d_br (fun h => ?_) (fun h => ?_)
                · clear h
                  refine d_rng (by simp only [clo, chi, cE2, sev, svl, cen, List.cons_append, List.nil_append]; omega) ?_
                  refine d_cut [(p : Int), (p : Int), ((ly + 1 : Nat) : Int)] (by simp [cE2, sev, svl, cen] <;> omega) ?_
                  exact ihn (ly + 1) (by omega) M2 i2 f2 q2 (fun l' h1 h2 => q3 l' (by omega) h2)
                · simp only [cCmp, cE2, sev, svl, cen, List.cons_append, List.nil_append] at h
                  omega
              · refine ⟨rfl, ?_⟩
                refine d_br (fun h => ?_) (fun h => ?_)
                · simp only [cCmp, cE2, sev, svl, cen, List.cons_append, List.nil_append] at h
                  omega
                · clear h
                  refine d_rng (by simp only [clo, chi, cE2, sev, svl, cen, List.cons_append, List.nil_append]; omega) ?_
                  refine d_rng (by simp only [clo, chi, cE2, sev, svl, cen, List.cons_append, List.nil_append]; omega) ?_
                  refine d_call (b_fitting hp (p := p) (ly := ly) (bare := 0) i2 (by omega)) (by simp [cAs, cE2, sev, svl, cen] <;> omega) ?_
                  intro rr M' hq
                  obtain ⟨hM', rfl⟩ := hq
                  rw [hM', bits]
                  refine ⟨rfl, ?_⟩
                  refine d_call (b_leastReign hp (b := wDc (sFitX M p ly)) i2) (by simp [cAs, cE2, sev, svl, cen] <;> omega) ?_
                  intro rr M' hq
                  obtain ⟨hM', rfl⟩ := hq
                  rw [hM']
                  refine ⟨rfl, ?_⟩
                  refine d_set 0 (6 * p + ly) (sLr (wDc (sFitX M p ly)) (M2 60 0) 8) (by simp only [cE2, sev, svl, cen, List.cons_append, List.nil_append]; omega) (by simp only [cE2, sev, svl, cen, List.cons_append, List.nil_append]; omega) (by omega) (by simp only [cE2, sev, svl, cen, List.cons_append, List.nil_append]; omega) ?_
                  refine d_rng (by simp only [clo, chi, cE2, sev, svl, cen, List.cons_append, List.nil_append]; omega) ?_
                  rw [row M2 f2 60 (by decide) (by decide)]
                  refine d_cut [(p : Int), (p : Int), ((ly + 1 : Nat) : Int)] (by simp [cE2, sev, svl, cen] <;> omega) ?_
                  exact ihn (ly + 1) (by omega) _ (wI (lo := 0) (hi := 6) i2 rfl (lrr _)) (fun f j i y1 y2 => by rw [supd_f y1, f2 f j i y1 y2]) up2 up
      refine cEnds_at gX6_findLeastReigns_m2 rfl ?_
      refine d_br (fun h => ?_) (fun h => ?_)
      · simp only [cCmp, cE2, sev, svl, cen, List.cons_append, List.nil_append] at h
        omega
      · refine d_idx (by simp only [cE2, sev, svl, cen, List.cons_append, List.nil_append]; omega) ?_
        refine d_cut [(p : Int), (p : Int), ((0 : Nat) : Int)] (by simp [cE2, sev, svl, cen] <;> omega) ?_
        exact l17 sz 0 (by omega) M1 i1 f1 q1 (fun l' h => absurd h (Nat.not_lt_zero _))
  refine cEnds_at gX6_findLeastReigns_m0 rfl ?_
  refine d_cut [((0 : Nat) : Int)] (by simp [cE2, sev, svl, cen] <;> omega) ?_
  exact l2 12 0 (by omega) M hI (fun _ _ _ _ _ => rfl) (fun p' ly h => absurd h (Nat.not_lt_zero _))
/-- what the class holds gathered -/
def sGok (Z : STZ) (M : SMem) : Prop := (∀ p ly, p < 12 → ly < Z.1 p → ly % 2 = 0 → sLs Z p ly (M 68 0 (6 * p + ly))) ∧ (∀ h, h < 6 → M 65 0 h ≤ 7) ∧ ∃ bu : Nat → Prop, M 7 0 3 = wBt (wDc bu) 6 ∧ sGt Z (fun p ly => p < 12 ∧ ly < Z.1 p) (M 6 0) (M 68 0) (M 65 0) (M 66 0) (M 67 0) (M 7 0 4 ≠ 0) bu
theorem sLr_sLs {M : SMem} (hI : sI tg M) {p ly : Nat} : sLs (sZ M) p ly (sLr (wDc (sFitX M p ly)) (M 60 0) 8) := by
  have hR : ∀ n, 0 ≤ M 60 0 n ∧ M 60 0 n ≤ 5 := fun n => wIb (f := 60) (i := n) (lo := 0) (hi := 5) hI 0 rfl
  obtain ⟨q1, q2⟩ := sLr_ls (b := wDc (sFitX M p ly)) hR 8
  refine ⟨fun n hn hf => q1 n hn (wDc_y hf), ?_⟩
  rcases q2 with ⟨e, q⟩ | ⟨n, hn, hb, e⟩
  · refine Or.inl ⟨e, fun n hn hf => ?_⟩
    have := q n hn
    rw [wDc_y (show sFitX M p ly n from hf)] at this
    cases this
  · exact Or.inr ⟨n, hn, wDc_iff.mp hb, e⟩
theorem b_gatherAll (hp : cPl tm tc tf EX) {M : SMem} (hI : sI tg M) (hZ : sWf (sZ M)) (hg : M 7 0 15 ≠ 0 → sGok (sZ M) M) : cBG tm tf EX l dC dI cA ad scrS (d + 5) kX6_gatherAll [(2, 7, 0)] M (fun rr MM => rr = [] ∧ sI tg MM ∧ (∀ f j i, f ∉ [65, 66, 67, 68, 69] → ¬ (f = 7 ∧ (i = 3 ∨ i = 4 ∨ i = 15)) → MM f j i = M f j i) ∧ MM 7 0 15 = 1 ∧ sGok (sZ M) MM) := by
  refine cMeth (v := []) (Fd := 90) hp (by decide) gX6_gatherAll_ok gX6_gatherAll_m0 (by simp [cAs, cE2, sev, svl, cen]) ?_
  refine cEnds_at gX6_gatherAll_m0 rfl ?_
  have b15 := wIb (f := 7) (i := 15) (lo := 0) (hi := 1) hI 0 rfl
  refine d_fld 0 (by simp only [cE2, sev, svl, cen, List.cons_append, List.nil_append]; omega) ?_
  refine d_br (fun h => ?_) (fun h => ?_)
  · simp only [cCmp, cE2, sev, svl, cen, List.cons_append, List.nil_append] at h
    exact d_ret [] rfl (by decide) ⟨rfl, hI, fun _ _ _ _ _ => rfl, by omega, hg (by omega)⟩
  · simp only [cCmp, cE2, sev, svl, cen, List.cons_append, List.nil_append] at h
    have b6 : ∀ p, 0 ≤ M 64 p 5 ∧ M 64 p 5 ≤ 6 := fun p => wIb (f := 64) (i := 5) (lo := 0) (hi := 6) hI p rfl
    obtain ⟨z1, z2, z3⟩ := hZ
    refine d_call (b_findLeast (d := d) hp hI (fun p ly hp9 hl => ?_)) (by simp [cAs, cE2, sev, svl, cen]) ?_
    · have w := z3 p ly hp9 (show ly < (M 64 p 5).toNat by have := b6 p; omega)
      have w : (ly = 0 ∧ M 92 p ly = 0) ∨ (ly % 2 = 1 ∧ (M 92 p ly = 1 ∨ M 92 p ly = 2)) ∨ (ly % 2 = 0 ∧ 0 < ly ∧ (M 92 p ly = 3 ∨ M 92 p ly = 4)) := w
      constructor <;> intro y <;> omega
    rintro rr M1 ⟨rfl, i1, f1, l1⟩
    refine ⟨rfl, ?_⟩
    refine d_call (b_gather (d := d + 1) hp (Z := sZ M) (M := M1) i1 ⟨z1, z2, z3⟩ (fun p => ?_) (fun p hp9 => ?_) (fun p ly hp9 hl => ?_) (fun p ly hp9 hl => ?_)) (by simp [cAs, cE2, sev, svl, cen]) ?_
    · show (M 64 p 5).toNat ≤ 6
      have := b6 p
      omega
    · rw [f1 64 p 5 (by decide) (by decide)]
      show M 64 p 5 = (((M 64 p 5).toNat : Nat) : Int)
      have := b6 p
      omega
    · rw [f1 91 p ly (by decide) (by decide)]
      show M 91 p ly = (((M 91 p ly).toNat : Nat) : Int)
      have := wIb (f := 91) (i := ly) (lo := 0) (hi := 5) hI p rfl
      omega
    · rw [f1 92 p ly (by decide) (by decide)]
      rfl
    rintro rr M2 ⟨rfl, i2, f2, u2, bu, b2, g2⟩
    refine ⟨rfl, ?_⟩
    refine d_rng (by simp only [clo, chi, cE2, sev, svl, cen, List.cons_append, List.nil_append]; omega) ?_
    refine d_put 0 1 (by simp only [cE2, sev, svl, cen, List.cons_append, List.nil_append]; omega) (by simp only [cE2, sev, svl, cen, List.cons_append, List.nil_append]; omega) ?_
    have e6 : M1 6 0 = M 6 0 := by
      funext k
      exact f1 6 0 k (by decide) (by decide)
    have fr : ∀ f j i, f ∉ [65, 66, 67, 68, 69] → ¬ (f = 7 ∧ (i = 3 ∨ i = 4 ∨ i = 15)) → supd M2 7 0 15 1 f j i = M f j i := fun f j i y1 y2 => by
      simp only [List.mem_cons, List.not_mem_nil, or_false, not_or] at y1
      rw [show supd M2 7 0 15 1 f j i = M2 f j i from if_neg (fun q => y2 ⟨q.1, Or.inr (Or.inr q.2.2)⟩), f2 f j i (by omega) (by omega) (by omega) (by omega), f1 f j i (by omega) (by omega)]
    have e68 : M2 68 0 = M1 68 0 := by
      funext k
      exact f2 68 0 k (by decide) (by decide) (by decide) (by omega)
    refine d_ret [] rfl (by decide) ⟨rfl, wI (lo := 0) (hi := 1) i2 rfl ⟨by omega, by omega⟩, fr, supd_at _ _ _ _ _, ?_⟩
    unfold sGok
    have e9 : ∀ f, f ≠ 7 → supd M2 7 0 15 1 f = M2 f := fun f y => supd_ff y
    rw [e9 6 (by decide), e9 65 (by decide), e9 66 (by decide), e9 67 (by decide), e9 68 (by decide), show supd M2 7 0 15 1 7 0 3 = M2 7 0 3 from supd_i (by decide), show supd M2 7 0 15 1 7 0 4 = M2 7 0 4 from supd_i (by decide)]
    refine ⟨fun p ly hp9 hl he => ?_, u2, bu, b2, ?_⟩
    · rw [e68, l1 p ly hp9 (show (ly : Int) < M 64 p 5 by have := b6 p; have hl : ly < (M 64 p 5).toNat := hl; omega) he]
      exact sLr_sLs hI
    · rw [e68]
      have e26 : M2 6 0 = M1 6 0 := by
        funext k
        exact f2 6 0 k (by decide) (by decide) (by decide) (by omega)
      rw [e26]
      exact g2
end CS7
