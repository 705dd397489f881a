/-! stories: the class gathers all -/
section CS6
variable {EX : SEx} {l : Launch} {dC : Nat → ClassId} {dI : Nat → Nat → Nat} {cA : Nat → ClassId} {ad : SAd} {scrS d : Nat}
set_option maxHeartbeats 4000000 in
theorem b_gather (hp : cPl tm tc tf EX) {Z : STZ} {M : SMem} (hI : sI tg M) (hZ : sWf Z) (h6 : ∀ p, Z.1 p ≤ 6) (hsz : ∀ p, p < 12 → M 64 p 5 = (Z.1 p : Int)) (hhd : ∀ p ly, p < 12 → ly < Z.1 p → M 91 p ly = (Z.2.1 p ly : Int)) (hdv : ∀ p ly, p < 12 → ly < Z.1 p → M 92 p ly = Z.2.2.1 p ly) : cBG tm tf EX l dC dI cA ad scrS (d + 3) kX6_gather [(2, 7, 0), (0, 0, -1), (0, 0, -1)] M (fun rr MM => rr = [] ∧ sI tg MM ∧ (∀ f j i, f ≠ 65 → f ≠ 66 → f ≠ 67 → ¬ (f = 7 ∧ (i = 3 ∨ i = 4)) → MM f j i = M f j i) ∧ (∀ h, h < 6 → MM 65 0 h ≤ 7) ∧ ∃ bu : Nat → Prop, MM 7 0 3 = wBt (wDc bu) 6 ∧ sGt Z (fun p ly => p < 12 ∧ ly < Z.1 p) (M 6 0) (M 68 0) (MM 65 0) (MM 66 0) (MM 67 0) (MM 7 0 4 ≠ 0) bu) := by
  refine cMeth (v := [-1, -1]) (Fd := 90) hp (by decide) gX6_gather_ok gX6_gather_m0 (by simp [cAs, cE2, sev, svl, cen]) ?_
  suffices H : ∀ Po : List Int → SMem → Prop, (∀ rr MM, (rr = [] ∧ sI tg MM ∧ (∀ f j i, f ≠ 65 → f ≠ 66 → f ≠ 67 → ¬ (f = 7 ∧ (i = 3 ∨ i = 4)) → MM f j i = M f j i) ∧ (∀ h, h < 6 → MM 65 0 h ≤ 7) ∧ ∃ bu : Nat → Prop, MM 7 0 3 = wBt (wDc bu) 6 ∧ sGt Z (fun p ly => p < 12 ∧ ly < Z.1 p) (M 6 0) (M 68 0) (MM 65 0) (MM 66 0) (MM 67 0) (MM 7 0 4 ≠ 0) bu) → Po rr MM) → cEnds (cBG tm tf EX l dC dI cA ad scrS (d + 2)) Po 90 gX6_gather 0 [-1, -1] M from H _ (fun _ _ h => h)
  intro Po hPo
  have hdt : ∀ h, -1 ≤ M 6 0 h ∧ M 6 0 h ≤ 5 := fun h => wIb (f := 6) (i := h) (lo := -1) (hi := 5) hI 0 rfl
  -- the walls
  have l99 : ∀ (m k : Nat), k + m = 12 → ∀ (M1 : SMem) (bu : Nat → Prop), sI tg M1 → (∀ f j i, f ≠ 65 → f ≠ 66 → f ≠ 67 → ¬ (f = 7 ∧ (i = 3 ∨ i = 4)) → M1 f j i = M f j i) → (∀ h, h < 6 → M1 65 0 h ≤ 7) → M1 7 0 3 = wBt (wDc bu) 6 → sGt Z (fun p ly => p < k ∧ ly < Z.1 p) (M 6 0) (M 68 0) (M1 65 0) (M1 66 0) (M1 67 0) (M1 7 0 4 ≠ 0) bu → cEnds (cBG tm tf EX l dC dI cA ad scrS (d + 2)) Po 90 gX6_gather 99 [-1, -1, (k : Int)] M1 := by
    intro m
    induction m with
    | zero =>
      intro k hk M1 bu i1 f1 u1 b1 g1
      have ek : k = 12 := by omega
      subst ek
      refine cEnds_at gX6_gather_m99 rfl ?_
      refine d_br (fun h => ?_) (fun h => ?_)
      · exact d_ret [] rfl (by decide) (hPo _ _ ⟨rfl, i1, f1, u1, bu, b1, g1⟩)
      · simp only [cCmp, cE2, sev, svl, cen, List.cons_append, List.nil_append] at h
        omega
    | succ m ih =>
      intro k hk M1 bu i1 f1 u1 b1 g1
      have e68 : M1 68 0 = M 68 0 := by
        funext i
        exact f1 68 0 i (by decide) (by decide) (by decide) (by omega)
      refine cEnds_at gX6_gather_m99 rfl ?_
      refine d_br (fun h => ?_) (fun h => ?_)
      · simp only [cCmp, cE2, sev, svl, cen, List.cons_append, List.nil_append] at h
        first
        | omega
        | skip
          exact d_ret [] rfl (by decide) (by omega)
      · simp only [cCmp, cE2, sev, svl, cen, List.cons_append, List.nil_append] at h
        first
        | omega
        | skip
          refine d_br (fun h => ?_) (fun h => ?_)
          · simp only [cCmp, cE2, sev, svl, cen, List.cons_append, List.nil_append] at h
            first
            | omega
            | skip
              refine d_call (b_weigh hp (Z := Z) (dt := M 6 0) (p := k) i1 hZ h6 (by omega) (by rw [f1 64 k 5 (by decide) (by decide) (by decide) (by omega)]; exact hsz k (by omega)) (fun ly hl => by rw [f1 91 k ly (by decide) (by decide) (by decide) (by omega)]; exact hhd k ly (by omega) hl) (fun ly hl => by rw [f1 92 k ly (by decide) (by decide) (by decide) (by omega)]; exact hdv k ly (by omega) hl) b1 u1 (by rw [e68]; exact g1)) (by simp [cAs, cE2, sev, svl, cen] <;> omega) ?_
              intro rr M' hq
              obtain ⟨rfl, i2, f2, u2, bu2, b2, g2⟩ := hq
              rw [e68] at g2
              refine ⟨rfl, ?_⟩
              refine d_rng (by simp only [clo, chi, cE2, sev, svl, cen, List.cons_append, List.nil_append]; omega) ?_
              refine d_cut [-1, -1, ((k : Int) + 1)] (by simp [cE2, sev, svl, cen] <;> omega) ?_
              exact (by omega)
          · simp only [cCmp, cE2, sev, svl, cen, List.cons_append, List.nil_append] at h
            first
            | omega
            | skip
              refine d_br (fun h => ?_) (fun h => ?_)
              · simp only [cCmp, cE2, sev, svl, cen, List.cons_append, List.nil_append] at h
                first
                | omega
                | skip
                  refine d_call (b_weigh hp (Z := Z) (dt := M 6 0) (p := k) i1 hZ h6 (by omega) (by rw [f1 64 k 5 (by decide) (by decide) (by decide) (by omega)]; exact hsz k (by omega)) (fun ly hl => by rw [f1 91 k ly (by decide) (by decide) (by decide) (by omega)]; exact hhd k ly (by omega) hl) (fun ly hl => by rw [f1 92 k ly (by decide) (by decide) (by decide) (by omega)]; exact hdv k ly (by omega) hl) b1 u1 (by rw [e68]; exact g1)) (by simp [cAs, cE2, sev, svl, cen] <;> omega) ?_
                  intro rr M' hq
                  obtain ⟨rfl, i2, f2, u2, bu2, b2, g2⟩ := hq
                  rw [e68] at g2
                  refine ⟨rfl, ?_⟩
                  refine d_rng (by simp only [clo, chi, cE2, sev, svl, cen, List.cons_append, List.nil_append]; omega) ?_
                  refine d_cut [-1, -1, ((k + 1 : Nat) : Int)] (by simp [cE2, sev, svl, cen] <;> omega) ?_
                  exact ih (k + 1) (by omega) M' bu2 i2 (fun f j i y1 y2 y3 y4 => (f2 f j i y1 y3 y4).trans (f1 f j i y1 y2 y3 y4)) u2 b2 g2
              · simp only [cCmp, cE2, sev, svl, cen, List.cons_append, List.nil_append] at h
                first
                | omega
                | skip
                  refine d_call (b_weigh hp (Z := Z) (dt := M 6 0) (p := k) i1 hZ h6 (by omega) (by rw [f1 64 k 5 (by decide) (by decide) (by decide) (by omega)]; exact hsz k (by omega)) (fun ly hl => by rw [f1 91 k ly (by decide) (by decide) (by decide) (by omega)]; exact hhd k ly (by omega) hl) (fun ly hl => by rw [f1 92 k ly (by decide) (by decide) (by decide) (by omega)]; exact hdv k ly (by omega) hl) b1 u1 (by rw [e68]; exact g1)) (by simp [cAs, cE2, sev, svl, cen] <;> omega) ?_
                  intro rr M' hq
                  obtain ⟨rfl, i2, f2, u2, bu2, b2, g2⟩ := hq
                  rw [e68] at g2
                  refine ⟨rfl, ?_⟩
                  refine d_rng (by simp only [clo, chi, cE2, sev, svl, cen, List.cons_append, List.nil_append]; omega) ?_
                  refine d_cut [-1, -1, ((k : Int) + 1)] (by simp [cE2, sev, svl, cen] <;> omega) ?_
                  exact (by omega)
  -- the dates
  have l33 : ∀ (m k : Nat), k + m = 6 → ∀ M1 : SMem, sI tg M1 → (∀ f j i, f ≠ 65 → f ≠ 66 → f ≠ 67 → ¬ (f = 7 ∧ (i = 3 ∨ i = 4)) → M1 f j i = M f j i) → M1 7 0 3 = 0 → M1 7 0 4 = 0 → (∀ i, i < 36 → M1 67 0 i = -1) → (∀ h, h < k → M1 65 0 h = sBase (M 6 0) h ∧ M1 66 0 h = if M 6 0 h = -1 then 5 else M 6 0 h) → cEnds (cBG tm tf EX l dC dI cA ad scrS (d + 2)) Po 90 gX6_gather 33 [-1, -1, (k : Int)] M1 := by
    intro m
    induction m with
    | zero =>
      intro k hk M1 i1 f1 e3 e4 e67 ed
      have ek : k = 6 := by omega
      subst ek
      refine cEnds_at gX6_gather_m33 rfl ?_
      refine d_br (fun h => ?_) (fun h => ?_)
      · refine d_cut [-1, -1, ((0 : Nat) : Int)] (by simp [cE2, sev, svl, cen] <;> omega) ?_
        refine l99 12 0 (by omega) M1 (fun _ => False) i1 f1 (fun h hh => ?_) ?_ ⟨fun h hh => (ed h hh).2, fun h hh => ⟨by rw [(ed h hh).1]; exact Int.le_refl _, fun p ly q => absurd q.1 (Nat.not_lt_zero _), Or.inl (ed h hh).1⟩, fun a b ha hb => ⟨fun p ly q => absurd q.1 (Nat.not_lt_zero _), Or.inl (e67 _ (by omega))⟩, ⟨fun z => absurd e4 z, fun ⟨p, ly, q, _⟩ => absurd q.1 (Nat.not_lt_zero _)⟩, fun h _ => ⟨False.elim, fun ⟨p, ly, q, _⟩ => absurd q.1 (Nat.not_lt_zero _)⟩⟩
        · rw [(ed h hh).1]
          unfold sBase
          have := hdt h
          split <;> omega
        · rw [e3, wBt_0 6 (fun i _ => wDc_n (P := fun _ => False) id)]
      · simp only [cCmp, cE2, sev, svl, cen, List.cons_append, List.nil_append] at h
        omega
    | succ m ih =>
      intro k hk M1 i1 f1 e3 e4 e67 ed
      have e6 : M1 6 0 k = M 6 0 k := f1 6 0 k (by decide) (by decide) (by decide) (by omega)
      have hd := hdt k
      have go : ∀ x y : Int, x = sBase (M 6 0) k → (y = if M 6 0 k = -1 then 5 else M 6 0 k) → cEnds (cBG tm tf EX l dC dI cA ad scrS (d + 2)) Po 90 gX6_gather 33 [-1, -1, ((k + 1 : Nat) : Int)] (supd (supd M1 65 0 k x) 66 0 k y) := by
        intro x y hx hy
        have bx : 0 ≤ x ∧ x ≤ 5 := by
          rw [hx]
          unfold sBase
          split <;> omega
        have by' : 0 ≤ y ∧ y ≤ 5 := by
          rw [hy]
          split <;> omega
        refine ih (k + 1) (by omega) _ (wI (lo := 0) (hi := 5) (wI (lo := 0) (hi := 2147483647) i1 rfl ⟨by omega, by omega⟩) rfl by') (fun f j i y1 y2 y3 y4 => by rw [supd_f y2, supd_f y1, f1 f j i y1 y2 y3 y4]) (by rw [supd_f (by decide), supd_f (by decide)]; exact e3) (by rw [supd_f (by decide), supd_f (by decide)]; exact e4) (fun i hi => by rw [supd_f (by decide), supd_f (by decide)]; exact e67 i hi) (fun h hh => ?_)
        by_cases e : h = k
        · subst e
          rw [supd_f (by decide), supd_at, supd_at]
          exact ⟨hx, hy⟩
        · rw [supd_f (by decide), supd_i e, supd_i e, supd_f (by decide)]
          exact ed h (by omega)
      refine cEnds_at gX6_gather_m33 rfl ?_
      refine d_br (fun h => ?_) (fun h => ?_)
      · simp only [cCmp, cE2, sev, svl, cen, List.cons_append, List.nil_append] at h
        first
        | omega
        | skip
          refine d_cut [-1, -1, 0] (by simp [cE2, sev, svl, cen] <;> omega) ?_
          exact (by omega)
      · simp only [cCmp, cE2, sev, svl, cen, List.cons_append, List.nil_append] at h
        first
        | omega
        | skip
          refine d_row 0 k (by simp only [cE2, sev, svl, cen, List.cons_append, List.nil_append]; omega) (by simp only [cE2, sev, svl, cen, List.cons_append, List.nil_append]; omega) (by omega) ?_
          rw [e6]
          refine d_br (fun h => ?_) (fun h => ?_)
          · simp only [cCmp, cE2, sev, svl, cen, List.cons_append, List.nil_append] at h
            first
            | omega
            | skip
              refine d_row 0 k (by simp only [cE2, sev, svl, cen, List.cons_append, List.nil_append]; omega) (by simp only [cE2, sev, svl, cen, List.cons_append, List.nil_append]; omega) (by omega) ?_
              rw [e6]
              refine d_set 0 k (M 6 0 k) (by simp only [cE2, sev, svl, cen, List.cons_append, List.nil_append]; omega) (by simp only [cE2, sev, svl, cen, List.cons_append, List.nil_append]; omega) (by omega) (by simp only [cE2, sev, svl, cen, List.cons_append, List.nil_append]; omega) ?_
              refine d_row 0 k (by simp only [cE2, sev, svl, cen, List.cons_append, List.nil_append]; omega) (by simp only [cE2, sev, svl, cen, List.cons_append, List.nil_append]; omega) (by omega) ?_
              rw [supd_f (by decide)]
              rw [e6]
              refine d_br (fun h => ?_) (fun h => ?_)
              · simp only [cCmp, cE2, sev, svl, cen, List.cons_append, List.nil_append] at h
                first
                | omega
                | skip
                  refine d_row 0 k (by simp only [cE2, sev, svl, cen, List.cons_append, List.nil_append]; omega) (by simp only [cE2, sev, svl, cen, List.cons_append, List.nil_append]; omega) (by omega) ?_
                  rw [supd_f (by decide)]
                  rw [e6]
                  refine d_set 0 k (M 6 0 k) (by simp only [cE2, sev, svl, cen, List.cons_append, List.nil_append]; omega) (by simp only [cE2, sev, svl, cen, List.cons_append, List.nil_append]; omega) (by omega) (by simp only [cE2, sev, svl, cen, List.cons_append, List.nil_append]; omega) ?_
                  refine d_rng (by simp only [clo, chi, cE2, sev, svl, cen, List.cons_append, List.nil_append]; omega) ?_
                  refine d_cut [-1, -1, ((k + 1 : Nat) : Int)] (by simp [cE2, sev, svl, cen] <;> omega) ?_
                  refine go _ _ ?_ ?_
                  · unfold sBase; split <;> omega
                  · split <;> omega
              · simp only [cCmp, cE2, sev, svl, cen, List.cons_append, List.nil_append] at h
                first
                | omega
                | skip
                  refine d_set 0 k 5 (by simp only [cE2, sev, svl, cen, List.cons_append, List.nil_append]; omega) (by simp only [cE2, sev, svl, cen, List.cons_append, List.nil_append]; omega) (by omega) (by simp only [cE2, sev, svl, cen, List.cons_append, List.nil_append]; omega) ?_
                  refine d_rng (by simp only [clo, chi, cE2, sev, svl, cen, List.cons_append, List.nil_append]; omega) ?_
                  refine d_cut [-1, -1, ((k + 1 : Nat) : Int)] (by simp [cE2, sev, svl, cen] <;> omega) ?_
                  refine go _ _ ?_ ?_
                  · unfold sBase; split <;> omega
                  · split <;> omega
          · simp only [cCmp, cE2, sev, svl, cen, List.cons_append, List.nil_append] at h
            first
            | omega
            | skip
              refine d_set 0 k 0 (by simp only [cE2, sev, svl, cen, List.cons_append, List.nil_append]; omega) (by simp only [cE2, sev, svl, cen, List.cons_append, List.nil_append]; omega) (by omega) (by simp only [cE2, sev, svl, cen, List.cons_append, List.nil_append]; omega) ?_
              refine d_row 0 k (by simp only [cE2, sev, svl, cen, List.cons_append, List.nil_append]; omega) (by simp only [cE2, sev, svl, cen, List.cons_append, List.nil_append]; omega) (by omega) ?_
              rw [supd_f (by decide)]
              rw [e6]
              refine d_br (fun h => ?_) (fun h => ?_)
              · simp only [cCmp, cE2, sev, svl, cen, List.cons_append, List.nil_append] at h
                first
                | omega
                | skip
                  refine d_row 0 k (by simp only [cE2, sev, svl, cen, List.cons_append, List.nil_append]; omega) (by simp only [cE2, sev, svl, cen, List.cons_append, List.nil_append]; omega) (by omega) ?_
                  rw [supd_f (by decide)]
                  rw [e6]
                  refine d_set 0 k (M 6 0 k) (by simp only [cE2, sev, svl, cen, List.cons_append, List.nil_append]; omega) (by simp only [cE2, sev, svl, cen, List.cons_append, List.nil_append]; omega) (by omega) (by simp only [cE2, sev, svl, cen, List.cons_append, List.nil_append]; omega) ?_
                  refine d_rng (by simp only [clo, chi, cE2, sev, svl, cen, List.cons_append, List.nil_append]; omega) ?_
                  refine d_cut [-1, -1, ((k + 1 : Nat) : Int)] (by simp [cE2, sev, svl, cen] <;> omega) ?_
                  refine go _ _ ?_ ?_
                  · unfold sBase; split <;> omega
                  · split <;> omega
              · simp only [cCmp, cE2, sev, svl, cen, List.cons_append, List.nil_append] at h
                first
                | omega
                | skip
                  refine d_set 0 k 5 (by simp only [cE2, sev, svl, cen, List.cons_append, List.nil_append]; omega) (by simp only [cE2, sev, svl, cen, List.cons_append, List.nil_append]; omega) (by omega) (by simp only [cE2, sev, svl, cen, List.cons_append, List.nil_append]; omega) ?_
                  refine d_rng (by simp only [clo, chi, cE2, sev, svl, cen, List.cons_append, List.nil_append]; omega) ?_
                  refine d_cut [-1, -1, ((k + 1 : Nat) : Int)] (by simp [cE2, sev, svl, cen] <;> omega) ?_
                  refine go _ _ ?_ ?_
                  · unfold sBase; split <;> omega
                  · split <;> omega
  -- the steps
  have l12 : ∀ (m k : Nat), k + m = 36 → ∀ M1 : SMem, sI tg M1 → (∀ f j i, f ≠ 65 → f ≠ 66 → f ≠ 67 → ¬ (f = 7 ∧ (i = 3 ∨ i = 4)) → M1 f j i = M f j i) → M1 7 0 3 = 0 → M1 7 0 4 = 0 → (∀ i, i < k → M1 67 0 i = -1) → cEnds (cBG tm tf EX l dC dI cA ad scrS (d + 2)) Po 90 gX6_gather 12 [-1, -1, (k : Int)] M1 := by
    intro m
    induction m with
    | zero =>
      intro k hk M1 i1 f1 e3 e4 e67
      have ek : k = 36 := by omega
      subst ek
      refine cEnds_at gX6_gather_m12 rfl ?_
      refine d_br (fun h => ?_) (fun h => ?_)
      · refine d_cut [-1, -1, ((0 : Nat) : Int)] (by simp [cE2, sev, svl, cen] <;> omega) ?_
        exact l33 6 0 (by omega) M1 i1 f1 e3 e4 e67 (fun h hh => absurd hh (Nat.not_lt_zero _))
      · simp only [cCmp, cE2, sev, svl, cen, List.cons_append, List.nil_append] at h
        omega
    | succ m ih =>
      intro k hk M1 i1 f1 e3 e4 e67
      refine cEnds_at gX6_gather_m12 rfl ?_
      refine d_br (fun h => ?_) (fun h => ?_)
      · simp only [cCmp, cE2, sev, svl, cen, List.cons_append, List.nil_append] at h
        omega
      · refine d_set 0 k (-1) (by simp only [cE2, sev, svl, cen, List.cons_append, List.nil_append]; omega) (by simp only [cE2, sev, svl, cen, List.cons_append, List.nil_append]; omega) (by omega) (by simp only [cE2, sev, svl, cen, List.cons_append, List.nil_append]; omega) ?_
        refine d_rng (by simp only [clo, chi, cE2, sev, svl, cen, List.cons_append, List.nil_append]; omega) ?_
        refine d_cut [-1, -1, ((k + 1 : Nat) : Int)] (by simp [cE2, sev, svl, cen] <;> omega) ?_
        refine ih (k + 1) (by omega) _ (wI (lo := -1) (hi := 1) i1 rfl ⟨by omega, by omega⟩) (fun f j i y1 y2 y3 y4 => by rw [supd_f y3, f1 f j i y1 y2 y3 y4]) (by rw [supd_f (by decide)]; exact e3) (by rw [supd_f (by decide)]; exact e4) (fun i hi => ?_)
        by_cases e : i = k
        · rw [e, supd_at]
        · rw [supd_i e]
          exact e67 i (by omega)
  refine cEnds_at gX6_gather_m0 rfl ?_
  refine d_put 0 0 (by simp only [cE2, sev, svl, cen, List.cons_append, List.nil_append]; omega) (by simp only [cE2, sev, svl, cen, List.cons_append, List.nil_append]; omega) ?_
  refine d_rng (by simp only [clo, chi, cE2, sev, svl, cen, List.cons_append, List.nil_append]; omega) ?_
  refine d_put 0 0 (by simp only [cE2, sev, svl, cen, List.cons_append, List.nil_append]; omega) (by simp only [cE2, sev, svl, cen, List.cons_append, List.nil_append]; omega) ?_
  refine d_cut [-1, -1, ((0 : Nat) : Int)] (by simp [cE2, sev, svl, cen] <;> omega) ?_
  refine l12 36 0 (by omega) _ (wI (lo := 0) (hi := 1) (wI (lo := -2147483648) (hi := 2147483647) hI rfl ⟨by omega, by omega⟩) rfl ⟨by omega, by omega⟩) (fun f j i y1 y2 y3 y4 => ?_) ?_ (supd_at _ _ _ _ _) (fun i hi => absurd hi (Nat.not_lt_zero _))
  · rw [show supd (supd M 7 0 3 0) 7 0 4 0 f j i = supd M 7 0 3 0 f j i from if_neg (fun q => y4 ⟨q.1, Or.inr q.2.2⟩)]
    exact if_neg (fun q => y4 ⟨q.1, Or.inl q.2.2⟩)
  · rw [supd_i (by decide)]
    exact supd_at _ _ _ _ _
end CS6
