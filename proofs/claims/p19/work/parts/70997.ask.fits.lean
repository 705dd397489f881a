/-! what the methods do: fits of the reference; both alike -/
def vHT (M : SMem) (q nm : Nat) : Prop := ∀ k : Nat, (k : Int) < M 31 0 q → M 32 0 (8 * q + k) = 0 ∨ M 32 0 (8 * q + k) = M 21 0 (8 * nm + k)
def vA (M : SMem) (q nm : Nat) : Prop := M 17 0 nm ≠ 0 ∧ (M 30 0 q = -1 ∨ M 30 0 q = (nm : Int)) ∧ (M 31 0 q = 0 ∨ M 31 0 q = M 20 0 nm)
def vFF (M : SMem) (p nm : Nat) : Prop := (M 26 0 p = 0 ∨ (M 26 0 p = 2 ∧ M 19 0 nm = 1) ∨ (M 26 0 p ≠ 2 ∧ M 19 0 nm = 0)) ∧ wSm (M 21 0) (8 * nm) (M 20 0 nm).toNat ≤ M 23 0 p ∧ M 23 0 p - 4 ≤ wSm (M 21 0) (8 * nm) (M 20 0 nm).toNat
def vFt (M : SMem) (p nm : Nat) : Nat → Prop
  | 0 => (vA M (6 * p + 0) nm ∧ vHT M (6 * p + 0) nm) ∧ ((M 29 0 (6 * p + 0) = 0 ∧ vFF M p nm) ∨ (M 29 0 (6 * p + 0) = 3 ∧ wSm (M 21 0) (8 * nm) (M 20 0 nm).toNat ≤ M 23 0 p + 2))
  | 1 => (vA M (6 * p + 1) nm ∧ vHT M (6 * p + 1) nm) ∧ ((M 29 0 (6 * p + 1) = 0 ∧ vFF M p nm) ∨ (M 29 0 (6 * p + 1) = 3 ∧ wSm (M 21 0) (8 * nm) (M 20 0 nm).toNat ≤ M 23 0 p + 2))
  | k + 2 => (vA M (6 * p + (k + 2)) nm ∧ vHT M (6 * p + (k + 2)) nm) ∧ ((M 29 0 (6 * p + (k + 2)) = 0 ∧ vFF M p nm) ∨ (M 29 0 (6 * p + (k + 2)) = 3 ∧ wSm (M 21 0) (8 * nm) (M 20 0 nm).toNat ≤ M 23 0 p + 2) ∨ (M 29 0 (6 * p + (k + 2)) ≠ 0 ∧ M 29 0 (6 * p + (k + 2)) ≠ 3 ∧ vFt M p nm k))
theorem vFt_iff {M : SMem} {p nm : Nat} : ∀ a, vFt M p nm a ↔ ((vA M (6 * p + a) nm ∧ vHT M (6 * p + a) nm) ∧ ((M 29 0 (6 * p + a) = 0 ∧ vFF M p nm) ∨ (M 29 0 (6 * p + a) = 3 ∧ wSm (M 21 0) (8 * nm) (M 20 0 nm).toNat ≤ M 23 0 p + 2) ∨ (M 29 0 (6 * p + a) ≠ 0 ∧ M 29 0 (6 * p + a) ≠ 3 ∧ 2 ≤ a ∧ vFt M p nm (a - 2))))
  | 0 => ⟨fun h => ⟨h.1, h.2.elim Or.inl (fun q => Or.inr (Or.inl q))⟩, fun h => ⟨h.1, h.2.elim Or.inl (fun q => q.elim Or.inr (fun q => absurd q.2.2.1 (by omega)))⟩⟩
  | 1 => ⟨fun h => ⟨h.1, h.2.elim Or.inl (fun q => Or.inr (Or.inl q))⟩, fun h => ⟨h.1, h.2.elim Or.inl (fun q => q.elim Or.inr (fun q => absurd q.2.2.1 (by omega)))⟩⟩
  | k + 2 => ⟨fun h => ⟨h.1, h.2.elim Or.inl (fun q => q.elim (fun q => Or.inr (Or.inl q)) (fun q => Or.inr (Or.inr ⟨q.1, q.2.1, by omega, q.2.2⟩)))⟩, fun h => ⟨h.1, h.2.elim Or.inl (fun q => q.elim (fun q => Or.inr (Or.inl q)) (fun q => Or.inr (Or.inr ⟨q.1, q.2.1, q.2.2.2⟩)))⟩⟩
theorem vFt_cg {M M1 : SMem} (r1 : ∀ f, f ≠ 1 → M1 f = M f) {p nm : Nat} : ∀ a, vFt M1 p nm a ↔ vFt M p nm a := by
  intro a
  induction a using Nat.strongRecOn with
  | _ a ih =>
    have e1 := vFt_iff (M := M1) (p := p) (nm := nm) a
    have e2 := vFt_iff (M := M) (p := p) (nm := nm) a
    unfold vA vHT vFF at e1 e2
    rw [r1 17 (by decide), r1 19 (by decide), r1 20 (by decide), r1 21 (by decide), r1 23 (by decide), r1 26 (by decide), r1 29 (by decide), r1 30 (by decide), r1 31 (by decide), r1 32 (by decide)] at e1
    by_cases h : 2 ≤ a
    · rw [ih (a - 2) (by omega)] at e1
      exact e1.trans e2.symm
    · simp only [h, false_and] at e1 e2
      exact e1.trans e2.symm
section CWG
variable {EX : SEx} {l : Launch} {dC : Nat → ClassId} {dI : Nat → Nat → Nat} {cA : Nat → ClassId} {ad : SAd} {scrS d : Nat}
theorem m_doesFit (hp : cPl tm tc tf EX) {M : SMem} (hI : sI tg M) (hX : sX M) {nm p : Nat} (hn : nm < 8) (hp9 : p < 12) : ∀ (N a : Nat), a ≤ 2 * N → a % 2 = 0 → a < 6 → cBG tm tf EX l dC dI cA ad scrS (d + N + 3) kX10_doesFit [(2, 1, 0), (0, 0, (nm : Int)), (0, 0, (p : Int)), (0, 0, (a : Int))] M (fun rr MM => MM = M ∧ ((rr = [1] ∧ (vFt M p nm a)) ∨ (rr = [0] ∧ ¬ (vFt M p nm a)))) := by
  intro N
  induction N with
  | zero =>
    intro a ha he h6
    refine cMeth (v := [(nm : Int), (p : Int), (a : Int)]) (Fd := 90) hp (by decide) gX10_doesFit_ok gX10_doesFit_m0 (by simp [cAs, cE2, sev, svl, cen]) ?_
    have b1 := wIb (f := 23) (i := p) (lo := 0) (hi := 24) hI 0 rfl
    have b2 := wIb (f := 31) (i := 6 * p + a) (lo := 0) (hi := 8) hI 0 rfl
    have b3 := wIb (f := 19) (i := nm) (lo := 0) (hi := 1) hI 0 rfl
    have b4 := wSm_le (M 21 0) (8 * nm) (M 20 0 nm).toNat
    have b5 := wIb (f := 20) (i := nm) (lo := 0) (hi := 8) hI 0 rfl
    have x0 : a = 0 → M 29 0 (6 * p + a) = 0 := fun z => by
      have := hX.1 (6 * p + a)
      rw [show (6 * p + a) % 6 = a by omega, z] at this
      unfold sD1 at this
      rw [z]
      omega
    have iff := vFt_iff (M := M) (p := p) (nm := nm) a
    obtain ⟨sn, hsn⟩ : ∃ sn : Nat, M 31 0 (6 * p + a) = (sn : Int) := ⟨(M 31 0 (6 * p + a)).toNat, by omega⟩
    suffices H : ∀ Po : List Int → SMem → Prop, (vFt M p nm a → Po [1] M) → (¬ vFt M p nm a → Po [0] M) → cEnds (cBG tm tf EX l dC dI cA ad scrS (d + 2)) Po 90 gX10_doesFit 0 [(nm : Int), (p : Int), (a : Int)] M from H _ (fun w => ⟨rfl, Or.inl ⟨rfl, w⟩⟩) (fun w => ⟨rfl, Or.inr ⟨rfl, w⟩⟩)
    intro Po hP hN
    have s161 : ∀ z : Int, ((z = 1 ∧ (vA M (6 * p + a) nm ∧ vHT M (6 * p + a) nm)) ∨ (z = 0 ∧ ¬ (vA M (6 * p + a) nm ∧ vHT M (6 * p + a) nm))) → cEnds (cBG tm tf EX l dC dI cA ad scrS (d + 2)) Po 90 gX10_doesFit 161 [(nm : Int), (p : Int), (a : Int), ((6 * p + a : Nat) : Int), z] M := by
      intro z hz
      rcases hz with ⟨rfl, hA⟩ | ⟨rfl, hA⟩
      · refine cEnds_at gX10_doesFit_m161 rfl ?_
        refine d_br (fun h => ?_) (fun h => ?_)
        · clear h
          refine d_row 0 ((6 * p + a)) (by simp only [cE2, sev, svl, cen, List.cons_append, List.nil_append]; omega) (by simp only [cE2, sev, svl, cen, List.cons_append, List.nil_append]; omega) (by omega) ?_
          refine d_br (fun h => ?_) (fun h => ?_)
          · simp only [cCmp, cE2, sev, svl, cen, List.cons_append, List.nil_append] at h
            first
            | omega
            | skip
              refine d_row 0 ((6 * p + a)) (by simp only [cE2, sev, svl, cen, List.cons_append, List.nil_append]; omega) (by simp only [cE2, sev, svl, cen, List.cons_append, List.nil_append]; omega) (by omega) ?_
              refine d_br (fun h => ?_) (fun h => ?_)
              · simp only [cCmp, cE2, sev, svl, cen, List.cons_append, List.nil_append] at h
                first
                | omega
                | skip
                  refine d_rng (by simp only [clo, chi, cE2, sev, svl, cen, List.cons_append, List.nil_append]; omega) ?_
                  exact absurd (x0 (by omega)) (by omega)
              · simp only [cCmp, cE2, sev, svl, cen, List.cons_append, List.nil_append] at h
                first
                | omega
                | skip
                  refine d_call (m_width hp (nm := nm) hI hn) (by simp [cAs, cE2, sev, svl, cen] <;> omega) ?_
                  intro rr M' hq
                  obtain ⟨hM', rfl⟩ := hq
                  rw [hM']
                  refine ⟨rfl, ?_⟩
                  refine d_row 0 p (by simp only [cE2, sev, svl, cen, List.cons_append, List.nil_append]; omega) (by simp only [cE2, sev, svl, cen, List.cons_append, List.nil_append]; omega) (by omega) ?_
                  refine d_rng (by simp only [clo, chi, cE2, sev, svl, cen, List.cons_append, List.nil_append]; omega) ?_
                  refine d_br (fun h => ?_) (fun h => ?_)
                  · simp only [cCmp, cE2, sev, svl, cen, List.cons_append, List.nil_append] at h
                    first
                    | omega
                    | skip
                      exact d_ret [0] rfl (by decide) (hN (fun y => (iff.mp y).2.elim (fun q => absurd q.1 (by omega)) (fun q => q.elim (fun q => absurd q.2 (by omega)) (fun q => absurd q.2.1 (by omega)))))
                  · simp only [cCmp, cE2, sev, svl, cen, List.cons_append, List.nil_append] at h
                    first
                    | omega
                    | skip
                      exact d_ret [1] rfl (by decide) (hP (iff.mpr ⟨hA, Or.inr (Or.inl ⟨by omega, by omega⟩)⟩))
          · simp only [cCmp, cE2, sev, svl, cen, List.cons_append, List.nil_append] at h
            first
            | omega
            | skip
              refine d_call (m_width hp (nm := nm) hI hn) (by simp [cAs, cE2, sev, svl, cen] <;> omega) ?_
              intro rr M' hq
              obtain ⟨hM', rfl⟩ := hq
              rw [hM']
              refine ⟨rfl, ?_⟩
              refine d_row 0 p (by simp only [cE2, sev, svl, cen, List.cons_append, List.nil_append]; omega) (by simp only [cE2, sev, svl, cen, List.cons_append, List.nil_append]; omega) (by omega) ?_
              refine d_rng (by simp only [clo, chi, cE2, sev, svl, cen, List.cons_append, List.nil_append]; omega) ?_
              refine d_row 0 p (by simp only [cE2, sev, svl, cen, List.cons_append, List.nil_append]; omega) (by simp only [cE2, sev, svl, cen, List.cons_append, List.nil_append]; omega) (by omega) ?_
              refine d_call (m_within hp (x := (wSm (M 21 0) (8 * nm) (M 20 0 nm).toNat)) (y := ((M 23 0 p) - 4)) (z := (M 23 0 p))) (by simp [cAs, cE2, sev, svl, cen] <;> omega) ?_
              intro rr M' hq
              obtain ⟨hM', hq⟩ := hq
              rw [hM']
              rcases hq with ⟨rfl, q9⟩ | ⟨rfl, q9⟩
              · refine ⟨rfl, ?_⟩
                refine d_br (fun h => ?_) (fun h => ?_)
                · simp only [cCmp, cE2, sev, svl, cen, List.cons_append, List.nil_append] at h
                  omega
                · clear h
                  refine d_row 0 p (by simp only [cE2, sev, svl, cen, List.cons_append, List.nil_append]; omega) (by simp only [cE2, sev, svl, cen, List.cons_append, List.nil_append]; omega) (by omega) ?_
                  refine d_br (fun h => ?_) (fun h => ?_)
                  · simp only [cCmp, cE2, sev, svl, cen, List.cons_append, List.nil_append] at h
                    first
                    | omega
                    | skip
                      exact d_ret [1] rfl (by decide) (hP (iff.mpr ⟨hA, Or.inl ⟨by omega, by unfold vFF; omega⟩⟩))
                  · simp only [cCmp, cE2, sev, svl, cen, List.cons_append, List.nil_append] at h
                    first
                    | omega
                    | skip
                      refine d_row 0 p (by simp only [cE2, sev, svl, cen, List.cons_append, List.nil_append]; omega) (by simp only [cE2, sev, svl, cen, List.cons_append, List.nil_append]; omega) (by omega) ?_
                      refine d_br (fun h => ?_) (fun h => ?_)
                      · simp only [cCmp, cE2, sev, svl, cen, List.cons_append, List.nil_append] at h
                        first
                        | omega
                        | skip
                          refine d_row 0 nm (by simp only [cE2, sev, svl, cen, List.cons_append, List.nil_append]; omega) (by simp only [cE2, sev, svl, cen, List.cons_append, List.nil_append]; omega) (by omega) ?_
                          refine d_br (fun h => ?_) (fun h => ?_)
                          · simp only [cCmp, cE2, sev, svl, cen, List.cons_append, List.nil_append] at h
                            first
                            | omega
                            | skip
                              exact d_ret [0] rfl (by decide) (hN (fun y => (iff.mp y).2.elim (fun q => by have := q.2; unfold vFF at this; omega) (fun q => q.elim (fun q => absurd q.1 (by omega)) (fun q => absurd q.1 (by omega)))))
                          · simp only [cCmp, cE2, sev, svl, cen, List.cons_append, List.nil_append] at h
                            first
                            | omega
                            | skip
                              exact d_ret [1] rfl (by decide) (hP (iff.mpr ⟨hA, Or.inl ⟨by omega, by unfold vFF; omega⟩⟩))
                      · simp only [cCmp, cE2, sev, svl, cen, List.cons_append, List.nil_append] at h
                        first
                        | omega
                        | skip
                          refine d_row 0 nm (by simp only [cE2, sev, svl, cen, List.cons_append, List.nil_append]; omega) (by simp only [cE2, sev, svl, cen, List.cons_append, List.nil_append]; omega) (by omega) ?_
                          refine d_br (fun h => ?_) (fun h => ?_)
                          · simp only [cCmp, cE2, sev, svl, cen, List.cons_append, List.nil_append] at h
                            first
                            | omega
                            | skip
                              exact d_ret [0] rfl (by decide) (hN (fun y => (iff.mp y).2.elim (fun q => by have := q.2; unfold vFF at this; omega) (fun q => q.elim (fun q => absurd q.1 (by omega)) (fun q => absurd q.1 (by omega)))))
                          · simp only [cCmp, cE2, sev, svl, cen, List.cons_append, List.nil_append] at h
                            first
                            | omega
                            | skip
                              exact d_ret [1] rfl (by decide) (hP (iff.mpr ⟨hA, Or.inl ⟨by omega, by unfold vFF; omega⟩⟩))
              · refine ⟨rfl, ?_⟩
                refine d_br (fun h => ?_) (fun h => ?_)
                · clear h
                  exact d_ret [0] rfl (by decide) (hN (fun y => (iff.mp y).2.elim (fun q => by have := q.2; unfold vFF at this; omega) (fun q => q.elim (fun q => absurd q.1 (by omega)) (fun q => absurd q.1 (by omega)))))
                · simp only [cCmp, cE2, sev, svl, cen, List.cons_append, List.nil_append] at h
                  omega
        · simp only [cCmp, cE2, sev, svl, cen, List.cons_append, List.nil_append] at h
          omega
      · refine cEnds_at gX10_doesFit_m161 rfl ?_
        refine d_br (fun h => ?_) (fun h => ?_)
        · simp only [cCmp, cE2, sev, svl, cen, List.cons_append, List.nil_append] at h
          omega
        · clear h
          exact d_ret [0] rfl (by decide) (hN (fun y => hA (iff.mp y).1))
    have s87n : ∀ k : Nat, ¬ (vA M (6 * p + a) nm ∧ vHT M (6 * p + a) nm) → cEnds (cBG tm tf EX l dC dI cA ad scrS (d + 2)) Po 90 gX10_doesFit 87 [(nm : Int), (p : Int), (a : Int), ((6 * p + a : Nat) : Int), 0, (k : Int)] M := by
      intro k hno
      refine cEnds_at gX10_doesFit_m87 rfl ?_
      refine d_row 0 ((6 * p + a)) (by simp only [cE2, sev, svl, cen, List.cons_append, List.nil_append]; omega) (by simp only [cE2, sev, svl, cen, List.cons_append, List.nil_append]; omega) (by omega) ?_
      refine d_br (fun h => ?_) (fun h => ?_)
      · simp only [cCmp, cE2, sev, svl, cen, List.cons_append, List.nil_append] at h
        refine d_cut [(nm : Int), (p : Int), (a : Int), ((6 * p + a : Nat) : Int), 0] (by simp [cE2, sev, svl, cen] <;> omega) ?_
        exact s161 0 (Or.inr ⟨rfl, hno⟩)
      · simp only [cCmp, cE2, sev, svl, cen, List.cons_append, List.nil_append] at h
        refine d_br (fun h => ?_) (fun h => ?_)
        · clear h
          refine d_cut [(nm : Int), (p : Int), (a : Int), ((6 * p + a : Nat) : Int), 0] (by simp [cE2, sev, svl, cen] <;> omega) ?_
          exact s161 0 (Or.inr ⟨rfl, hno⟩)
        · simp only [cCmp, cE2, sev, svl, cen, List.cons_append, List.nil_append] at h
          omega
    have loop : vA M (6 * p + a) nm → ∀ (m k : Nat), k + m = sn → (∀ i : Nat, i < k → M 32 0 (8 * (6 * p + a) + i) = 0 ∨ M 32 0 (8 * (6 * p + a) + i) = M 21 0 (8 * nm + i)) → cEnds (cBG tm tf EX l dC dI cA ad scrS (d + 2)) Po 90 gX10_doesFit 87 [(nm : Int), (p : Int), (a : Int), ((6 * p + a : Nat) : Int), 1, (k : Int)] M := by
      intro hA m
      induction m with
      | zero =>
        intro k hk hl
        refine cEnds_at gX10_doesFit_m87 rfl ?_
        refine d_row 0 ((6 * p + a)) (by simp only [cE2, sev, svl, cen, List.cons_append, List.nil_append]; omega) (by simp only [cE2, sev, svl, cen, List.cons_append, List.nil_append]; omega) (by omega) ?_
        refine d_br (fun h => ?_) (fun h => ?_)
        · simp only [cCmp, cE2, sev, svl, cen, List.cons_append, List.nil_append] at h
          first
          | omega
          | skip
            refine d_cut [(nm : Int), (p : Int), (a : Int), ((6 * p + a : Nat) : Int), 1] (by simp [cE2, sev, svl, cen] <;> omega) ?_
            exact s161 1 (Or.inl ⟨rfl, hA, fun i hi => hl i (by omega)⟩)
        · simp only [cCmp, cE2, sev, svl, cen, List.cons_append, List.nil_append] at h
          first
          | omega
          | skip
            refine d_br (fun h => ?_) (fun h => ?_)
            · simp only [cCmp, cE2, sev, svl, cen, List.cons_append, List.nil_append] at h
              omega
            · clear h
              refine d_rng (by simp only [clo, chi, cE2, sev, svl, cen, List.cons_append, List.nil_append]; omega) ?_
              refine d_rng (by simp only [clo, chi, cE2, sev, svl, cen, List.cons_append, List.nil_append]; omega) ?_
              refine d_row 0 (8 * (6 * p + a) + k) (by simp only [cE2, sev, svl, cen, List.cons_append, List.nil_append]; omega) (by simp only [cE2, sev, svl, cen, List.cons_append, List.nil_append]; omega) (by omega) ?_
              refine d_br (fun h => ?_) (fun h => ?_)
              · simp only [cCmp, cE2, sev, svl, cen, List.cons_append, List.nil_append] at h
                first
                | omega
                | skip
                  refine d_rng (by simp only [clo, chi, cE2, sev, svl, cen, List.cons_append, List.nil_append]; omega) ?_
                  refine d_cut [(nm : Int), (p : Int), (a : Int), ((6 * p + a : Nat) : Int), 1, ((k : Int) + 1)] (by simp [cE2, sev, svl, cen] <;> omega) ?_
                  exact (by omega)
              · simp only [cCmp, cE2, sev, svl, cen, List.cons_append, List.nil_append] at h
                first
                | omega
                | skip
                  refine d_rng (by simp only [clo, chi, cE2, sev, svl, cen, List.cons_append, List.nil_append]; omega) ?_
                  refine d_rng (by simp only [clo, chi, cE2, sev, svl, cen, List.cons_append, List.nil_append]; omega) ?_
                  refine d_row 0 (8 * (6 * p + a) + k) (by simp only [cE2, sev, svl, cen, List.cons_append, List.nil_append]; omega) (by simp only [cE2, sev, svl, cen, List.cons_append, List.nil_append]; omega) (by omega) ?_
                  refine d_rng (by simp only [clo, chi, cE2, sev, svl, cen, List.cons_append, List.nil_append]; omega) ?_
                  refine d_rng (by simp only [clo, chi, cE2, sev, svl, cen, List.cons_append, List.nil_append]; omega) ?_
                  refine d_row 0 (8 * nm + k) (by simp only [cE2, sev, svl, cen, List.cons_append, List.nil_append]; omega) (by simp only [cE2, sev, svl, cen, List.cons_append, List.nil_append]; omega) (by omega) ?_
                  refine d_br (fun h => ?_) (fun h => ?_)
                  · simp only [cCmp, cE2, sev, svl, cen, List.cons_append, List.nil_append] at h
                    first
                    | omega
                    | skip
                      refine d_rng (by simp only [clo, chi, cE2, sev, svl, cen, List.cons_append, List.nil_append]; omega) ?_
                      refine d_cut [(nm : Int), (p : Int), (a : Int), ((6 * p + a : Nat) : Int), 0, ((k : Int) + 1)] (by simp [cE2, sev, svl, cen] <;> omega) ?_
                      exact (by omega)
                  · simp only [cCmp, cE2, sev, svl, cen, List.cons_append, List.nil_append] at h
                    first
                    | omega
                    | skip
                      refine d_rng (by simp only [clo, chi, cE2, sev, svl, cen, List.cons_append, List.nil_append]; omega) ?_
                      refine d_cut [(nm : Int), (p : Int), (a : Int), ((6 * p + a : Nat) : Int), 1, ((k : Int) + 1)] (by simp [cE2, sev, svl, cen] <;> omega) ?_
                      exact (by omega)
      | succ m ihm =>
        intro k hk hl
        have c1 : k < 8 := by omega
        refine cEnds_at gX10_doesFit_m87 rfl ?_
        refine d_row 0 ((6 * p + a)) (by simp only [cE2, sev, svl, cen, List.cons_append, List.nil_append]; omega) (by simp only [cE2, sev, svl, cen, List.cons_append, List.nil_append]; omega) (by omega) ?_
        refine d_br (fun h => ?_) (fun h => ?_)
        · simp only [cCmp, cE2, sev, svl, cen, List.cons_append, List.nil_append] at h
          first
          | omega
          | skip
            refine d_cut [(nm : Int), (p : Int), (a : Int), ((6 * p + a : Nat) : Int), 1] (by simp [cE2, sev, svl, cen] <;> omega) ?_
            exact (by omega)
        · simp only [cCmp, cE2, sev, svl, cen, List.cons_append, List.nil_append] at h
          first
          | omega
          | skip
            refine d_br (fun h => ?_) (fun h => ?_)
            · simp only [cCmp, cE2, sev, svl, cen, List.cons_append, List.nil_append] at h
              omega
            · clear h
              refine d_rng (by simp only [clo, chi, cE2, sev, svl, cen, List.cons_append, List.nil_append]; omega) ?_
              refine d_rng (by simp only [clo, chi, cE2, sev, svl, cen, List.cons_append, List.nil_append]; omega) ?_
              refine d_row 0 (8 * (6 * p + a) + k) (by simp only [cE2, sev, svl, cen, List.cons_append, List.nil_append]; omega) (by simp only [cE2, sev, svl, cen, List.cons_append, List.nil_append]; omega) (by omega) ?_
              refine d_br (fun h => ?_) (fun h => ?_)
              · simp only [cCmp, cE2, sev, svl, cen, List.cons_append, List.nil_append] at h
                first
                | omega
                | skip
                  refine d_rng (by simp only [clo, chi, cE2, sev, svl, cen, List.cons_append, List.nil_append]; omega) ?_
                  refine d_cut [(nm : Int), (p : Int), (a : Int), ((6 * p + a : Nat) : Int), 1, ((k + 1 : Nat) : Int)] (by simp [cE2, sev, svl, cen] <;> omega) ?_
                  refine ihm (k + 1) (by omega) (fun i hi => ?_)
                  by_cases z : i = k
                  · rw [z]; omega
                  · exact hl i (by omega)
              · simp only [cCmp, cE2, sev, svl, cen, List.cons_append, List.nil_append] at h
                first
                | omega
                | skip
                  refine d_rng (by simp only [clo, chi, cE2, sev, svl, cen, List.cons_append, List.nil_append]; omega) ?_
                  refine d_rng (by simp only [clo, chi, cE2, sev, svl, cen, List.cons_append, List.nil_append]; omega) ?_
                  refine d_row 0 (8 * (6 * p + a) + k) (by simp only [cE2, sev, svl, cen, List.cons_append, List.nil_append]; omega) (by simp only [cE2, sev, svl, cen, List.cons_append, List.nil_append]; omega) (by omega) ?_
                  refine d_rng (by simp only [clo, chi, cE2, sev, svl, cen, List.cons_append, List.nil_append]; omega) ?_
                  refine d_rng (by simp only [clo, chi, cE2, sev, svl, cen, List.cons_append, List.nil_append]; omega) ?_
                  refine d_row 0 (8 * nm + k) (by simp only [cE2, sev, svl, cen, List.cons_append, List.nil_append]; omega) (by simp only [cE2, sev, svl, cen, List.cons_append, List.nil_append]; omega) (by omega) ?_
                  refine d_br (fun h => ?_) (fun h => ?_)
                  · simp only [cCmp, cE2, sev, svl, cen, List.cons_append, List.nil_append] at h
                    first
                    | omega
                    | skip
                      refine d_rng (by simp only [clo, chi, cE2, sev, svl, cen, List.cons_append, List.nil_append]; omega) ?_
                      refine d_cut [(nm : Int), (p : Int), (a : Int), ((6 * p + a : Nat) : Int), 0, ((k + 1 : Nat) : Int)] (by simp [cE2, sev, svl, cen] <;> omega) ?_
                      exact s87n (k + 1) (fun w => by have := w.2 k (by omega); omega)
                  · simp only [cCmp, cE2, sev, svl, cen, List.cons_append, List.nil_append] at h
                    first
                    | omega
                    | skip
                      refine d_rng (by simp only [clo, chi, cE2, sev, svl, cen, List.cons_append, List.nil_append]; omega) ?_
                      refine d_cut [(nm : Int), (p : Int), (a : Int), ((6 * p + a : Nat) : Int), 1, ((k + 1 : Nat) : Int)] (by simp [cE2, sev, svl, cen] <;> omega) ?_
                      refine ihm (k + 1) (by omega) (fun i hi => ?_)
                      by_cases z : i = k
                      · rw [z]; omega
                      · exact hl i (by omega)
    have L1 : cEnds (cBG tm tf EX l dC dI cA ad scrS (d + 2)) Po 90 gX10_doesFit 87 [(nm : Int), (p : Int), (a : Int), 6 * (p : Int) + (a : Int), 1, 0] M ↔ cEnds (cBG tm tf EX l dC dI cA ad scrS (d + 2)) Po 90 gX10_doesFit 87 [(nm : Int), (p : Int), (a : Int), ((6 * p + a : Nat) : Int), 1, ((0 : Nat) : Int)] M := by
      rw [show ((6 * p + a : Nat) : Int) = 6 * (p : Int) + (a : Int) by omega]
      rfl
    have L0 : cEnds (cBG tm tf EX l dC dI cA ad scrS (d + 2)) Po 90 gX10_doesFit 87 [(nm : Int), (p : Int), (a : Int), 6 * (p : Int) + (a : Int), 0, 0] M ↔ cEnds (cBG tm tf EX l dC dI cA ad scrS (d + 2)) Po 90 gX10_doesFit 87 [(nm : Int), (p : Int), (a : Int), ((6 * p + a : Nat) : Int), 0, ((0 : Nat) : Int)] M := by
      rw [show ((6 * p + a : Nat) : Int) = 6 * (p : Int) + (a : Int) by omega]
      rfl
    refine cEnds_at gX10_doesFit_m0 rfl ?_
    refine d_rng (by simp only [clo, chi, cE2, sev, svl, cen, List.cons_append, List.nil_append]; omega) ?_
    refine d_rng (by simp only [clo, chi, cE2, sev, svl, cen, List.cons_append, List.nil_append]; omega) ?_
    refine d_row 0 nm (by simp only [cE2, sev, svl, cen, List.cons_append, List.nil_append]; omega) (by simp only [cE2, sev, svl, cen, List.cons_append, List.nil_append]; omega) (by omega) ?_
    refine d_br (fun h => ?_) (fun h => ?_)
    · simp only [cCmp, cE2, sev, svl, cen, List.cons_append, List.nil_append] at h
      first
      | omega
      | skip
        refine d_cut [(nm : Int), (p : Int), (a : Int), (6 * (p : Int) + (a : Int)), 0, 0] (by simp [cE2, sev, svl, cen] <;> omega) ?_
        exact L0.mpr (s87n 0 (fun w => by have := w.1; unfold vA at this; omega))
    · simp only [cCmp, cE2, sev, svl, cen, List.cons_append, List.nil_append] at h
      first
      | omega
      | skip
        refine d_row 0 (6 * p + a) (by simp only [cE2, sev, svl, cen, List.cons_append, List.nil_append]; omega) (by simp only [cE2, sev, svl, cen, List.cons_append, List.nil_append]; omega) (by omega) ?_
        refine d_br (fun h => ?_) (fun h => ?_)
        · simp only [cCmp, cE2, sev, svl, cen, List.cons_append, List.nil_append] at h
          first
          | omega
          | skip
            refine d_row 0 (6 * p + a) (by simp only [cE2, sev, svl, cen, List.cons_append, List.nil_append]; omega) (by simp only [cE2, sev, svl, cen, List.cons_append, List.nil_append]; omega) (by omega) ?_
            rw [hsn]
            refine d_br (fun h => ?_) (fun h => ?_)
            · simp only [cCmp, cE2, sev, svl, cen, List.cons_append, List.nil_append] at h
              first
              | omega
              | skip
                refine d_cut [(nm : Int), (p : Int), (a : Int), (6 * (p : Int) + (a : Int)), 1, 0] (by simp [cE2, sev, svl, cen] <;> omega) ?_
                exact L1.mpr (loop (by unfold vA; omega) sn 0 (by omega) (fun i hi => by omega))
            · simp only [cCmp, cE2, sev, svl, cen, List.cons_append, List.nil_append] at h
              first
              | omega
              | skip
                refine d_row 0 (6 * p + a) (by simp only [cE2, sev, svl, cen, List.cons_append, List.nil_append]; omega) (by simp only [cE2, sev, svl, cen, List.cons_append, List.nil_append]; omega) (by omega) ?_
                rw [hsn]
                refine d_row 0 nm (by simp only [cE2, sev, svl, cen, List.cons_append, List.nil_append]; omega) (by simp only [cE2, sev, svl, cen, List.cons_append, List.nil_append]; omega) (by omega) ?_
                refine d_br (fun h => ?_) (fun h => ?_)
                · simp only [cCmp, cE2, sev, svl, cen, List.cons_append, List.nil_append] at h
                  first
                  | omega
                  | skip
                    refine d_cut [(nm : Int), (p : Int), (a : Int), (6 * (p : Int) + (a : Int)), 0, 0] (by simp [cE2, sev, svl, cen] <;> omega) ?_
                    exact L0.mpr (s87n 0 (fun w => by have := w.1; unfold vA at this; omega))
                · simp only [cCmp, cE2, sev, svl, cen, List.cons_append, List.nil_append] at h
                  first
                  | omega
                  | skip
                    refine d_cut [(nm : Int), (p : Int), (a : Int), (6 * (p : Int) + (a : Int)), 1, 0] (by simp [cE2, sev, svl, cen] <;> omega) ?_
                    exact L1.mpr (loop (by unfold vA; omega) sn 0 (by omega) (fun i hi => by omega))
        · simp only [cCmp, cE2, sev, svl, cen, List.cons_append, List.nil_append] at h
          first
          | omega
          | skip
            refine d_row 0 (6 * p + a) (by simp only [cE2, sev, svl, cen, List.cons_append, List.nil_append]; omega) (by simp only [cE2, sev, svl, cen, List.cons_append, List.nil_append]; omega) (by omega) ?_
            refine d_br (fun h => ?_) (fun h => ?_)
            · simp only [cCmp, cE2, sev, svl, cen, List.cons_append, List.nil_append] at h
              first
              | omega
              | skip
                refine d_cut [(nm : Int), (p : Int), (a : Int), (6 * (p : Int) + (a : Int)), 0, 0] (by simp [cE2, sev, svl, cen] <;> omega) ?_
                exact L0.mpr (s87n 0 (fun w => by have := w.1; unfold vA at this; omega))
            · simp only [cCmp, cE2, sev, svl, cen, List.cons_append, List.nil_append] at h
              first
              | omega
              | skip
                refine d_row 0 (6 * p + a) (by simp only [cE2, sev, svl, cen, List.cons_append, List.nil_append]; omega) (by simp only [cE2, sev, svl, cen, List.cons_append, List.nil_append]; omega) (by omega) ?_
                rw [hsn]
                refine d_br (fun h => ?_) (fun h => ?_)
                · simp only [cCmp, cE2, sev, svl, cen, List.cons_append, List.nil_append] at h
                  first
                  | omega
                  | skip
                    refine d_cut [(nm : Int), (p : Int), (a : Int), (6 * (p : Int) + (a : Int)), 1, 0] (by simp [cE2, sev, svl, cen] <;> omega) ?_
                    exact L1.mpr (loop (by unfold vA; omega) sn 0 (by omega) (fun i hi => by omega))
                · simp only [cCmp, cE2, sev, svl, cen, List.cons_append, List.nil_append] at h
                  first
                  | omega
                  | skip
                    refine d_row 0 (6 * p + a) (by simp only [cE2, sev, svl, cen, List.cons_append, List.nil_append]; omega) (by simp only [cE2, sev, svl, cen, List.cons_append, List.nil_append]; omega) (by omega) ?_
                    rw [hsn]
                    refine d_row 0 nm (by simp only [cE2, sev, svl, cen, List.cons_append, List.nil_append]; omega) (by simp only [cE2, sev, svl, cen, List.cons_append, List.nil_append]; omega) (by omega) ?_
                    refine d_br (fun h => ?_) (fun h => ?_)
                    · simp only [cCmp, cE2, sev, svl, cen, List.cons_append, List.nil_append] at h
                      first
                      | omega
                      | skip
                        refine d_cut [(nm : Int), (p : Int), (a : Int), (6 * (p : Int) + (a : Int)), 0, 0] (by simp [cE2, sev, svl, cen] <;> omega) ?_
                        exact L0.mpr (s87n 0 (fun w => by have := w.1; unfold vA at this; omega))
                    · simp only [cCmp, cE2, sev, svl, cen, List.cons_append, List.nil_append] at h
                      first
                      | omega
                      | skip
                        refine d_cut [(nm : Int), (p : Int), (a : Int), (6 * (p : Int) + (a : Int)), 1, 0] (by simp [cE2, sev, svl, cen] <;> omega) ?_
                        exact L1.mpr (loop (by unfold vA; omega) sn 0 (by omega) (fun i hi => by omega))
  | succ N ih =>
    intro a ha he h6
    refine cMeth (v := [(nm : Int), (p : Int), (a : Int)]) (Fd := 90) hp (by decide) gX10_doesFit_ok gX10_doesFit_m0 (by simp [cAs, cE2, sev, svl, cen]) ?_
    have b1 := wIb (f := 23) (i := p) (lo := 0) (hi := 24) hI 0 rfl
    have b2 := wIb (f := 31) (i := 6 * p + a) (lo := 0) (hi := 8) hI 0 rfl
    have b3 := wIb (f := 19) (i := nm) (lo := 0) (hi := 1) hI 0 rfl
    have b4 := wSm_le (M 21 0) (8 * nm) (M 20 0 nm).toNat
    have b5 := wIb (f := 20) (i := nm) (lo := 0) (hi := 8) hI 0 rfl
    have x0 : a = 0 → M 29 0 (6 * p + a) = 0 := fun z => by
      have := hX.1 (6 * p + a)
      rw [show (6 * p + a) % 6 = a by omega, z] at this
      unfold sD1 at this
      rw [z]
      omega
    have iff := vFt_iff (M := M) (p := p) (nm := nm) a
    obtain ⟨sn, hsn⟩ : ∃ sn : Nat, M 31 0 (6 * p + a) = (sn : Int) := ⟨(M 31 0 (6 * p + a)).toNat, by omega⟩
    suffices H : ∀ Po : List Int → SMem → Prop, (vFt M p nm a → Po [1] M) → (¬ vFt M p nm a → Po [0] M) → cEnds (cBG tm tf EX l dC dI cA ad scrS (d + N + 3)) Po 90 gX10_doesFit 0 [(nm : Int), (p : Int), (a : Int)] M from H _ (fun w => ⟨rfl, Or.inl ⟨rfl, w⟩⟩) (fun w => ⟨rfl, Or.inr ⟨rfl, w⟩⟩)
    intro Po hP hN
    have s161 : ∀ z : Int, ((z = 1 ∧ (vA M (6 * p + a) nm ∧ vHT M (6 * p + a) nm)) ∨ (z = 0 ∧ ¬ (vA M (6 * p + a) nm ∧ vHT M (6 * p + a) nm))) → cEnds (cBG tm tf EX l dC dI cA ad scrS (d + N + 3)) Po 90 gX10_doesFit 161 [(nm : Int), (p : Int), (a : Int), ((6 * p + a : Nat) : Int), z] M := by
      intro z hz
      rcases hz with ⟨rfl, hA⟩ | ⟨rfl, hA⟩
      · refine cEnds_at gX10_doesFit_m161 rfl ?_
        refine d_br (fun h => ?_) (fun h => ?_)
        · clear h
          refine d_row 0 ((6 * p + a)) (by simp only [cE2, sev, svl, cen, List.cons_append, List.nil_append]; omega) (by simp only [cE2, sev, svl, cen, List.cons_append, List.nil_append]; omega) (by omega) ?_
          refine d_br (fun h => ?_) (fun h => ?_)
          · simp only [cCmp, cE2, sev, svl, cen, List.cons_append, List.nil_append] at h
            first
            | omega
            | skip
              refine d_row 0 ((6 * p + a)) (by simp only [cE2, sev, svl, cen, List.cons_append, List.nil_append]; omega) (by simp only [cE2, sev, svl, cen, List.cons_append, List.nil_append]; omega) (by omega) ?_
              refine d_br (fun h => ?_) (fun h => ?_)
              · simp only [cCmp, cE2, sev, svl, cen, List.cons_append, List.nil_append] at h
                first
                | omega
                | skip
                  refine d_rng (by simp only [clo, chi, cE2, sev, svl, cen, List.cons_append, List.nil_append]; omega) ?_
                  refine d_call (ih (a - 2) (by omega) (by omega) (by omega)) (by simp [cAs, cE2, sev, svl, cen] <;> omega) ?_
                  intro rr M' hq
                  obtain ⟨hM', hq⟩ := hq
                  rw [hM']
                  rcases hq with ⟨rfl, q7⟩ | ⟨rfl, q7⟩
                  · refine ⟨rfl, ?_⟩
                    exact d_ret [1] rfl (by decide) (hP (iff.mpr ⟨hA, Or.inr (Or.inr ⟨by omega, by omega, by omega, q7⟩)⟩))
                  · refine ⟨rfl, ?_⟩
                    exact d_ret [0] rfl (by decide) (hN (fun y => (iff.mp y).2.elim (fun q => absurd q.1 (by omega)) (fun q => q.elim (fun q => absurd q.1 (by omega)) (fun q => q7 q.2.2.2))))
              · simp only [cCmp, cE2, sev, svl, cen, List.cons_append, List.nil_append] at h
                first
                | omega
                | skip
                  refine d_call (m_width hp (nm := nm) hI hn) (by simp [cAs, cE2, sev, svl, cen] <;> omega) ?_
                  intro rr M' hq
                  obtain ⟨hM', rfl⟩ := hq
                  rw [hM']
                  refine ⟨rfl, ?_⟩
                  refine d_row 0 p (by simp only [cE2, sev, svl, cen, List.cons_append, List.nil_append]; omega) (by simp only [cE2, sev, svl, cen, List.cons_append, List.nil_append]; omega) (by omega) ?_
                  refine d_rng (by simp only [clo, chi, cE2, sev, svl, cen, List.cons_append, List.nil_append]; omega) ?_
                  refine d_br (fun h => ?_) (fun h => ?_)
                  · simp only [cCmp, cE2, sev, svl, cen, List.cons_append, List.nil_append] at h
                    first
                    | omega
                    | skip
                      exact d_ret [0] rfl (by decide) (hN (fun y => (iff.mp y).2.elim (fun q => absurd q.1 (by omega)) (fun q => q.elim (fun q => absurd q.2 (by omega)) (fun q => absurd q.2.1 (by omega)))))
                  · simp only [cCmp, cE2, sev, svl, cen, List.cons_append, List.nil_append] at h
                    first
                    | omega
                    | skip
                      exact d_ret [1] rfl (by decide) (hP (iff.mpr ⟨hA, Or.inr (Or.inl ⟨by omega, by omega⟩)⟩))
          · simp only [cCmp, cE2, sev, svl, cen, List.cons_append, List.nil_append] at h
            first
            | omega
            | skip
              refine d_call (m_width hp (nm := nm) hI hn) (by simp [cAs, cE2, sev, svl, cen] <;> omega) ?_
              intro rr M' hq
              obtain ⟨hM', rfl⟩ := hq
              rw [hM']
              refine ⟨rfl, ?_⟩
              refine d_row 0 p (by simp only [cE2, sev, svl, cen, List.cons_append, List.nil_append]; omega) (by simp only [cE2, sev, svl, cen, List.cons_append, List.nil_append]; omega) (by omega) ?_
              refine d_rng (by simp only [clo, chi, cE2, sev, svl, cen, List.cons_append, List.nil_append]; omega) ?_
              refine d_row 0 p (by simp only [cE2, sev, svl, cen, List.cons_append, List.nil_append]; omega) (by simp only [cE2, sev, svl, cen, List.cons_append, List.nil_append]; omega) (by omega) ?_
              refine d_call (m_within hp (x := (wSm (M 21 0) (8 * nm) (M 20 0 nm).toNat)) (y := ((M 23 0 p) - 4)) (z := (M 23 0 p))) (by simp [cAs, cE2, sev, svl, cen] <;> omega) ?_
              intro rr M' hq
              obtain ⟨hM', hq⟩ := hq
              rw [hM']
              rcases hq with ⟨rfl, q9⟩ | ⟨rfl, q9⟩
              · refine ⟨rfl, ?_⟩
                refine d_br (fun h => ?_) (fun h => ?_)
                · simp only [cCmp, cE2, sev, svl, cen, List.cons_append, List.nil_append] at h
                  omega
                · clear h
                  refine d_row 0 p (by simp only [cE2, sev, svl, cen, List.cons_append, List.nil_append]; omega) (by simp only [cE2, sev, svl, cen, List.cons_append, List.nil_append]; omega) (by omega) ?_
                  refine d_br (fun h => ?_) (fun h => ?_)
                  · simp only [cCmp, cE2, sev, svl, cen, List.cons_append, List.nil_append] at h
                    first
                    | omega
                    | skip
                      exact d_ret [1] rfl (by decide) (hP (iff.mpr ⟨hA, Or.inl ⟨by omega, by unfold vFF; omega⟩⟩))
                  · simp only [cCmp, cE2, sev, svl, cen, List.cons_append, List.nil_append] at h
                    first
                    | omega
                    | skip
                      refine d_row 0 p (by simp only [cE2, sev, svl, cen, List.cons_append, List.nil_append]; omega) (by simp only [cE2, sev, svl, cen, List.cons_append, List.nil_append]; omega) (by omega) ?_
                      refine d_br (fun h => ?_) (fun h => ?_)
                      · simp only [cCmp, cE2, sev, svl, cen, List.cons_append, List.nil_append] at h
                        first
                        | omega
                        | skip
                          refine d_row 0 nm (by simp only [cE2, sev, svl, cen, List.cons_append, List.nil_append]; omega) (by simp only [cE2, sev, svl, cen, List.cons_append, List.nil_append]; omega) (by omega) ?_
                          refine d_br (fun h => ?_) (fun h => ?_)
                          · simp only [cCmp, cE2, sev, svl, cen, List.cons_append, List.nil_append] at h
                            first
                            | omega
                            | skip
                              exact d_ret [0] rfl (by decide) (hN (fun y => (iff.mp y).2.elim (fun q => by have := q.2; unfold vFF at this; omega) (fun q => q.elim (fun q => absurd q.1 (by omega)) (fun q => absurd q.1 (by omega)))))
                          · simp only [cCmp, cE2, sev, svl, cen, List.cons_append, List.nil_append] at h
                            first
                            | omega
                            | skip
                              exact d_ret [1] rfl (by decide) (hP (iff.mpr ⟨hA, Or.inl ⟨by omega, by unfold vFF; omega⟩⟩))
                      · simp only [cCmp, cE2, sev, svl, cen, List.cons_append, List.nil_append] at h
                        first
                        | omega
                        | skip
                          refine d_row 0 nm (by simp only [cE2, sev, svl, cen, List.cons_append, List.nil_append]; omega) (by simp only [cE2, sev, svl, cen, List.cons_append, List.nil_append]; omega) (by omega) ?_
                          refine d_br (fun h => ?_) (fun h => ?_)
                          · simp only [cCmp, cE2, sev, svl, cen, List.cons_append, List.nil_append] at h
                            first
                            | omega
                            | skip
                              exact d_ret [0] rfl (by decide) (hN (fun y => (iff.mp y).2.elim (fun q => by have := q.2; unfold vFF at this; omega) (fun q => q.elim (fun q => absurd q.1 (by omega)) (fun q => absurd q.1 (by omega)))))
                          · simp only [cCmp, cE2, sev, svl, cen, List.cons_append, List.nil_append] at h
                            first
                            | omega
                            | skip
                              exact d_ret [1] rfl (by decide) (hP (iff.mpr ⟨hA, Or.inl ⟨by omega, by unfold vFF; omega⟩⟩))
              · refine ⟨rfl, ?_⟩
                refine d_br (fun h => ?_) (fun h => ?_)
                · clear h
                  exact d_ret [0] rfl (by decide) (hN (fun y => (iff.mp y).2.elim (fun q => by have := q.2; unfold vFF at this; omega) (fun q => q.elim (fun q => absurd q.1 (by omega)) (fun q => absurd q.1 (by omega)))))
                · simp only [cCmp, cE2, sev, svl, cen, List.cons_append, List.nil_append] at h
                  omega
        · simp only [cCmp, cE2, sev, svl, cen, List.cons_append, List.nil_append] at h
          omega
      · refine cEnds_at gX10_doesFit_m161 rfl ?_
        refine d_br (fun h => ?_) (fun h => ?_)
        · simp only [cCmp, cE2, sev, svl, cen, List.cons_append, List.nil_append] at h
          omega
        · clear h
          exact d_ret [0] rfl (by decide) (hN (fun y => hA (iff.mp y).1))
    have s87n : ∀ k : Nat, ¬ (vA M (6 * p + a) nm ∧ vHT M (6 * p + a) nm) → cEnds (cBG tm tf EX l dC dI cA ad scrS (d + N + 3)) Po 90 gX10_doesFit 87 [(nm : Int), (p : Int), (a : Int), ((6 * p + a : Nat) : Int), 0, (k : Int)] M := by
      intro k hno
      refine cEnds_at gX10_doesFit_m87 rfl ?_
      refine d_row 0 ((6 * p + a)) (by simp only [cE2, sev, svl, cen, List.cons_append, List.nil_append]; omega) (by simp only [cE2, sev, svl, cen, List.cons_append, List.nil_append]; omega) (by omega) ?_
      refine d_br (fun h => ?_) (fun h => ?_)
      · simp only [cCmp, cE2, sev, svl, cen, List.cons_append, List.nil_append] at h
        refine d_cut [(nm : Int), (p : Int), (a : Int), ((6 * p + a : Nat) : Int), 0] (by simp [cE2, sev, svl, cen] <;> omega) ?_
        exact s161 0 (Or.inr ⟨rfl, hno⟩)
      · simp only [cCmp, cE2, sev, svl, cen, List.cons_append, List.nil_append] at h
        refine d_br (fun h => ?_) (fun h => ?_)
        · clear h
          refine d_cut [(nm : Int), (p : Int), (a : Int), ((6 * p + a : Nat) : Int), 0] (by simp [cE2, sev, svl, cen] <;> omega) ?_
          exact s161 0 (Or.inr ⟨rfl, hno⟩)
        · simp only [cCmp, cE2, sev, svl, cen, List.cons_append, List.nil_append] at h
          omega
    have loop : vA M (6 * p + a) nm → ∀ (m k : Nat), k + m = sn → (∀ i : Nat, i < k → M 32 0 (8 * (6 * p + a) + i) = 0 ∨ M 32 0 (8 * (6 * p + a) + i) = M 21 0 (8 * nm + i)) → cEnds (cBG tm tf EX l dC dI cA ad scrS (d + N + 3)) Po 90 gX10_doesFit 87 [(nm : Int), (p : Int), (a : Int), ((6 * p + a : Nat) : Int), 1, (k : Int)] M := by
      intro hA m
      induction m with
      | zero =>
        intro k hk hl
        refine cEnds_at gX10_doesFit_m87 rfl ?_
        refine d_row 0 ((6 * p + a)) (by simp only [cE2, sev, svl, cen, List.cons_append, List.nil_append]; omega) (by simp only [cE2, sev, svl, cen, List.cons_append, List.nil_append]; omega) (by omega) ?_
        refine d_br (fun h => ?_) (fun h => ?_)
        · simp only [cCmp, cE2, sev, svl, cen, List.cons_append, List.nil_append] at h
          first
          | omega
          | skip
            refine d_cut [(nm : Int), (p : Int), (a : Int), ((6 * p + a : Nat) : Int), 1] (by simp [cE2, sev, svl, cen] <;> omega) ?_
            exact s161 1 (Or.inl ⟨rfl, hA, fun i hi => hl i (by omega)⟩)
        · simp only [cCmp, cE2, sev, svl, cen, List.cons_append, List.nil_append] at h
          first
          | omega
          | skip
            refine d_br (fun h => ?_) (fun h => ?_)
            · simp only [cCmp, cE2, sev, svl, cen, List.cons_append, List.nil_append] at h
              omega
            · clear h
              refine d_rng (by simp only [clo, chi, cE2, sev, svl, cen, List.cons_append, List.nil_append]; omega) ?_
              refine d_rng (by simp only [clo, chi, cE2, sev, svl, cen, List.cons_append, List.nil_append]; omega) ?_
              refine d_row 0 (8 * (6 * p + a) + k) (by simp only [cE2, sev, svl, cen, List.cons_append, List.nil_append]; omega) (by simp only [cE2, sev, svl, cen, List.cons_append, List.nil_append]; omega) (by omega) ?_
              refine d_br (fun h => ?_) (fun h => ?_)
              · simp only [cCmp, cE2, sev, svl, cen, List.cons_append, List.nil_append] at h
                first
                | omega
                | skip
                  refine d_rng (by simp only [clo, chi, cE2, sev, svl, cen, List.cons_append, List.nil_append]; omega) ?_
                  refine d_cut [(nm : Int), (p : Int), (a : Int), ((6 * p + a : Nat) : Int), 1, ((k : Int) + 1)] (by simp [cE2, sev, svl, cen] <;> omega) ?_
                  exact (by omega)
              · simp only [cCmp, cE2, sev, svl, cen, List.cons_append, List.nil_append] at h
                first
                | omega
                | skip
                  refine d_rng (by simp only [clo, chi, cE2, sev, svl, cen, List.cons_append, List.nil_append]; omega) ?_
                  refine d_rng (by simp only [clo, chi, cE2, sev, svl, cen, List.cons_append, List.nil_append]; omega) ?_
                  refine d_row 0 (8 * (6 * p + a) + k) (by simp only [cE2, sev, svl, cen, List.cons_append, List.nil_append]; omega) (by simp only [cE2, sev, svl, cen, List.cons_append, List.nil_append]; omega) (by omega) ?_
                  refine d_rng (by simp only [clo, chi, cE2, sev, svl, cen, List.cons_append, List.nil_append]; omega) ?_
                  refine d_rng (by simp only [clo, chi, cE2, sev, svl, cen, List.cons_append, List.nil_append]; omega) ?_
                  refine d_row 0 (8 * nm + k) (by simp only [cE2, sev, svl, cen, List.cons_append, List.nil_append]; omega) (by simp only [cE2, sev, svl, cen, List.cons_append, List.nil_append]; omega) (by omega) ?_
                  refine d_br (fun h => ?_) (fun h => ?_)
                  · simp only [cCmp, cE2, sev, svl, cen, List.cons_append, List.nil_append] at h
                    first
                    | omega
                    | skip
                      refine d_rng (by simp only [clo, chi, cE2, sev, svl, cen, List.cons_append, List.nil_append]; omega) ?_
                      refine d_cut [(nm : Int), (p : Int), (a : Int), ((6 * p + a : Nat) : Int), 0, ((k : Int) + 1)] (by simp [cE2, sev, svl, cen] <;> omega) ?_
                      exact (by omega)
                  · simp only [cCmp, cE2, sev, svl, cen, List.cons_append, List.nil_append] at h
                    first
                    | omega
                    | skip
                      refine d_rng (by simp only [clo, chi, cE2, sev, svl, cen, List.cons_append, List.nil_append]; omega) ?_
                      refine d_cut [(nm : Int), (p : Int), (a : Int), ((6 * p + a : Nat) : Int), 1, ((k : Int) + 1)] (by simp [cE2, sev, svl, cen] <;> omega) ?_
                      exact (by omega)
      | succ m ihm =>
        intro k hk hl
        have c1 : k < 8 := by omega
        refine cEnds_at gX10_doesFit_m87 rfl ?_
        refine d_row 0 ((6 * p + a)) (by simp only [cE2, sev, svl, cen, List.cons_append, List.nil_append]; omega) (by simp only [cE2, sev, svl, cen, List.cons_append, List.nil_append]; omega) (by omega) ?_
        refine d_br (fun h => ?_) (fun h => ?_)
        · simp only [cCmp, cE2, sev, svl, cen, List.cons_append, List.nil_append] at h
          first
          | omega
          | skip
            refine d_cut [(nm : Int), (p : Int), (a : Int), ((6 * p + a : Nat) : Int), 1] (by simp [cE2, sev, svl, cen] <;> omega) ?_
            exact (by omega)
        · simp only [cCmp, cE2, sev, svl, cen, List.cons_append, List.nil_append] at h
          first
          | omega
          | skip
            refine d_br (fun h => ?_) (fun h => ?_)
            · simp only [cCmp, cE2, sev, svl, cen, List.cons_append, List.nil_append] at h
              omega
            · clear h
              refine d_rng (by simp only [clo, chi, cE2, sev, svl, cen, List.cons_append, List.nil_append]; omega) ?_
              refine d_rng (by simp only [clo, chi, cE2, sev, svl, cen, List.cons_append, List.nil_append]; omega) ?_
              refine d_row 0 (8 * (6 * p + a) + k) (by simp only [cE2, sev, svl, cen, List.cons_append, List.nil_append]; omega) (by simp only [cE2, sev, svl, cen, List.cons_append, List.nil_append]; omega) (by omega) ?_
              refine d_br (fun h => ?_) (fun h => ?_)
              · simp only [cCmp, cE2, sev, svl, cen, List.cons_append, List.nil_append] at h
                first
                | omega
                | skip
                  refine d_rng (by simp only [clo, chi, cE2, sev, svl, cen, List.cons_append, List.nil_append]; omega) ?_
                  refine d_cut [(nm : Int), (p : Int), (a : Int), ((6 * p + a : Nat) : Int), 1, ((k + 1 : Nat) : Int)] (by simp [cE2, sev, svl, cen] <;> omega) ?_
                  refine ihm (k + 1) (by omega) (fun i hi => ?_)
                  by_cases z : i = k
                  · rw [z]; omega
                  · exact hl i (by omega)
              · simp only [cCmp, cE2, sev, svl, cen, List.cons_append, List.nil_append] at h
                first
                | omega
                | skip
                  refine d_rng (by simp only [clo, chi, cE2, sev, svl, cen, List.cons_append, List.nil_append]; omega) ?_
                  refine d_rng (by simp only [clo, chi, cE2, sev, svl, cen, List.cons_append, List.nil_append]; omega) ?_
                  refine d_row 0 (8 * (6 * p + a) + k) (by simp only [cE2, sev, svl, cen, List.cons_append, List.nil_append]; omega) (by simp only [cE2, sev, svl, cen, List.cons_append, List.nil_append]; omega) (by omega) ?_
                  refine d_rng (by simp only [clo, chi, cE2, sev, svl, cen, List.cons_append, List.nil_append]; omega) ?_
                  refine d_rng (by simp only [clo, chi, cE2, sev, svl, cen, List.cons_append, List.nil_append]; omega) ?_
                  refine d_row 0 (8 * nm + k) (by simp only [cE2, sev, svl, cen, List.cons_append, List.nil_append]; omega) (by simp only [cE2, sev, svl, cen, List.cons_append, List.nil_append]; omega) (by omega) ?_
                  refine d_br (fun h => ?_) (fun h => ?_)
                  · simp only [cCmp, cE2, sev, svl, cen, List.cons_append, List.nil_append] at h
                    first
                    | omega
                    | skip
                      refine d_rng (by simp only [clo, chi, cE2, sev, svl, cen, List.cons_append, List.nil_append]; omega) ?_
                      refine d_cut [(nm : Int), (p : Int), (a : Int), ((6 * p + a : Nat) : Int), 0, ((k + 1 : Nat) : Int)] (by simp [cE2, sev, svl, cen] <;> omega) ?_
                      exact s87n (k + 1) (fun w => by have := w.2 k (by omega); omega)
                  · simp only [cCmp, cE2, sev, svl, cen, List.cons_append, List.nil_append] at h
                    first
                    | omega
                    | skip
                      refine d_rng (by simp only [clo, chi, cE2, sev, svl, cen, List.cons_append, List.nil_append]; omega) ?_
                      refine d_cut [(nm : Int), (p : Int), (a : Int), ((6 * p + a : Nat) : Int), 1, ((k + 1 : Nat) : Int)] (by simp [cE2, sev, svl, cen] <;> omega) ?_
                      refine ihm (k + 1) (by omega) (fun i hi => ?_)
                      by_cases z : i = k
                      · rw [z]; omega
                      · exact hl i (by omega)
    have L1 : cEnds (cBG tm tf EX l dC dI cA ad scrS (d + N + 3)) Po 90 gX10_doesFit 87 [(nm : Int), (p : Int), (a : Int), 6 * (p : Int) + (a : Int), 1, 0] M ↔ cEnds (cBG tm tf EX l dC dI cA ad scrS (d + N + 3)) Po 90 gX10_doesFit 87 [(nm : Int), (p : Int), (a : Int), ((6 * p + a : Nat) : Int), 1, ((0 : Nat) : Int)] M := by
      rw [show ((6 * p + a : Nat) : Int) = 6 * (p : Int) + (a : Int) by omega]
      rfl
    have L0 : cEnds (cBG tm tf EX l dC dI cA ad scrS (d + N + 3)) Po 90 gX10_doesFit 87 [(nm : Int), (p : Int), (a : Int), 6 * (p : Int) + (a : Int), 0, 0] M ↔ cEnds (cBG tm tf EX l dC dI cA ad scrS (d + N + 3)) Po 90 gX10_doesFit 87 [(nm : Int), (p : Int), (a : Int), ((6 * p + a : Nat) : Int), 0, ((0 : Nat) : Int)] M := by
      rw [show ((6 * p + a : Nat) : Int) = 6 * (p : Int) + (a : Int) by omega]
      rfl
    refine cEnds_at gX10_doesFit_m0 rfl ?_
    refine d_rng (by simp only [clo, chi, cE2, sev, svl, cen, List.cons_append, List.nil_append]; omega) ?_
    refine d_rng (by simp only [clo, chi, cE2, sev, svl, cen, List.cons_append, List.nil_append]; omega) ?_
    refine d_row 0 nm (by simp only [cE2, sev, svl, cen, List.cons_append, List.nil_append]; omega) (by simp only [cE2, sev, svl, cen, List.cons_append, List.nil_append]; omega) (by omega) ?_
    refine d_br (fun h => ?_) (fun h => ?_)
    · simp only [cCmp, cE2, sev, svl, cen, List.cons_append, List.nil_append] at h
      first
      | omega
      | skip
        refine d_cut [(nm : Int), (p : Int), (a : Int), (6 * (p : Int) + (a : Int)), 0, 0] (by simp [cE2, sev, svl, cen] <;> omega) ?_
        exact L0.mpr (s87n 0 (fun w => by have := w.1; unfold vA at this; omega))
    · simp only [cCmp, cE2, sev, svl, cen, List.cons_append, List.nil_append] at h
      first
      | omega
      | skip
        refine d_row 0 (6 * p + a) (by simp only [cE2, sev, svl, cen, List.cons_append, List.nil_append]; omega) (by simp only [cE2, sev, svl, cen, List.cons_append, List.nil_append]; omega) (by omega) ?_
        refine d_br (fun h => ?_) (fun h => ?_)
        · simp only [cCmp, cE2, sev, svl, cen, List.cons_append, List.nil_append] at h
          first
          | omega
          | skip
            refine d_row 0 (6 * p + a) (by simp only [cE2, sev, svl, cen, List.cons_append, List.nil_append]; omega) (by simp only [cE2, sev, svl, cen, List.cons_append, List.nil_append]; omega) (by omega) ?_
            rw [hsn]
            refine d_br (fun h => ?_) (fun h => ?_)
            · simp only [cCmp, cE2, sev, svl, cen, List.cons_append, List.nil_append] at h
              first
              | omega
              | skip
                refine d_cut [(nm : Int), (p : Int), (a : Int), (6 * (p : Int) + (a : Int)), 1, 0] (by simp [cE2, sev, svl, cen] <;> omega) ?_
                exact L1.mpr (loop (by unfold vA; omega) sn 0 (by omega) (fun i hi => by omega))
            · simp only [cCmp, cE2, sev, svl, cen, List.cons_append, List.nil_append] at h
              first
              | omega
              | skip
                refine d_row 0 (6 * p + a) (by simp only [cE2, sev, svl, cen, List.cons_append, List.nil_append]; omega) (by simp only [cE2, sev, svl, cen, List.cons_append, List.nil_append]; omega) (by omega) ?_
                rw [hsn]
                refine d_row 0 nm (by simp only [cE2, sev, svl, cen, List.cons_append, List.nil_append]; omega) (by simp only [cE2, sev, svl, cen, List.cons_append, List.nil_append]; omega) (by omega) ?_
                refine d_br (fun h => ?_) (fun h => ?_)
                · simp only [cCmp, cE2, sev, svl, cen, List.cons_append, List.nil_append] at h
                  first
                  | omega
                  | skip
                    refine d_cut [(nm : Int), (p : Int), (a : Int), (6 * (p : Int) + (a : Int)), 0, 0] (by simp [cE2, sev, svl, cen] <;> omega) ?_
                    exact L0.mpr (s87n 0 (fun w => by have := w.1; unfold vA at this; omega))
                · simp only [cCmp, cE2, sev, svl, cen, List.cons_append, List.nil_append] at h
                  first
                  | omega
                  | skip
                    refine d_cut [(nm : Int), (p : Int), (a : Int), (6 * (p : Int) + (a : Int)), 1, 0] (by simp [cE2, sev, svl, cen] <;> omega) ?_
                    exact L1.mpr (loop (by unfold vA; omega) sn 0 (by omega) (fun i hi => by omega))
        · simp only [cCmp, cE2, sev, svl, cen, List.cons_append, List.nil_append] at h
          first
          | omega
          | skip
            refine d_row 0 (6 * p + a) (by simp only [cE2, sev, svl, cen, List.cons_append, List.nil_append]; omega) (by simp only [cE2, sev, svl, cen, List.cons_append, List.nil_append]; omega) (by omega) ?_
            refine d_br (fun h => ?_) (fun h => ?_)
            · simp only [cCmp, cE2, sev, svl, cen, List.cons_append, List.nil_append] at h
              first
              | omega
              | skip
                refine d_cut [(nm : Int), (p : Int), (a : Int), (6 * (p : Int) + (a : Int)), 0, 0] (by simp [cE2, sev, svl, cen] <;> omega) ?_
                exact L0.mpr (s87n 0 (fun w => by have := w.1; unfold vA at this; omega))
            · simp only [cCmp, cE2, sev, svl, cen, List.cons_append, List.nil_append] at h
              first
              | omega
              | skip
                refine d_row 0 (6 * p + a) (by simp only [cE2, sev, svl, cen, List.cons_append, List.nil_append]; omega) (by simp only [cE2, sev, svl, cen, List.cons_append, List.nil_append]; omega) (by omega) ?_
                rw [hsn]
                refine d_br (fun h => ?_) (fun h => ?_)
                · simp only [cCmp, cE2, sev, svl, cen, List.cons_append, List.nil_append] at h
                  first
                  | omega
                  | skip
                    refine d_cut [(nm : Int), (p : Int), (a : Int), (6 * (p : Int) + (a : Int)), 1, 0] (by simp [cE2, sev, svl, cen] <;> omega) ?_
                    exact L1.mpr (loop (by unfold vA; omega) sn 0 (by omega) (fun i hi => by omega))
                · simp only [cCmp, cE2, sev, svl, cen, List.cons_append, List.nil_append] at h
                  first
                  | omega
                  | skip
                    refine d_row 0 (6 * p + a) (by simp only [cE2, sev, svl, cen, List.cons_append, List.nil_append]; omega) (by simp only [cE2, sev, svl, cen, List.cons_append, List.nil_append]; omega) (by omega) ?_
                    rw [hsn]
                    refine d_row 0 nm (by simp only [cE2, sev, svl, cen, List.cons_append, List.nil_append]; omega) (by simp only [cE2, sev, svl, cen, List.cons_append, List.nil_append]; omega) (by omega) ?_
                    refine d_br (fun h => ?_) (fun h => ?_)
                    · simp only [cCmp, cE2, sev, svl, cen, List.cons_append, List.nil_append] at h
                      first
                      | omega
                      | skip
                        refine d_cut [(nm : Int), (p : Int), (a : Int), (6 * (p : Int) + (a : Int)), 0, 0] (by simp [cE2, sev, svl, cen] <;> omega) ?_
                        exact L0.mpr (s87n 0 (fun w => by have := w.1; unfold vA at this; omega))
                    · simp only [cCmp, cE2, sev, svl, cen, List.cons_append, List.nil_append] at h
                      first
                      | omega
                      | skip
                        refine d_cut [(nm : Int), (p : Int), (a : Int), (6 * (p : Int) + (a : Int)), 1, 0] (by simp [cE2, sev, svl, cen] <;> omega) ?_
                        exact L1.mpr (loop (by unfold vA; omega) sn 0 (by omega) (fun i hi => by omega))
theorem m_fits (hp : cPl tm tc tf EX) {a b : Int} {M : SMem} (hI : sI tg M) (hX : sX M) : cBG tm tf EX l dC dI cA ad scrS (d + 7) kX10_fits [(2, 1, 0), (0, 0, a), (0, 0, b)] M (fun rr MM => MM = supd M 1 0 0 0 ∧ ∃ r : Int, rr = [r] ∧ ((¬ (0 ≤ a ∧ a < 12 ∧ M 22 0 a.toNat ≠ 0 ∧ 0 ≤ b ∧ b < M 27 0 a.toNat ∧ (M 29 0 (6 * a.toNat + b.toNat) = 0 ∨ M 29 0 (6 * a.toNat + b.toNat) = 3 ∨ M 29 0 (6 * a.toNat + b.toNat) = 4)) ∧ r = -1) ∨ ((0 ≤ a ∧ a < 12 ∧ M 22 0 a.toNat ≠ 0 ∧ 0 ≤ b ∧ b < M 27 0 a.toNat ∧ (M 29 0 (6 * a.toNat + b.toNat) = 0 ∨ M 29 0 (6 * a.toNat + b.toNat) = 3 ∨ M 29 0 (6 * a.toNat + b.toNat) = 4)) ∧ r = wBt (wDc (fun nm => vFt M a.toNat nm b.toNat)) 8))) := by
  refine cMeth (v := [a, b]) (Fd := 90) hp (by decide) gX10_fits_ok gX10_fits_m0 (by simp [cAs, cE2, sev, svl, cen]) ?_
  have i1 : sI tg (supd M 1 0 0 0) := wI (lo := 0) (hi := 1) hI rfl ⟨by omega, by omega⟩
  have r1 : ∀ f, f ≠ 1 → supd M 1 0 0 0 f = M f := fun f q => supd_ff q
  have hX1 : sX (supd M 1 0 0 0) := sX_congr (r1 29 (by decide)) (r1 27 (by decide)) (r1 50 (by decide)) hX
  have eF : ∀ p nm a, vFt (supd M 1 0 0 0) p nm a ↔ vFt M p nm a := fun p nm a => vFt_cg (fun f hf => r1 f hf) a
  have e22 := congrFun (congrFun (r1 22 (by decide)) 0) a.toNat
  have e27 := congrFun (congrFun (r1 27 (by decide)) 0) a.toNat
  have e29 := congrFun (congrFun (r1 29 (by decide)) 0) (6 * a.toNat + b.toNat)
  have b6 := wIb (f := 27) (i := a.toNat) (lo := 0) (hi := 6) hI 0 rfl
  have x29 := hX.1 (6 * a.toNat + b.toNat)
  have x27 := hX.2.1 a.toNat b.toNat
  have hod0 : (0 ≤ a ∧ a < 12 ∧ M 22 0 a.toNat ≠ 0 ∧ 0 ≤ b ∧ b < M 27 0 a.toNat ∧ (M 29 0 (6 * a.toNat + b.toNat) = 0 ∨ M 29 0 (6 * a.toNat + b.toNat) = 3 ∨ M 29 0 (6 * a.toNat + b.toNat) = 4)) → b.toNat % 2 = 0 := by
    intro hq
    unfold sD1 at x29
    rcases Nat.lt_or_ge b.toNat 1 with z | z
    · omega
    · have := x27 z (by omega) (by omega)
      omega
  suffices H : ∀ Po : List Int → SMem → Prop, (∀ rr MM, (MM = supd M 1 0 0 0 ∧ ∃ r : Int, rr = [r] ∧ ((¬ (0 ≤ a ∧ a < 12 ∧ M 22 0 a.toNat ≠ 0 ∧ 0 ≤ b ∧ b < M 27 0 a.toNat ∧ (M 29 0 (6 * a.toNat + b.toNat) = 0 ∨ M 29 0 (6 * a.toNat + b.toNat) = 3 ∨ M 29 0 (6 * a.toNat + b.toNat) = 4)) ∧ r = -1) ∨ ((0 ≤ a ∧ a < 12 ∧ M 22 0 a.toNat ≠ 0 ∧ 0 ≤ b ∧ b < M 27 0 a.toNat ∧ (M 29 0 (6 * a.toNat + b.toNat) = 0 ∨ M 29 0 (6 * a.toNat + b.toNat) = 3 ∨ M 29 0 (6 * a.toNat + b.toNat) = 4)) ∧ r = wBt (wDc (fun nm => vFt M a.toNat nm b.toNat)) 8))) → Po rr MM) → cEnds (cBG tm tf EX l dC dI cA ad scrS (d + 6)) Po 90 gX10_fits 0 [a, b] M from H _ (fun _ _ h => h)
  intro Po hPo
  generalize hb : wDc (fun nm => vFt M a.toNat nm b.toNat) = bb at hPo
  generalize hM1 : supd M 1 0 0 0 = M1 at i1 r1 hX1 eF e22 e27 e29 hPo
  have loop : (0 ≤ a ∧ a < 12 ∧ M 22 0 a.toNat ≠ 0 ∧ 0 ≤ b ∧ b < M 27 0 a.toNat ∧ (M 29 0 (6 * a.toNat + b.toNat) = 0 ∨ M 29 0 (6 * a.toNat + b.toNat) = 3 ∨ M 29 0 (6 * a.toNat + b.toNat) = 4)) → b.toNat % 2 = 0 → b.toNat < 6 → ∀ (m k : Nat), k + m = 8 → cEnds (cBG tm tf EX l dC dI cA ad scrS (d + 6)) Po 90 gX10_fits 21 [a, b, wBt bb k, (k : Int)] M1 := by
    intro hN he h6 m
    induction m with
    | zero =>
      intro k hk
      have br := wBt_r bb k
      refine cEnds_at gX10_fits_m21 rfl ?_
      refine d_br (fun h => ?_) (fun h => ?_)
      · exact wret1 (wBt bb k) (by simp only [cE2, sev, svl, cen, List.cons_append, List.nil_append]; omega) br (hPo _ _ ⟨rfl, _, rfl, Or.inr ⟨hN, by rw [show k = 8 by omega]⟩⟩)
      · simp only [cCmp, cE2, sev, svl, cen, List.cons_append, List.nil_append] at h
        omega
    | succ m ih =>
      intro k hk
      have br := wBt_r bb k
      refine cEnds_at gX10_fits_m21 rfl ?_
      refine d_br (fun h => ?_) (fun h => ?_)
      · simp only [cCmp, cE2, sev, svl, cen, List.cons_append, List.nil_append] at h
        first
        | omega
        | skip
          exact wret1 (wBt bb k) (by simp only [cE2, sev, svl, cen, List.cons_append, List.nil_append]; omega) (by omega) (hPo _ _ (by omega))
      · simp only [cCmp, cE2, sev, svl, cen, List.cons_append, List.nil_append] at h
        first
        | omega
        | skip
          refine d_call (m_doesFit (d := d) hp (M := M1) i1 hX1 (nm := k) (p := a.toNat) (by omega) (by omega) 3 b.toNat (by omega) he h6) (by simp [cAs, cE2, sev, svl, cen] <;> omega) ?_
          intro rr M' hq
          obtain ⟨hM', hq⟩ := hq
          rw [hM']
          rcases hq with ⟨rfl, q4⟩ | ⟨rfl, q4⟩
          · refine ⟨rfl, ?_⟩
            refine d_br (fun h => ?_) (fun h => ?_)
            · simp only [cCmp, cE2, sev, svl, cen, List.cons_append, List.nil_append] at h
              omega
            · clear h
              refine d_opw 1 (k : Int) (by simp [cE2, sev, svl, cen] <;> omega) (by simp [cE2, sev, svl, cen] <;> omega) ?_
              refine d_opw (wBt bb k) (cfn 2 1 (k : Int)) (by simp [cE2, sev, svl, cen] <;> omega) (by simp [cE2, sev, svl, cen] <;> omega) ?_
              refine d_rng (by simp only [clo, chi, cE2, sev, svl, cen, List.cons_append, List.nil_append]; omega) ?_
              have e : bb k = true := by rw [← hb]; exact wDc_y ((eF _ _ _).mp q4)
              rw [← wBt_y e]
              refine d_cut [a, b, wBt bb (k + 1), ((k + 1 : Nat) : Int)] (by simp [cE2, sev, svl, cen] <;> omega) ?_
              exact ih (k + 1) (by omega)
          · refine ⟨rfl, ?_⟩
            refine d_br (fun h => ?_) (fun h => ?_)
            · clear h
              refine d_opw (wBt bb k) 0 (by simp [cE2, sev, svl, cen] <;> omega) (by simp [cE2, sev, svl, cen] <;> omega) ?_
              refine d_rng (by simp only [clo, chi, cE2, sev, svl, cen, List.cons_append, List.nil_append]; omega) ?_
              have e : bb k = false := by rw [← hb]; exact wDc_n (fun w => q4 ((eF _ _ _).mpr w))
              rw [cfn1_0 br, ← wBt_n e]
              refine d_cut [a, b, wBt bb (k + 1), ((k + 1 : Nat) : Int)] (by simp [cE2, sev, svl, cen] <;> omega) ?_
              exact ih (k + 1) (by omega)
            · simp only [cCmp, cE2, sev, svl, cen, List.cons_append, List.nil_append] at h
              omega
  refine cEnds_at gX10_fits_m0 rfl ?_
  refine d_put 0 0 (by simp only [cE2, sev, svl, cen, List.cons_append, List.nil_append]; omega) (by simp only [cE2, sev, svl, cen, List.cons_append, List.nil_append]; omega) ?_
  rw [hM1]
  refine d_call (m_isNaming hp (a := a) (b := b) i1) (by simp [cAs, cE2, sev, svl, cen] <;> omega) ?_
  intro rr M' hq
  obtain ⟨hM', hq⟩ := hq
  rw [hM']
  rcases hq with ⟨rfl, q2⟩ | ⟨rfl, q2⟩
  · refine ⟨rfl, ?_⟩
    refine d_br (fun h => ?_) (fun h => ?_)
    · clear h
      have hod := hod0 (by omega)
      refine d_cut [a, b, wBt bb 0, ((0 : Nat) : Int)] (by simp [cE2, sev, svl, cen, wBt]) ?_
      exact loop (by omega) hod (by omega) 8 0 (by omega)
    · simp only [cCmp, cE2, sev, svl, cen, List.cons_append, List.nil_append] at h
      omega
  · refine ⟨rfl, ?_⟩
    refine d_br (fun h => ?_) (fun h => ?_)
    · simp only [cCmp, cE2, sev, svl, cen, List.cons_append, List.nil_append] at h
      omega
    · clear h
      exact d_ret [(-1)] rfl (by decide) (hPo _ _ ⟨rfl, -1, rfl, Or.inl ⟨by omega, rfl⟩⟩)
theorem b_fits (hp : cPl tm tc tf EX) {a b : Int} {M : SMem} (hI : sI tg M) : cBG tm tf EX l dC dI cA ad scrS (d + 5) kX9_fits [(2, 0, 0), (0, 0, a), (0, 0, b)] M (fun rr MM => MM = M ∧ ∃ r : Int, rr = [r] ∧ ((¬ (0 ≤ a ∧ a < 12 ∧ M 64 a.toNat 0 ≠ 0 ∧ 0 ≤ b ∧ b < M 64 a.toNat 5 ∧ ¬ (M 92 a.toNat b.toNat = 1 ∨ M 92 a.toNat b.toNat = 2)) ∧ r = -1) ∨ ((0 ≤ a ∧ a < 12 ∧ M 64 a.toNat 0 ≠ 0 ∧ 0 ≤ b ∧ b < M 64 a.toNat 5 ∧ ¬ (M 92 a.toNat b.toNat = 1 ∨ M 92 a.toNat b.toNat = 2)) ∧ r = wBt (wDc (fun nm => M 58 0 nm ≠ 0 ∧ wFt M a.toNat nm b.toNat 0 b.toNat)) 8))) := by
  have b6 := wIb (f := 64) (i := 5) (lo := 0) (hi := 6) hI a.toNat rfl
  have br := wBt_r (wDc (fun nm => M 58 0 nm ≠ 0 ∧ wFt M a.toNat nm b.toNat 0 b.toNat)) 8
  refine cMeth (v := [a, b]) (Fd := 90) hp (by decide) gX9_fits_ok gX9_fits_m0 (by simp [cAs, cE2, sev, svl, cen]) ?_
  refine cEnds_at gX9_fits_m0 rfl ?_
  refine d_call (b_isNameCut hp (a := a) (b := b) hI) (by simp [cAs, cE2, sev, svl, cen] <;> omega) ?_
  intro rr M' hq
  obtain ⟨hM', hq⟩ := hq
  rw [hM']
  rcases hq with ⟨rfl, q2⟩ | ⟨rfl, q2⟩
  · refine ⟨rfl, ?_⟩
    refine d_br (fun h => ?_) (fun h => ?_)
    · simp only [cCmp, cE2, sev, svl, cen, List.cons_append, List.nil_append] at h
      omega
    · clear h
      refine d_idx (by simp only [cE2, sev, svl, cen, List.cons_append, List.nil_append]; omega) ?_
      refine d_call (b_fitting hp (p := a.toNat) (ly := b.toNat) (bare := 0) hI (by omega)) (by simp [cAs, cE2, sev, svl, cen] <;> omega) ?_
      intro rr M' hq
      obtain ⟨hM', rfl⟩ := hq
      rw [hM']
      refine ⟨rfl, ?_⟩
      exact wret1 (wBt (wDc (fun nm => M 58 0 nm ≠ 0 ∧ wFt M a.toNat nm b.toNat 0 b.toNat)) 8) (by simp only [cE2, sev, svl, cen, List.cons_append, List.nil_append]; omega) (by omega) ⟨rfl, _, rfl, Or.inr ⟨by omega, rfl⟩⟩
  · refine ⟨rfl, ?_⟩
    refine d_br (fun h => ?_) (fun h => ?_)
    · clear h
      exact d_ret [(-1)] rfl (by decide) ⟨rfl, -1, rfl, Or.inl ⟨by omega, rfl⟩⟩
    · simp only [cCmp, cE2, sev, svl, cen, List.cons_append, List.nil_append] at h
      omega
end CWG
