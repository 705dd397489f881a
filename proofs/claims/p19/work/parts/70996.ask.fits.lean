/-! what the methods do: fits -/
def wHT (M : SMem) (p ly nm : Nat) : Prop := M 94 p ly = 0 ∨ (M 94 p ly = M 61 0 nm ∧ ∀ k : Nat, (k : Int) < M 94 p ly → M 95 p (8 * ly + k) = 46 ∨ M 95 p (8 * ly + k) = M 63 0 (8 * nm + k))
def wFF (M : SMem) (p nm : Nat) : Prop := (M 64 p 4 = 0 ∨ (M 64 p 4 = 2 ∧ M 59 0 nm = 1) ∨ (M 64 p 4 ≠ 2 ∧ M 59 0 nm = 0)) ∧ M 62 0 nm ≤ M 64 p 1 ∧ M 64 p 1 - 4 ≤ M 62 0 nm
def wOk (M : SMem) (p nm ly : Nat) (bare : Int) (a : Nat) : Prop := (M 93 p a = -1 ∨ M 93 p a = (nm : Int)) ∧ ((bare ≠ 0 ∧ a = ly) ∨ wHT M p a nm)
def wFt (M : SMem) (p nm ly : Nat) (bare : Int) : Nat → Prop
  | 0 => wOk M p nm ly bare 0 ∧ ((M 92 p 0 = 0 ∧ wFF M p nm) ∨ (M 92 p 0 = 3 ∧ M 62 0 nm ≤ M 64 p 1 + 2))
  | 1 => wOk M p nm ly bare 1 ∧ ((M 92 p 1 = 0 ∧ wFF M p nm) ∨ (M 92 p 1 = 3 ∧ M 62 0 nm ≤ M 64 p 1 + 2))
  | k + 2 => wOk M p nm ly bare (k + 2) ∧ ((M 92 p (k + 2) = 0 ∧ wFF M p nm) ∨ (M 92 p (k + 2) = 3 ∧ M 62 0 nm ≤ M 64 p 1 + 2) ∨ (M 92 p (k + 2) ≠ 0 ∧ M 92 p (k + 2) ≠ 3 ∧ wFt M p nm ly bare k))
theorem wFt_iff {M : SMem} {p nm ly : Nat} {bare : Int} : ∀ a, wFt M p nm ly bare a ↔ (wOk M p nm ly bare a ∧ ((M 92 p a = 0 ∧ wFF M p nm) ∨ (M 92 p a = 3 ∧ M 62 0 nm ≤ M 64 p 1 + 2) ∨ (M 92 p a ≠ 0 ∧ M 92 p a ≠ 3 ∧ 2 ≤ a ∧ wFt M p nm ly bare (a - 2))))
  | 0 => ⟨fun h => ⟨h.1, h.2.elim Or.inl (fun q => Or.inr (Or.inl q))⟩, fun h => ⟨h.1, h.2.elim Or.inl (fun q => q.elim Or.inr (fun q => absurd q.2.2.1 (by omega)))⟩⟩
  | 1 => ⟨fun h => ⟨h.1, h.2.elim Or.inl (fun q => Or.inr (Or.inl q))⟩, fun h => ⟨h.1, h.2.elim Or.inl (fun q => q.elim Or.inr (fun q => absurd q.2.2.1 (by omega)))⟩⟩
  | k + 2 => ⟨fun h => ⟨h.1, h.2.elim Or.inl (fun q => q.elim (fun q => Or.inr (Or.inl q)) (fun q => Or.inr (Or.inr ⟨q.1, q.2.1, by omega, q.2.2⟩)))⟩, fun h => ⟨h.1, h.2.elim Or.inl (fun q => q.elim (fun q => Or.inr (Or.inl q)) (fun q => Or.inr (Or.inr ⟨q.1, q.2.1, q.2.2.2⟩)))⟩⟩
/-- bits of what holds -/
noncomputable def wDc (P : Nat → Prop) (i : Nat) : Bool := @decide (P i) (Classical.propDecidable (P i))
theorem wDc_y {P : Nat → Prop} {i : Nat} (h : P i) : wDc P i = true := @decide_eq_true _ (Classical.propDecidable (P i)) h
theorem wDc_n {P : Nat → Prop} {i : Nat} (h : ¬ P i) : wDc P i = false := @decide_eq_false _ (Classical.propDecidable (P i)) h
def wBt (b : Nat → Bool) : Nat → Int
  | 0 => 0
  | k + 1 => cond (b k) (cfn 1 (wBt b k) (cfn 2 1 (k : Int))) (wBt b k)
theorem wBt_y {b : Nat → Bool} {k : Nat} (h : b k = true) : wBt b (k + 1) = cfn 1 (wBt b k) (cfn 2 1 (k : Int)) := by
  show cond (b k) _ _ = _
  rw [h, cond_true]
theorem wBt_n {b : Nat → Bool} {k : Nat} (h : b k = false) : wBt b (k + 1) = wBt b k := by
  show cond (b k) _ _ = _
  rw [h, cond_false]
theorem i32r (x : Int32) : -2147483648 ≤ x.toInt ∧ x.toInt ≤ 2147483647 := by
  have h1 := Int32.le_toInt x
  have h2 := Int32.toInt_lt x
  constructor <;> omega
theorem wBt_r (b : Nat → Bool) : ∀ k, -2147483648 ≤ wBt b k ∧ wBt b k ≤ 2147483647 := by
  intro k
  induction k with
  | zero => exact ⟨show (-2147483648 : Int) ≤ 0 by decide, show (0 : Int) ≤ 2147483647 by decide⟩
  | succ k ih =>
    cases h : b k with
    | true =>
      rw [wBt_y h]
      exact i32r _
    | false => rw [wBt_n h]; exact ih
theorem cfn1_0 {x : Int} (h : -2147483648 ≤ x ∧ x ≤ 2147483647) : cfn 1 x 0 = x := by
  show (Int32.ofInt x ||| Int32.ofInt 0).toInt = x
  rw [show Int32.ofInt 0 = 0 from rfl, Int32.or_zero, Int32.toInt_ofInt_of_le (by omega) (by omega)]
theorem wBt_cg {b c : Nat → Bool} : ∀ k, (∀ i, i < k → b i = c i) → wBt b k = wBt c k := by
  intro k
  induction k with
  | zero => intro _; rfl
  | succ k ih =>
    intro h
    have e := ih (fun i hi => h i (by omega))
    show cond (b k) _ _ = cond (c k) _ _
    rw [e, h k (by omega)]
section CWF
variable {EX : SEx} {l : Launch} {dC : Nat → ClassId} {dI : Nat → Nat → Nat} {cA : Nat → ClassId} {ad : SAd} {scrS d : Nat}
theorem b_hasTraces (hp : cPl tm tc tf EX) {nm p ly : Nat} {M : SMem} (hI : sI tg M) (hn : nm < 8) (hl : ly < 6) : cBG tm tf EX l dC dI cA ad scrS (d + 1) kX2_hasTraces [(2, 4, 0), (0, 0, (nm : Int)), (2, 64, (p : Int)), (0, 0, (ly : Int))] M (fun rr MM => MM = M ∧ ((rr = [1] ∧ (wHT M p ly nm)) ∨ (rr = [0] ∧ ¬ (wHT M p ly nm)))) := by
  refine cMeth (v := [(nm : Int), (p : Int), (ly : Int)]) (Fd := 90) hp (by decide) gX2_hasTraces_ok gX2_hasTraces_m0 (by simp [cAs, cE2, sev, svl, cen]) ?_
  have b1 := wIb (f := 94) (i := ly) (lo := 0) (hi := 8) hI p rfl
  obtain ⟨sn, hsn⟩ : ∃ sn : Nat, M 94 p ly = (sn : Int) := ⟨(M 94 p ly).toNat, by omega⟩
  have loop : ∀ (m k : Nat), k + m = sn → sn ≠ 0 → M 61 0 nm = (sn : Int) → (∀ i : Nat, i < k → M 95 p (8 * ly + i) = 46 ∨ M 95 p (8 * ly + i) = M 63 0 (8 * nm + i)) → cEnds (cBG tm tf EX l dC dI cA ad scrS d) (fun rr MM => MM = M ∧ ((rr = [1] ∧ (wHT M p ly nm)) ∨ (rr = [0] ∧ ¬ (wHT M p ly nm)))) 90 gX2_hasTraces 31 [(nm : Int), (p : Int), (ly : Int), (sn : Int), (k : Int)] M := by
    intro m
    induction m with
    | zero =>
      intro k hk h0 h61 hl2
      refine cEnds_at gX2_hasTraces_m31 rfl ?_
      refine d_br (fun h => ?_) (fun h => ?_)
      · simp only [cCmp, cE2, sev, svl, cen, List.cons_append, List.nil_append] at h
        first
        | omega
        | skip
          exact d_ret [1] rfl (by decide) ⟨rfl, Or.inl ⟨rfl, Or.inr ⟨by omega, fun i hi => hl2 i (by omega)⟩⟩⟩
      · simp only [cCmp, cE2, sev, svl, cen, List.cons_append, List.nil_append] at h
        first
        | omega
        | skip
          refine d_rng (by simp only [clo, chi, cE2, sev, svl, cen, List.cons_append, List.nil_append]; omega) ?_
          refine d_rng (by simp only [clo, chi, cE2, sev, svl, cen, List.cons_append, List.nil_append]; omega) ?_
          refine d_row p (8 * ly + k) (by simp only [cE2, sev, svl, cen, List.cons_append, List.nil_append]; omega) (by simp only [cE2, sev, svl, cen, List.cons_append, List.nil_append]; omega) (by omega) ?_
          refine d_br (fun h => ?_) (fun h => ?_)
          · simp only [cCmp, cE2, sev, svl, cen, List.cons_append, List.nil_append] at h
            first
            | omega
            | skip
              refine d_rng (by simp only [clo, chi, cE2, sev, svl, cen, List.cons_append, List.nil_append]; omega) ?_
              refine d_cut [(nm : Int), (p : Int), (ly : Int), (sn : Int), ((k : Int) + 1)] (by simp [cE2, sev, svl, cen] <;> omega) ?_
              exact (by omega)
          · simp only [cCmp, cE2, sev, svl, cen, List.cons_append, List.nil_append] at h
            first
            | omega
            | skip
              refine d_rng (by simp only [clo, chi, cE2, sev, svl, cen, List.cons_append, List.nil_append]; omega) ?_
              refine d_rng (by simp only [clo, chi, cE2, sev, svl, cen, List.cons_append, List.nil_append]; omega) ?_
              refine d_row 0 (8 * nm + k) (by simp only [cE2, sev, svl, cen, List.cons_append, List.nil_append]; omega) (by simp only [cE2, sev, svl, cen, List.cons_append, List.nil_append]; omega) (by omega) ?_
              refine d_br (fun h => ?_) (fun h => ?_)
              · simp only [cCmp, cE2, sev, svl, cen, List.cons_append, List.nil_append] at h
                first
                | omega
                | skip
                  refine d_rng (by simp only [clo, chi, cE2, sev, svl, cen, List.cons_append, List.nil_append]; omega) ?_
                  refine d_cut [(nm : Int), (p : Int), (ly : Int), (sn : Int), ((k : Int) + 1)] (by simp [cE2, sev, svl, cen] <;> omega) ?_
                  exact (by omega)
              · simp only [cCmp, cE2, sev, svl, cen, List.cons_append, List.nil_append] at h
                first
                | omega
                | skip
                  exact d_ret [0] rfl (by decide) (by omega)
    | succ m ih =>
      intro k hk h0 h61 hl2
      refine cEnds_at gX2_hasTraces_m31 rfl ?_
      refine d_br (fun h => ?_) (fun h => ?_)
      · simp only [cCmp, cE2, sev, svl, cen, List.cons_append, List.nil_append] at h
        first
        | omega
        | skip
          exact d_ret [1] rfl (by decide) (by omega)
      · simp only [cCmp, cE2, sev, svl, cen, List.cons_append, List.nil_append] at h
        first
        | omega
        | skip
          refine d_rng (by simp only [clo, chi, cE2, sev, svl, cen, List.cons_append, List.nil_append]; omega) ?_
          refine d_rng (by simp only [clo, chi, cE2, sev, svl, cen, List.cons_append, List.nil_append]; omega) ?_
          refine d_row p (8 * ly + k) (by simp only [cE2, sev, svl, cen, List.cons_append, List.nil_append]; omega) (by simp only [cE2, sev, svl, cen, List.cons_append, List.nil_append]; omega) (by omega) ?_
          refine d_br (fun h => ?_) (fun h => ?_)
          · simp only [cCmp, cE2, sev, svl, cen, List.cons_append, List.nil_append] at h
            first
            | omega
            | skip
              refine d_rng (by simp only [clo, chi, cE2, sev, svl, cen, List.cons_append, List.nil_append]; omega) ?_
              refine d_cut [(nm : Int), (p : Int), (ly : Int), (sn : Int), ((k + 1 : Nat) : Int)] (by simp [cE2, sev, svl, cen] <;> omega) ?_
              refine ih (k + 1) (by omega) h0 h61 (fun i hi => ?_)
              by_cases z : i = k
              · rw [z]; omega
              · exact hl2 i (by omega)
          · simp only [cCmp, cE2, sev, svl, cen, List.cons_append, List.nil_append] at h
            first
            | omega
            | skip
              refine d_rng (by simp only [clo, chi, cE2, sev, svl, cen, List.cons_append, List.nil_append]; omega) ?_
              refine d_rng (by simp only [clo, chi, cE2, sev, svl, cen, List.cons_append, List.nil_append]; omega) ?_
              refine d_row 0 (8 * nm + k) (by simp only [cE2, sev, svl, cen, List.cons_append, List.nil_append]; omega) (by simp only [cE2, sev, svl, cen, List.cons_append, List.nil_append]; omega) (by omega) ?_
              refine d_br (fun h => ?_) (fun h => ?_)
              · simp only [cCmp, cE2, sev, svl, cen, List.cons_append, List.nil_append] at h
                first
                | omega
                | skip
                  refine d_rng (by simp only [clo, chi, cE2, sev, svl, cen, List.cons_append, List.nil_append]; omega) ?_
                  refine d_cut [(nm : Int), (p : Int), (ly : Int), (sn : Int), ((k + 1 : Nat) : Int)] (by simp [cE2, sev, svl, cen] <;> omega) ?_
                  refine ih (k + 1) (by omega) h0 h61 (fun i hi => ?_)
                  by_cases z : i = k
                  · rw [z]; omega
                  · exact hl2 i (by omega)
              · simp only [cCmp, cE2, sev, svl, cen, List.cons_append, List.nil_append] at h
                first
                | omega
                | skip
                  exact d_ret [0] rfl (by decide) ⟨rfl, Or.inr ⟨rfl, fun w => w.elim (fun w => by omega) (fun w => by have := w.2 k (by omega); omega)⟩⟩
  refine cEnds_at gX2_hasTraces_m0 rfl ?_
  refine d_row p ly (by simp only [cE2, sev, svl, cen, List.cons_append, List.nil_append]; omega) (by simp only [cE2, sev, svl, cen, List.cons_append, List.nil_append]; omega) (by omega) ?_
  rw [hsn]
  refine d_br (fun h => ?_) (fun h => ?_)
  · simp only [cCmp, cE2, sev, svl, cen, List.cons_append, List.nil_append] at h
    first
    | omega
    | skip
      refine d_row 0 nm (by simp only [cE2, sev, svl, cen, List.cons_append, List.nil_append]; omega) (by simp only [cE2, sev, svl, cen, List.cons_append, List.nil_append]; omega) (by omega) ?_
      refine d_br (fun h => ?_) (fun h => ?_)
      · simp only [cCmp, cE2, sev, svl, cen, List.cons_append, List.nil_append] at h
        first
        | omega
        | skip
          refine d_cut [(nm : Int), (p : Int), (ly : Int), (sn : Int), ((0 : Nat) : Int)] (by simp [cE2, sev, svl, cen] <;> omega) ?_
          exact loop sn 0 (by omega) (by omega) (by omega) (fun i hi => by omega)
      · simp only [cCmp, cE2, sev, svl, cen, List.cons_append, List.nil_append] at h
        first
        | omega
        | skip
          exact d_ret [0] rfl (by decide) ⟨rfl, Or.inr ⟨rfl, fun w => w.elim (fun w => by omega) (fun w => by have := w.1; omega)⟩⟩
  · simp only [cCmp, cE2, sev, svl, cen, List.cons_append, List.nil_append] at h
    first
    | omega
    | skip
      exact d_ret [1] rfl (by decide) ⟨rfl, Or.inl ⟨rfl, Or.inl (by omega)⟩⟩
theorem b_isFirstFitting (hp : cPl tm tc tf EX) {nm p : Nat} {M : SMem} (hI : sI tg M) (hn : nm < 8) : cBG tm tf EX l dC dI cA ad scrS (d + 1) kX2_isFirstFitting [(2, 4, 0), (0, 0, (nm : Int)), (2, 64, (p : Int))] M (fun rr MM => MM = M ∧ ((rr = [1] ∧ (wFF M p nm)) ∨ (rr = [0] ∧ ¬ (wFF M p nm)))) := by
  have b1 := wIb (f := 64) (i := 1) (lo := 0) (hi := 24) hI p rfl
  have b2 := wIb (f := 59) (i := nm) (lo := 0) (hi := 1) hI 0 rfl
  unfold wFF
  refine cMeth (v := [(nm : Int), (p : Int)]) (Fd := 90) hp (by decide) gX2_isFirstFitting_ok gX2_isFirstFitting_m0 (by simp [cAs, cE2, sev, svl, cen]) ?_
  refine cEnds_at gX2_isFirstFitting_m0 rfl ?_
  refine d_fld p (by simp only [cE2, sev, svl, cen, List.cons_append, List.nil_append]; omega) ?_
  refine d_br (fun h => ?_) (fun h => ?_)
  · simp only [cCmp, cE2, sev, svl, cen, List.cons_append, List.nil_append] at h
    first
    | omega
    | skip
      refine d_row 0 nm (by simp only [cE2, sev, svl, cen, List.cons_append, List.nil_append]; omega) (by simp only [cE2, sev, svl, cen, List.cons_append, List.nil_append]; omega) (by omega) ?_
      refine d_fld p (by simp only [cE2, sev, svl, cen, List.cons_append, List.nil_append]; omega) ?_
      refine d_br (fun h => ?_) (fun h => ?_)
      · simp only [cCmp, cE2, sev, svl, cen, List.cons_append, List.nil_append] at h
        first
        | omega
        | skip
          exact d_ret [0] rfl (by decide) ⟨rfl, Or.inr ⟨rfl, by omega⟩⟩
      · simp only [cCmp, cE2, sev, svl, cen, List.cons_append, List.nil_append] at h
        first
        | omega
        | skip
          refine d_row 0 nm (by simp only [cE2, sev, svl, cen, List.cons_append, List.nil_append]; omega) (by simp only [cE2, sev, svl, cen, List.cons_append, List.nil_append]; omega) (by omega) ?_
          refine d_fld p (by simp only [cE2, sev, svl, cen, List.cons_append, List.nil_append]; omega) ?_
          refine d_rng (by simp only [clo, chi, cE2, sev, svl, cen, List.cons_append, List.nil_append]; omega) ?_
          refine d_br (fun h => ?_) (fun h => ?_)
          · simp only [cCmp, cE2, sev, svl, cen, List.cons_append, List.nil_append] at h
            first
            | omega
            | skip
              exact d_ret [0] rfl (by decide) ⟨rfl, Or.inr ⟨rfl, by omega⟩⟩
          · simp only [cCmp, cE2, sev, svl, cen, List.cons_append, List.nil_append] at h
            first
            | omega
            | skip
              exact d_ret [1] rfl (by decide) ⟨rfl, Or.inl ⟨rfl, by omega⟩⟩
  · simp only [cCmp, cE2, sev, svl, cen, List.cons_append, List.nil_append] at h
    first
    | omega
    | skip
      refine d_row 0 nm (by simp only [cE2, sev, svl, cen, List.cons_append, List.nil_append]; omega) (by simp only [cE2, sev, svl, cen, List.cons_append, List.nil_append]; omega) (by omega) ?_
      refine d_fld p (by simp only [cE2, sev, svl, cen, List.cons_append, List.nil_append]; omega) ?_
      refine d_br (fun h => ?_) (fun h => ?_)
      · simp only [cCmp, cE2, sev, svl, cen, List.cons_append, List.nil_append] at h
        first
        | omega
        | skip
          refine d_br (fun h => ?_) (fun h => ?_)
          · simp only [cCmp, cE2, sev, svl, cen, List.cons_append, List.nil_append] at h
            first
            | omega
            | skip
              exact d_ret [0] rfl (by decide) ⟨rfl, Or.inr ⟨rfl, by omega⟩⟩
          · simp only [cCmp, cE2, sev, svl, cen, List.cons_append, List.nil_append] at h
            first
            | omega
            | skip
              refine d_row 0 nm (by simp only [cE2, sev, svl, cen, List.cons_append, List.nil_append]; omega) (by simp only [cE2, sev, svl, cen, List.cons_append, List.nil_append]; omega) (by omega) ?_
              refine d_fld p (by simp only [cE2, sev, svl, cen, List.cons_append, List.nil_append]; omega) ?_
              refine d_br (fun h => ?_) (fun h => ?_)
              · simp only [cCmp, cE2, sev, svl, cen, List.cons_append, List.nil_append] at h
                first
                | omega
                | skip
                  exact d_ret [0] rfl (by decide) ⟨rfl, Or.inr ⟨rfl, by omega⟩⟩
              · simp only [cCmp, cE2, sev, svl, cen, List.cons_append, List.nil_append] at h
                first
                | omega
                | skip
                  refine d_row 0 nm (by simp only [cE2, sev, svl, cen, List.cons_append, List.nil_append]; omega) (by simp only [cE2, sev, svl, cen, List.cons_append, List.nil_append]; omega) (by omega) ?_
                  refine d_fld p (by simp only [cE2, sev, svl, cen, List.cons_append, List.nil_append]; omega) ?_
                  refine d_rng (by simp only [clo, chi, cE2, sev, svl, cen, List.cons_append, List.nil_append]; omega) ?_
                  refine d_br (fun h => ?_) (fun h => ?_)
                  · simp only [cCmp, cE2, sev, svl, cen, List.cons_append, List.nil_append] at h
                    first
                    | omega
                    | skip
                      exact d_ret [0] rfl (by decide) ⟨rfl, Or.inr ⟨rfl, by omega⟩⟩
                  · simp only [cCmp, cE2, sev, svl, cen, List.cons_append, List.nil_append] at h
                    first
                    | omega
                    | skip
                      exact d_ret [1] rfl (by decide) ⟨rfl, Or.inl ⟨rfl, by omega⟩⟩
      · simp only [cCmp, cE2, sev, svl, cen, List.cons_append, List.nil_append] at h
        first
        | omega
        | skip
          refine d_br (fun h => ?_) (fun h => ?_)
          · simp only [cCmp, cE2, sev, svl, cen, List.cons_append, List.nil_append] at h
            first
            | omega
            | skip
              exact d_ret [0] rfl (by decide) ⟨rfl, Or.inr ⟨rfl, by omega⟩⟩
          · simp only [cCmp, cE2, sev, svl, cen, List.cons_append, List.nil_append] at h
            first
            | omega
            | skip
              refine d_row 0 nm (by simp only [cE2, sev, svl, cen, List.cons_append, List.nil_append]; omega) (by simp only [cE2, sev, svl, cen, List.cons_append, List.nil_append]; omega) (by omega) ?_
              refine d_fld p (by simp only [cE2, sev, svl, cen, List.cons_append, List.nil_append]; omega) ?_
              refine d_br (fun h => ?_) (fun h => ?_)
              · simp only [cCmp, cE2, sev, svl, cen, List.cons_append, List.nil_append] at h
                first
                | omega
                | skip
                  exact d_ret [0] rfl (by decide) ⟨rfl, Or.inr ⟨rfl, by omega⟩⟩
              · simp only [cCmp, cE2, sev, svl, cen, List.cons_append, List.nil_append] at h
                first
                | omega
                | skip
                  refine d_row 0 nm (by simp only [cE2, sev, svl, cen, List.cons_append, List.nil_append]; omega) (by simp only [cE2, sev, svl, cen, List.cons_append, List.nil_append]; omega) (by omega) ?_
                  refine d_fld p (by simp only [cE2, sev, svl, cen, List.cons_append, List.nil_append]; omega) ?_
                  refine d_rng (by simp only [clo, chi, cE2, sev, svl, cen, List.cons_append, List.nil_append]; omega) ?_
                  refine d_br (fun h => ?_) (fun h => ?_)
                  · simp only [cCmp, cE2, sev, svl, cen, List.cons_append, List.nil_append] at h
                    first
                    | omega
                    | skip
                      exact d_ret [0] rfl (by decide) ⟨rfl, Or.inr ⟨rfl, by omega⟩⟩
                  · simp only [cCmp, cE2, sev, svl, cen, List.cons_append, List.nil_append] at h
                    first
                    | omega
                    | skip
                      exact d_ret [1] rfl (by decide) ⟨rfl, Or.inl ⟨rfl, by omega⟩⟩
theorem b_isFitting (hp : cPl tm tc tf EX) {nm p ly : Nat} {bare : Int} {M : SMem} (hI : sI tg M) (hn : nm < 8) (hl : ly < 6) : cBG tm tf EX l dC dI cA ad scrS (d + 2) kX2_isFitting [(2, 4, 0), (0, 0, (nm : Int)), (2, 64, (p : Int)), (0, 0, (ly : Int)), (0, 0, bare)] M (fun rr MM => MM = M ∧ ((rr = [1] ∧ (wFt M p nm ly bare ly)) ∨ (rr = [0] ∧ ¬ (wFt M p nm ly bare ly)))) := by
  refine cMeth (v := [(nm : Int), (p : Int), (ly : Int), bare]) (Fd := 90) hp (by decide) gX2_isFitting_ok gX2_isFitting_m0 (by simp [cAs, cE2, sev, svl, cen]) ?_
  have b1 := wIb (f := 64) (i := 1) (lo := 0) (hi := 24) hI p rfl
  have neg : ∀ (Po : List Int → SMem → Prop) (z : Int), z < 0 → Po [0] M → cEnds (cBG tm tf EX l dC dI cA ad scrS (d + 1)) Po 90 gX2_isFitting 3 [(nm : Int), (p : Int), (ly : Int), bare, z] M := by
    intro Po z hz hN
    refine cEnds_at gX2_isFitting_m3 rfl ?_
    refine d_br (fun h => ?_) (fun h => ?_)
    · exact d_ret [0] rfl (by decide) hN
    · simp only [cCmp, cE2, sev, svl, cen, List.cons_append, List.nil_append] at h
      omega
  have loop : ∀ (N a : Nat), a ≤ N → a < 6 → ∀ Po : List Int → SMem → Prop, (wFt M p nm ly bare a → Po [1] M) → (¬ wFt M p nm ly bare a → Po [0] M) → cEnds (cBG tm tf EX l dC dI cA ad scrS (d + 1)) Po 90 gX2_isFitting 3 [(nm : Int), (p : Int), (ly : Int), bare, (a : Int)] M := by
    intro N
    induction N using Nat.strongRecOn with
    | _ N ihN =>
      intro a ha h6 Po hP hN
      have iff := wFt_iff (M := M) (p := p) (nm := nm) (ly := ly) (bare := bare) a
      have s66 : ∀ z t : Int, ((z = 1 ∧ (M 93 p a = -1 ∨ M 93 p a = (nm : Int))) ∨ (z = 0 ∧ ¬ (M 93 p a = -1 ∨ M 93 p a = (nm : Int)))) → ((t = 1 ∧ ((bare ≠ 0 ∧ a = ly) ∨ wHT M p a nm)) ∨ (t = 0 ∧ ¬ ((bare ≠ 0 ∧ a = ly) ∨ wHT M p a nm))) → cEnds (cBG tm tf EX l dC dI cA ad scrS (d + 1)) Po 90 gX2_isFitting 66 [(nm : Int), (p : Int), (ly : Int), bare, (a : Int), z, t] M := by
        intro z t hz ht
        rcases hz with ⟨rfl, hA⟩ | ⟨rfl, hA⟩
        · rcases ht with ⟨rfl, hT⟩ | ⟨rfl, hT⟩
          · refine cEnds_at gX2_isFitting_m66 rfl ?_
            refine d_br (fun h => ?_) (fun h => ?_)
            · simp only [cCmp, cE2, sev, svl, cen, List.cons_append, List.nil_append] at h
              omega
            · clear h
              refine d_br (fun h => ?_) (fun h => ?_)
              · clear h
                refine d_row p a (by simp only [cE2, sev, svl, cen, List.cons_append, List.nil_append]; omega) (by simp only [cE2, sev, svl, cen, List.cons_append, List.nil_append]; omega) (by omega) ?_
                refine d_br (fun h => ?_) (fun h => ?_)
                · simp only [cCmp, cE2, sev, svl, cen, List.cons_append, List.nil_append] at h
                  first
                  | omega
                  | skip
                    refine d_row p a (by simp only [cE2, sev, svl, cen, List.cons_append, List.nil_append]; omega) (by simp only [cE2, sev, svl, cen, List.cons_append, List.nil_append]; omega) (by omega) ?_
                    refine d_br (fun h => ?_) (fun h => ?_)
                    · simp only [cCmp, cE2, sev, svl, cen, List.cons_append, List.nil_append] at h
                      first
                      | omega
                      | skip
                        refine d_rng (by simp only [clo, chi, cE2, sev, svl, cen, List.cons_append, List.nil_append]; omega) ?_
                        by_cases z2 : 2 ≤ a
                        · refine d_cut [(nm : Int), (p : Int), (ly : Int), bare, ((a - 2 : Nat) : Int)] (by simp [cE2, sev, svl, cen] <;> omega) ?_; exact ihN (a - 2) (by omega) (a - 2) (Nat.le_refl _) (by omega) Po (fun w => hP (iff.mpr ⟨⟨hA, hT⟩, Or.inr (Or.inr ⟨by omega, by omega, z2, w⟩)⟩)) (fun w => hN (fun y => (iff.mp y).2.elim (fun q => absurd q.1 (by omega)) (fun q => q.elim (fun q => absurd q.1 (by omega)) (fun q => w q.2.2.2))))
                        · refine d_cut [(nm : Int), (p : Int), (ly : Int), bare, (a : Int) - 2] (by simp [cE2, sev, svl, cen] <;> omega) ?_; exact neg Po _ (by omega) (hN (fun y => (iff.mp y).2.elim (fun q => absurd q.1 (by omega)) (fun q => q.elim (fun q => absurd q.1 (by omega)) (fun q => z2 q.2.2.1))))
                    · simp only [cCmp, cE2, sev, svl, cen, List.cons_append, List.nil_append] at h
                      first
                      | omega
                      | skip
                        refine d_row 0 nm (by simp only [cE2, sev, svl, cen, List.cons_append, List.nil_append]; omega) (by simp only [cE2, sev, svl, cen, List.cons_append, List.nil_append]; omega) (by omega) ?_
                        refine d_fld p (by simp only [cE2, sev, svl, cen, List.cons_append, List.nil_append]; omega) ?_
                        refine d_rng (by simp only [clo, chi, cE2, sev, svl, cen, List.cons_append, List.nil_append]; omega) ?_
                        refine d_br (fun h => ?_) (fun h => ?_)
                        · simp only [cCmp, cE2, sev, svl, cen, List.cons_append, List.nil_append] at h
                          first
                          | omega
                          | skip
                            exact d_ret [0] rfl (by decide) (hN (fun y => (iff.mp y).2.elim (fun q => absurd q.1 (by omega)) (fun q => q.elim (fun q => absurd q.2 (by omega)) (fun q => absurd q.2.1 (by omega)))))
                        · simp only [cCmp, cE2, sev, svl, cen, List.cons_append, List.nil_append] at h
                          first
                          | omega
                          | skip
                            exact d_ret [1] rfl (by decide) (hP (iff.mpr ⟨⟨hA, hT⟩, Or.inr (Or.inl ⟨by omega, by omega⟩)⟩))
                · simp only [cCmp, cE2, sev, svl, cen, List.cons_append, List.nil_append] at h
                  first
                  | omega
                  | skip
                    refine d_call (b_isFirstFitting hp (nm := nm) (p := p) hI hn) (by simp [cAs, cE2, sev, svl, cen] <;> omega) ?_
                    intro rr M' hq
                    obtain ⟨hM', hq⟩ := hq
                    rw [hM']
                    rcases hq with ⟨rfl, q8⟩ | ⟨rfl, q8⟩
                    · refine ⟨rfl, ?_⟩
                      exact d_ret [1] rfl (by decide) (hP (iff.mpr ⟨⟨hA, hT⟩, Or.inl ⟨by omega, q8⟩⟩))
                    · refine ⟨rfl, ?_⟩
                      exact d_ret [0] rfl (by decide) (hN (fun y => (iff.mp y).2.elim (fun q => q8 q.2) (fun q => q.elim (fun q => absurd q.1 (by omega)) (fun q => absurd q.1 (by omega)))))
              · simp only [cCmp, cE2, sev, svl, cen, List.cons_append, List.nil_append] at h
                omega
          · refine cEnds_at gX2_isFitting_m66 rfl ?_
            refine d_br (fun h => ?_) (fun h => ?_)
            · simp only [cCmp, cE2, sev, svl, cen, List.cons_append, List.nil_append] at h
              omega
            · clear h
              refine d_br (fun h => ?_) (fun h => ?_)
              · simp only [cCmp, cE2, sev, svl, cen, List.cons_append, List.nil_append] at h
                omega
              · clear h
                exact d_ret [0] rfl (by decide) (hN (fun y => hT (iff.mp y).1.2))
        · refine cEnds_at gX2_isFitting_m66 rfl ?_
          refine d_br (fun h => ?_) (fun h => ?_)
          · clear h
            exact d_ret [0] rfl (by decide) (hN (fun y => hA (iff.mp y).1.1))
          · simp only [cCmp, cE2, sev, svl, cen, List.cons_append, List.nil_append] at h
            omega
      have s37 : ∀ z : Int, ((z = 1 ∧ (M 93 p a = -1 ∨ M 93 p a = (nm : Int))) ∨ (z = 0 ∧ ¬ (M 93 p a = -1 ∨ M 93 p a = (nm : Int)))) → cEnds (cBG tm tf EX l dC dI cA ad scrS (d + 1)) Po 90 gX2_isFitting 37 [(nm : Int), (p : Int), (ly : Int), bare, (a : Int), z] M := by
        intro z hz
        refine cEnds_at gX2_isFitting_m37 rfl ?_
        refine d_br (fun h => ?_) (fun h => ?_)
        · simp only [cCmp, cE2, sev, svl, cen, List.cons_append, List.nil_append] at h
          refine d_call (b_hasTraces hp (nm := nm) (p := p) (ly := a) hI hn h6) (by simp [cAs, cE2, sev, svl, cen] <;> omega) ?_
          intro rr M' hq
          obtain ⟨hM', hq⟩ := hq
          rw [hM']
          rcases hq with ⟨rfl, q6⟩ | ⟨rfl, q6⟩
          · refine ⟨rfl, ?_⟩
            refine d_br (fun h => ?_) (fun h => ?_)
            · simp only [cCmp, cE2, sev, svl, cen, List.cons_append, List.nil_append] at h
              omega
            · clear h
              refine d_cut [(nm : Int), (p : Int), (ly : Int), bare, (a : Int), z, 1] (by simp [cE2, sev, svl, cen] <;> omega) ?_
              exact s66 z 1 hz (Or.inl ⟨rfl, Or.inr q6⟩)
          · refine ⟨rfl, ?_⟩
            refine d_br (fun h => ?_) (fun h => ?_)
            · clear h
              refine d_cut [(nm : Int), (p : Int), (ly : Int), bare, (a : Int), z, 0] (by simp [cE2, sev, svl, cen] <;> omega) ?_
              exact s66 z 0 hz (Or.inr ⟨rfl, fun w => w.elim (fun w => by omega) q6⟩)
            · simp only [cCmp, cE2, sev, svl, cen, List.cons_append, List.nil_append] at h
              omega
        · simp only [cCmp, cE2, sev, svl, cen, List.cons_append, List.nil_append] at h
          refine d_br (fun h => ?_) (fun h => ?_)
          · simp only [cCmp, cE2, sev, svl, cen, List.cons_append, List.nil_append] at h
            refine d_cut [(nm : Int), (p : Int), (ly : Int), bare, (a : Int), z, 1] (by simp [cE2, sev, svl, cen] <;> omega) ?_
            exact s66 z 1 hz (Or.inl ⟨rfl, Or.inl ⟨by omega, by omega⟩⟩)
          · simp only [cCmp, cE2, sev, svl, cen, List.cons_append, List.nil_append] at h
            refine d_call (b_hasTraces hp (nm := nm) (p := p) (ly := a) hI hn h6) (by simp [cAs, cE2, sev, svl, cen] <;> omega) ?_
            intro rr M' hq
            obtain ⟨hM', hq⟩ := hq
            rw [hM']
            rcases hq with ⟨rfl, q6⟩ | ⟨rfl, q6⟩
            · refine ⟨rfl, ?_⟩
              refine d_br (fun h => ?_) (fun h => ?_)
              · simp only [cCmp, cE2, sev, svl, cen, List.cons_append, List.nil_append] at h
                omega
              · clear h
                refine d_cut [(nm : Int), (p : Int), (ly : Int), bare, (a : Int), z, 1] (by simp [cE2, sev, svl, cen] <;> omega) ?_
                exact s66 z 1 hz (Or.inl ⟨rfl, Or.inr q6⟩)
            · refine ⟨rfl, ?_⟩
              refine d_br (fun h => ?_) (fun h => ?_)
              · clear h
                refine d_cut [(nm : Int), (p : Int), (ly : Int), bare, (a : Int), z, 0] (by simp [cE2, sev, svl, cen] <;> omega) ?_
                exact s66 z 0 hz (Or.inr ⟨rfl, fun w => w.elim (fun w => by omega) q6⟩)
              · simp only [cCmp, cE2, sev, svl, cen, List.cons_append, List.nil_append] at h
                omega
      refine cEnds_at gX2_isFitting_m3 rfl ?_
      refine d_br (fun h => ?_) (fun h => ?_)
      · simp only [cCmp, cE2, sev, svl, cen, List.cons_append, List.nil_append] at h
        first
        | omega
        | skip
          exact d_ret [0] rfl (by decide) (by omega)
      · simp only [cCmp, cE2, sev, svl, cen, List.cons_append, List.nil_append] at h
        first
        | omega
        | skip
          refine d_row p a (by simp only [cE2, sev, svl, cen, List.cons_append, List.nil_append]; omega) (by simp only [cE2, sev, svl, cen, List.cons_append, List.nil_append]; omega) (by omega) ?_
          refine d_br (fun h => ?_) (fun h => ?_)
          · simp only [cCmp, cE2, sev, svl, cen, List.cons_append, List.nil_append] at h
            first
            | omega
            | skip
              refine d_cut [(nm : Int), (p : Int), (ly : Int), bare, (a : Int), 1] (by simp [cE2, sev, svl, cen] <;> omega) ?_
              exact s37 1 (by omega)
          · simp only [cCmp, cE2, sev, svl, cen, List.cons_append, List.nil_append] at h
            first
            | omega
            | skip
              refine d_row p a (by simp only [cE2, sev, svl, cen, List.cons_append, List.nil_append]; omega) (by simp only [cE2, sev, svl, cen, List.cons_append, List.nil_append]; omega) (by omega) ?_
              refine d_br (fun h => ?_) (fun h => ?_)
              · simp only [cCmp, cE2, sev, svl, cen, List.cons_append, List.nil_append] at h
                first
                | omega
                | skip
                  refine d_cut [(nm : Int), (p : Int), (ly : Int), bare, (a : Int), 0] (by simp [cE2, sev, svl, cen] <;> omega) ?_
                  exact s37 0 (by omega)
              · simp only [cCmp, cE2, sev, svl, cen, List.cons_append, List.nil_append] at h
                first
                | omega
                | skip
                  refine d_cut [(nm : Int), (p : Int), (ly : Int), bare, (a : Int), 1] (by simp [cE2, sev, svl, cen] <;> omega) ?_
                  exact s37 1 (by omega)
  refine cEnds_at gX2_isFitting_m0 rfl ?_
  refine d_cut [(nm : Int), (p : Int), (ly : Int), bare, (ly : Int)] (by simp [cE2, sev, svl, cen] <;> omega) ?_
  exact loop ly ly (Nat.le_refl _) hl _ (fun w => ⟨rfl, Or.inl ⟨rfl, w⟩⟩) (fun w => ⟨rfl, Or.inr ⟨rfl, w⟩⟩)
theorem b_fitting (hp : cPl tm tc tf EX) {p ly : Nat} {bare : Int} {M : SMem} (hI : sI tg M) (hl : ly < 6) : cBG tm tf EX l dC dI cA ad scrS (d + 3) kX2_fitting [(2, 4, 0), (2, 64, (p : Int)), (0, 0, (ly : Int)), (0, 0, bare)] M (fun rr MM => MM = M ∧ rr = [wBt (wDc (fun nm => M 58 0 nm ≠ 0 ∧ wFt M p nm ly bare ly)) 8]) := by
  refine cMeth (v := [(p : Int), (ly : Int), bare]) (Fd := 90) hp (by decide) gX2_fitting_ok gX2_fitting_m0 (by simp [cAs, cE2, sev, svl, cen]) ?_
  generalize hb : wDc (fun nm => M 58 0 nm ≠ 0 ∧ wFt M p nm ly bare ly) = b
  have loop : ∀ (m k : Nat), k + m = 8 → cEnds (cBG tm tf EX l dC dI cA ad scrS (d + 2)) (fun rr MM => MM = M ∧ rr = [wBt b 8]) 90 gX2_fitting 6 [(p : Int), (ly : Int), bare, wBt b k, (k : Int)] M := by
    intro m
    induction m with
    | zero =>
      intro k hk
      have br := wBt_r b k
      refine cEnds_at gX2_fitting_m6 rfl ?_
      refine d_br (fun h => ?_) (fun h => ?_)
      · simp only [cCmp, cE2, sev, svl, cen, List.cons_append, List.nil_append] at h
        first
        | omega
        | skip
          exact wret1 (wBt b k) (by simp only [cE2, sev, svl, cen, List.cons_append, List.nil_append]; omega) (by omega) ⟨rfl, by rw [show k = 8 by omega]⟩
      · simp only [cCmp, cE2, sev, svl, cen, List.cons_append, List.nil_append] at h
        first
        | omega
        | skip
          refine d_row 0 k (by simp only [cE2, sev, svl, cen, List.cons_append, List.nil_append]; omega) (by simp only [cE2, sev, svl, cen, List.cons_append, List.nil_append]; omega) (by omega) ?_
          refine d_br (fun h => ?_) (fun h => ?_)
          · simp only [cCmp, cE2, sev, svl, cen, List.cons_append, List.nil_append] at h
            first
            | omega
            | skip
              refine d_rng (by simp only [clo, chi, cE2, sev, svl, cen, List.cons_append, List.nil_append]; omega) ?_
              refine d_cut [(p : Int), (ly : Int), bare, (wBt b k), ((k : Int) + 1)] (by simp [cE2, sev, svl, cen] <;> omega) ?_
              exact (by omega)
          · simp only [cCmp, cE2, sev, svl, cen, List.cons_append, List.nil_append] at h
            first
            | omega
            | skip
              refine d_call (b_isFitting hp (nm := k) (p := p) (ly := ly) (bare := bare) hI (by omega) hl) (by simp [cAs, cE2, sev, svl, cen] <;> omega) ?_
              intro rr M' hq
              obtain ⟨hM', hq⟩ := hq
              rw [hM']
              rcases hq with ⟨rfl, q6⟩ | ⟨rfl, q6⟩
              · refine ⟨rfl, ?_⟩
                refine d_br (fun h => ?_) (fun h => ?_)
                · simp only [cCmp, cE2, sev, svl, cen, List.cons_append, List.nil_append] at h
                  omega
                · clear h
                  refine d_opw 1 (k : Int) (by simp [cE2, sev, svl, cen] <;> omega) (by simp [cE2, sev, svl, cen] <;> omega) ?_
                  refine d_opw (wBt b k) (cfn 2 1 (k : Int)) (by simp [cE2, sev, svl, cen] <;> omega) (by simp [cE2, sev, svl, cen] <;> omega) ?_
                  refine d_rng (by simp only [clo, chi, cE2, sev, svl, cen, List.cons_append, List.nil_append]; omega) ?_
                  refine d_cut [(p : Int), (ly : Int), bare, (cfn 1 (wBt b k) (cfn 2 1 (k : Int))), ((k : Int) + 1)] (by simp [cE2, sev, svl, cen] <;> omega) ?_
                  exact (by omega)
              · refine ⟨rfl, ?_⟩
                refine d_br (fun h => ?_) (fun h => ?_)
                · clear h
                  refine d_rng (by simp only [clo, chi, cE2, sev, svl, cen, List.cons_append, List.nil_append]; omega) ?_
                  refine d_cut [(p : Int), (ly : Int), bare, (wBt b k), ((k : Int) + 1)] (by simp [cE2, sev, svl, cen] <;> omega) ?_
                  exact (by omega)
                · simp only [cCmp, cE2, sev, svl, cen, List.cons_append, List.nil_append] at h
                  omega
    | succ m ih =>
      intro k hk
      have br := wBt_r b k
      refine cEnds_at gX2_fitting_m6 rfl ?_
      refine d_br (fun h => ?_) (fun h => ?_)
      · simp only [cCmp, cE2, sev, svl, cen, List.cons_append, List.nil_append] at h
        first
        | omega
        | skip
          exact wret1 (wBt b k) (by simp only [cE2, sev, svl, cen, List.cons_append, List.nil_append]; omega) (by omega) (by omega)
      · simp only [cCmp, cE2, sev, svl, cen, List.cons_append, List.nil_append] at h
        first
        | omega
        | skip
          refine d_row 0 k (by simp only [cE2, sev, svl, cen, List.cons_append, List.nil_append]; omega) (by simp only [cE2, sev, svl, cen, List.cons_append, List.nil_append]; omega) (by omega) ?_
          refine d_br (fun h => ?_) (fun h => ?_)
          · simp only [cCmp, cE2, sev, svl, cen, List.cons_append, List.nil_append] at h
            first
            | omega
            | skip
              refine d_rng (by simp only [clo, chi, cE2, sev, svl, cen, List.cons_append, List.nil_append]; omega) ?_
              have e : b k = false := by rw [← hb]; exact wDc_n (fun w => w.1 (by omega))
              rw [← wBt_n e]
              refine d_cut [(p : Int), (ly : Int), bare, wBt b (k + 1), ((k + 1 : Nat) : Int)] (by simp [cE2, sev, svl, cen] <;> omega) ?_
              exact ih (k + 1) (by omega)
          · simp only [cCmp, cE2, sev, svl, cen, List.cons_append, List.nil_append] at h
            first
            | omega
            | skip
              refine d_call (b_isFitting hp (nm := k) (p := p) (ly := ly) (bare := bare) hI (by omega) hl) (by simp [cAs, cE2, sev, svl, cen] <;> omega) ?_
              intro rr M' hq
              obtain ⟨hM', hq⟩ := hq
              rw [hM']
              rcases hq with ⟨rfl, q6⟩ | ⟨rfl, q6⟩
              · refine ⟨rfl, ?_⟩
                refine d_br (fun h => ?_) (fun h => ?_)
                · simp only [cCmp, cE2, sev, svl, cen, List.cons_append, List.nil_append] at h
                  omega
                · clear h
                  refine d_opw 1 (k : Int) (by simp [cE2, sev, svl, cen] <;> omega) (by simp [cE2, sev, svl, cen] <;> omega) ?_
                  refine d_opw (wBt b k) (cfn 2 1 (k : Int)) (by simp [cE2, sev, svl, cen] <;> omega) (by simp [cE2, sev, svl, cen] <;> omega) ?_
                  refine d_rng (by simp only [clo, chi, cE2, sev, svl, cen, List.cons_append, List.nil_append]; omega) ?_
                  have e : b k = true := by rw [← hb]; exact wDc_y ⟨by omega, q6⟩
                  rw [← wBt_y e]
                  refine d_cut [(p : Int), (ly : Int), bare, wBt b (k + 1), ((k + 1 : Nat) : Int)] (by simp [cE2, sev, svl, cen] <;> omega) ?_
                  exact ih (k + 1) (by omega)
              · refine ⟨rfl, ?_⟩
                refine d_br (fun h => ?_) (fun h => ?_)
                · clear h
                  refine d_rng (by simp only [clo, chi, cE2, sev, svl, cen, List.cons_append, List.nil_append]; omega) ?_
                  have e : b k = false := by rw [← hb]; exact wDc_n (fun w => q6 w.2)
                  rw [← wBt_n e]
                  refine d_cut [(p : Int), (ly : Int), bare, wBt b (k + 1), ((k + 1 : Nat) : Int)] (by simp [cE2, sev, svl, cen] <;> omega) ?_
                  exact ih (k + 1) (by omega)
                · simp only [cCmp, cE2, sev, svl, cen, List.cons_append, List.nil_append] at h
                  omega
  refine cEnds_at gX2_fitting_m0 rfl ?_
  refine d_cut [(p : Int), (ly : Int), bare, wBt b 0, ((0 : Nat) : Int)] (by simp [cE2, sev, svl, cen, wBt]) ?_
  exact loop 8 0 (by omega)
end CWF
