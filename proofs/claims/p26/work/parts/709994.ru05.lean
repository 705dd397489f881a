/-! the run: what the class answers of it -/
/-- a place as it was told agrees with what was made -/
def rAs (N : Int) (D E : Nat → Int) (st : List RC) : Prop := N = (st.length : Int) ∧ ∀ (k : Nat) (c : RC), st[k]? = some c → D k = c.2.1 ∧ (E k = -1 ∨ E k = c.2.2)
theorem rAs_cg {N N' : Int} {D D' E E' : Nat → Int} {st : List RC} (h0 : N' = N) (h : ∀ k, k < st.length → D' k = D k ∧ E' k = E k) : rAs N' D' E' st ↔ rAs N D E st := by
  rw [h0]
  constructor
  · rintro ⟨a, b⟩
    refine ⟨a, fun k c hc => ?_⟩
    have := h k (List.getElem?_eq_some_iff.mp hc).1
    rw [← this.1, ← this.2]
    exact b k c hc
  · rintro ⟨a, b⟩
    refine ⟨a, fun k c hc => ?_⟩
    have := h k (List.getElem?_eq_some_iff.mp hc).1
    rw [this.1, this.2]
    exact b k c hc
def rSm (P : Nat → List RC) : Nat → Int
  | 0 => 0
  | k + 1 => rSm P k + ((P k).length : Int)
theorem rSm_b {P : Nat → List RC} (h : ∀ p, (P p).length ≤ 6) : ∀ k, 0 ≤ rSm P k ∧ rSm P k ≤ 6 * k := by
  intro k
  induction k with
  | zero => exact ⟨Int.le_refl _, Int.le_refl _⟩
  | succ k ih =>
    have := h k
    show 0 ≤ rSm P k + ((P k).length : Int) ∧ rSm P k + ((P k).length : Int) ≤ 6 * ((k + 1 : Nat) : Int)
    omega
/-- what is answered -/
noncomputable def rRan (Z : RZT) (B : Nat → List OLn) (a b : Int) : Int := if (0 ≤ a ∧ a < 12 ∧ Z.1 a.toNat 0 ≠ 0) ∧ 0 ≤ b ∧ b < 6 then (((rRun Z B (b.toNat + 1)).1 a.toNat).length : Int) else -1
noncomputable def rMade (Z : RZT) (B : Nat → List OLn) (a b w : Int) : Int := if (0 ≤ a ∧ a < 12 ∧ Z.1 a.toNat 0 ≠ 0) ∧ (0 ≤ w ∧ w < 3) ∧ 0 ≤ b then (match ((rRun Z B 6).1 a.toNat)[b.toNat]? with
  | some c => if w = 0 then c.1 else if w = 1 then c.2.1 else c.2.2
  | none => -1) else -1
noncomputable def rMissed (Z : RZT) (B : Nat → List OLn) (a : Int) : Int := if 0 ≤ a ∧ a < 6 then rMs Z B a.toNat else -1
/-- bits of places that agree; A: whether one does -/
noncomputable def rAgr (Z : RZT) (B : Nat → List OLn) (A : Nat → List RC → Prop) (w : Int) : Int := if w = 0 then wBt (wDc (fun p => Z.1 p 0 ≠ 0 ∧ A p ((rRun Z B 6).1 p))) 12 else if w = 1 then (rRun Z B 6).2 else if w = 2 then rSm (rRun Z B 6).1 12 else -1
/-- behind a call that asks of the run (the class's) -/
def rKX (B : Nat → List OLn) (M MM : SMem) : Prop := sI tg MM ∧ rXf M MM ∧ (MM 10 0 13 ≠ 0 → rCh (rZ M) B MM)
theorem rKX_r {B : Nat → List OLn} {M : SMem} (hI : sI tg M) (hc : M 10 0 13 ≠ 0 → rCh (rZ M) B M) : rKX B M M := ⟨hI, fun _ _ _ _ _ => rfl, hc⟩
theorem rKX_o {B : Nat → List OLn} {M MM : SMem} (h1 : sI tg MM) (h2 : rXf M MM) (h3 : rCh (rZ M) B MM) : rKX B M MM := ⟨h1, h2, fun _ => h3⟩
section CR5
variable {EX : SEx} {l : Launch} {dC : Nat → ClassId} {dI : Nat → Nat → Nat} {cA : Nat → ClassId} {ad : SAd} {scrS d : Nat}
theorem b_asTold (hp : cPl tm tc tf EX) {p : Nat} {st : List RC} {M : SMem} (hp9 : p < 12) (h6 : st.length ≤ 6) (g : rLg 79 80 81 82 M p st) : cBG tm tf EX l dC dI cA ad scrS (d + 1) kX5_isAsTold [(2, 10, 0), (0, 0, (p : Int))] M (fun rr MM => MM = M ∧ ((rr = [1] ∧ (rAs (M 64 p 5) (M 92 p) (M 93 p) st)) ∨ (rr = [0] ∧ ¬ (rAs (M 64 p 5) (M 92 p) (M 93 p) st)))) := by
  obtain ⟨A0, hA0⟩ : ∃ A0, A0 = rAs (M 64 p 5) (M 92 p) (M 93 p) st := ⟨_, rfl⟩
  rw [← hA0]
  refine cMeth (v := [(p : Int)]) (Fd := 90) hp (by decide) gX5_isAsTold_ok gX5_isAsTold_m0 (by simp [cAs, cE2, sev, svl, cen]) ?_
  obtain ⟨n, hn⟩ : ∃ n, n = st.length := ⟨_, rfl⟩
  have g0 : M 79 0 p = (n : Int) := by rw [hn]; exact g.1
  have loop : ∀ (m k : Nat), k + m = n → M 64 p 5 = (n : Int) → (∀ (j : Nat) (c : RC), j < k → st[j]? = some c → M 92 p j = c.2.1 ∧ (M 93 p j = -1 ∨ M 93 p j = c.2.2)) → cEnds (cBG tm tf EX l dC dI cA ad scrS d) (fun rr MM => MM = M ∧ ((rr = [1] ∧ (A0)) ∨ (rr = [0] ∧ ¬ (A0)))) 90 gX5_isAsTold 24 [(p : Int), (p : Int), (k : Int)] M := by
    intro m
    induction m with
    | zero =>
      intro k hk h5 ha
      have hk : k = n := hk
      refine cEnds_at gX5_isAsTold_m24 rfl ?_
      refine d_fld p (by simp only [cE2, sev, svl, cen, List.cons_append, List.nil_append]; omega) ?_
      rw [h5]
      refine d_br (fun h => ?_) (fun h => ?_)
      · simp only [cCmp, cE2, sev, svl, cen, List.cons_append, List.nil_append] at h
        first
        | omega
        | skip
          exact d_ret [1] rfl (by decide) ⟨rfl, Or.inl ⟨rfl, by rw [hA0]; exact ⟨by rw [h5, hn], fun j c hc => ha j c (by have := (List.getElem?_eq_some_iff.mp hc).1; omega) hc⟩⟩⟩
      · simp only [cCmp, cE2, sev, svl, cen, List.cons_append, List.nil_append] at h
        first
        | omega
        | skip
          refine d_rng (by simp only [clo, chi, cE2, sev, svl, cen, List.cons_append, List.nil_append]; omega) ?_
          refine d_rng (by simp only [clo, chi, cE2, sev, svl, cen, List.cons_append, List.nil_append]; omega) ?_
          refine d_row p k (by simp only [cE2, sev, svl, cen, List.cons_append, List.nil_append]; omega) (by simp only [cE2, sev, svl, cen, List.cons_append, List.nil_append]; omega) (by omega) ?_
          refine d_br (fun h => ?_) (fun h => ?_)
          · simp only [cCmp, cE2, sev, svl, cen, List.cons_append, List.nil_append] at h
            first
            | omega
            | skip
              refine d_row p k (by simp only [cE2, sev, svl, cen, List.cons_append, List.nil_append]; omega) (by simp only [cE2, sev, svl, cen, List.cons_append, List.nil_append]; omega) (by omega) ?_
              refine d_row 0 (6 * p + k) (by simp only [cE2, sev, svl, cen, List.cons_append, List.nil_append]; omega) (by simp only [cE2, sev, svl, cen, List.cons_append, List.nil_append]; omega) (by omega) ?_
              refine d_br (fun h => ?_) (fun h => ?_)
              · simp only [cCmp, cE2, sev, svl, cen, List.cons_append, List.nil_append] at h
                first
                | omega
                | skip
                  exact d_ret [0] rfl (by decide) (by omega)
              · simp only [cCmp, cE2, sev, svl, cen, List.cons_append, List.nil_append] at h
                first
                | omega
                | skip
                  refine d_rng (by simp only [clo, chi, cE2, sev, svl, cen, List.cons_append, List.nil_append]; omega) ?_
                  refine d_cut [(p : Int), (p : Int), ((k : Int) + 1)] (by simp [cE2, sev, svl, cen] <;> omega) ?_
                  exact (by omega)
          · simp only [cCmp, cE2, sev, svl, cen, List.cons_append, List.nil_append] at h
            first
            | omega
            | skip
              refine d_row p k (by simp only [cE2, sev, svl, cen, List.cons_append, List.nil_append]; omega) (by simp only [cE2, sev, svl, cen, List.cons_append, List.nil_append]; omega) (by omega) ?_
              refine d_row 0 (6 * p + k) (by simp only [cE2, sev, svl, cen, List.cons_append, List.nil_append]; omega) (by simp only [cE2, sev, svl, cen, List.cons_append, List.nil_append]; omega) (by omega) ?_
              refine d_br (fun h => ?_) (fun h => ?_)
              · simp only [cCmp, cE2, sev, svl, cen, List.cons_append, List.nil_append] at h
                first
                | omega
                | skip
                  refine d_row p k (by simp only [cE2, sev, svl, cen, List.cons_append, List.nil_append]; omega) (by simp only [cE2, sev, svl, cen, List.cons_append, List.nil_append]; omega) (by omega) ?_
                  refine d_row 0 (6 * p + k) (by simp only [cE2, sev, svl, cen, List.cons_append, List.nil_append]; omega) (by simp only [cE2, sev, svl, cen, List.cons_append, List.nil_append]; omega) (by omega) ?_
                  refine d_br (fun h => ?_) (fun h => ?_)
                  · simp only [cCmp, cE2, sev, svl, cen, List.cons_append, List.nil_append] at h
                    first
                    | omega
                    | skip
                      exact d_ret [0] rfl (by decide) (by omega)
                  · simp only [cCmp, cE2, sev, svl, cen, List.cons_append, List.nil_append] at h
                    first
                    | omega
                    | skip
                      exact d_ret [0] rfl (by decide) (by omega)
              · simp only [cCmp, cE2, sev, svl, cen, List.cons_append, List.nil_append] at h
                first
                | omega
                | skip
                  refine d_row p k (by simp only [cE2, sev, svl, cen, List.cons_append, List.nil_append]; omega) (by simp only [cE2, sev, svl, cen, List.cons_append, List.nil_append]; omega) (by omega) ?_
                  refine d_row 0 (6 * p + k) (by simp only [cE2, sev, svl, cen, List.cons_append, List.nil_append]; omega) (by simp only [cE2, sev, svl, cen, List.cons_append, List.nil_append]; omega) (by omega) ?_
                  refine d_br (fun h => ?_) (fun h => ?_)
                  · simp only [cCmp, cE2, sev, svl, cen, List.cons_append, List.nil_append] at h
                    first
                    | omega
                    | skip
                      exact d_ret [0] rfl (by decide) (by omega)
                  · simp only [cCmp, cE2, sev, svl, cen, List.cons_append, List.nil_append] at h
                    first
                    | omega
                    | skip
                      refine d_rng (by simp only [clo, chi, cE2, sev, svl, cen, List.cons_append, List.nil_append]; omega) ?_
                      refine d_cut [(p : Int), (p : Int), ((k : Int) + 1)] (by simp [cE2, sev, svl, cen] <;> omega) ?_
                      exact (by omega)
    | succ m ih =>
      intro k hk h5 ha
      obtain ⟨c, hc⟩ := rGet (st := st) (k := k) (by omega)
      obtain ⟨e1, e2, e3⟩ := g.2 k c hc
      have nxt : M 92 p k = c.2.1 → (M 93 p k = -1 ∨ M 93 p k = c.2.2) → cEnds (cBG tm tf EX l dC dI cA ad scrS d) (fun rr MM => MM = M ∧ ((rr = [1] ∧ (A0)) ∨ (rr = [0] ∧ ¬ (A0)))) 90 gX5_isAsTold 24 [(p : Int), (p : Int), ((k + 1 : Nat) : Int)] M := fun q1 q2 => ih (k + 1) (by omega) h5 (fun j c' hj hc' => by
        by_cases z : j = k
        · subst z
          cases hc.symm.trans hc'
          exact ⟨q1, q2⟩
        · exact ha j c' (by omega) hc')
      have no : (M 92 p k = c.2.1 → (M 93 p k = -1 ∨ M 93 p k = c.2.2) → False) → ¬ A0 := fun q z => by
        rw [hA0] at z
        exact q (z.2 k c hc).1 (z.2 k c hc).2
      refine cEnds_at gX5_isAsTold_m24 rfl ?_
      refine d_fld p (by simp only [cE2, sev, svl, cen, List.cons_append, List.nil_append]; omega) ?_
      rw [h5]
      refine d_br (fun h => ?_) (fun h => ?_)
      · simp only [cCmp, cE2, sev, svl, cen, List.cons_append, List.nil_append] at h
        first
        | omega
        | skip
          exact d_ret [1] rfl (by decide) (by omega)
      · simp only [cCmp, cE2, sev, svl, cen, List.cons_append, List.nil_append] at h
        first
        | omega
        | skip
          refine d_rng (by simp only [clo, chi, cE2, sev, svl, cen, List.cons_append, List.nil_append]; omega) ?_
          refine d_rng (by simp only [clo, chi, cE2, sev, svl, cen, List.cons_append, List.nil_append]; omega) ?_
          refine d_row p k (by simp only [cE2, sev, svl, cen, List.cons_append, List.nil_append]; omega) (by simp only [cE2, sev, svl, cen, List.cons_append, List.nil_append]; omega) (by omega) ?_
          refine d_br (fun h => ?_) (fun h => ?_)
          · simp only [cCmp, cE2, sev, svl, cen, List.cons_append, List.nil_append] at h
            first
            | omega
            | skip
              refine d_row p k (by simp only [cE2, sev, svl, cen, List.cons_append, List.nil_append]; omega) (by simp only [cE2, sev, svl, cen, List.cons_append, List.nil_append]; omega) (by omega) ?_
              refine d_row 0 (6 * p + k) (by simp only [cE2, sev, svl, cen, List.cons_append, List.nil_append]; omega) (by simp only [cE2, sev, svl, cen, List.cons_append, List.nil_append]; omega) (by omega) ?_
              rw [e2]
              refine d_br (fun h => ?_) (fun h => ?_)
              · simp only [cCmp, cE2, sev, svl, cen, List.cons_append, List.nil_append] at h
                first
                | omega
                | skip
                  exact d_ret [0] rfl (by decide) ⟨rfl, Or.inr ⟨rfl, no (fun z1 z2 => by omega)⟩⟩
              · simp only [cCmp, cE2, sev, svl, cen, List.cons_append, List.nil_append] at h
                first
                | omega
                | skip
                  refine d_rng (by simp only [clo, chi, cE2, sev, svl, cen, List.cons_append, List.nil_append]; omega) ?_
                  refine d_cut [(p : Int), (p : Int), ((k + 1 : Nat) : Int)] (by simp [cE2, sev, svl, cen] <;> omega) ?_
                  exact nxt (by omega) (by omega)
          · simp only [cCmp, cE2, sev, svl, cen, List.cons_append, List.nil_append] at h
            first
            | omega
            | skip
              refine d_row p k (by simp only [cE2, sev, svl, cen, List.cons_append, List.nil_append]; omega) (by simp only [cE2, sev, svl, cen, List.cons_append, List.nil_append]; omega) (by omega) ?_
              refine d_row 0 (6 * p + k) (by simp only [cE2, sev, svl, cen, List.cons_append, List.nil_append]; omega) (by simp only [cE2, sev, svl, cen, List.cons_append, List.nil_append]; omega) (by omega) ?_
              rw [e3]
              refine d_br (fun h => ?_) (fun h => ?_)
              · simp only [cCmp, cE2, sev, svl, cen, List.cons_append, List.nil_append] at h
                first
                | omega
                | skip
                  refine d_row p k (by simp only [cE2, sev, svl, cen, List.cons_append, List.nil_append]; omega) (by simp only [cE2, sev, svl, cen, List.cons_append, List.nil_append]; omega) (by omega) ?_
                  refine d_row 0 (6 * p + k) (by simp only [cE2, sev, svl, cen, List.cons_append, List.nil_append]; omega) (by simp only [cE2, sev, svl, cen, List.cons_append, List.nil_append]; omega) (by omega) ?_
                  rw [e2]
                  refine d_br (fun h => ?_) (fun h => ?_)
                  · simp only [cCmp, cE2, sev, svl, cen, List.cons_append, List.nil_append] at h
                    first
                    | omega
                    | skip
                      exact d_ret [0] rfl (by decide) ⟨rfl, Or.inr ⟨rfl, no (fun z1 z2 => by omega)⟩⟩
                  · simp only [cCmp, cE2, sev, svl, cen, List.cons_append, List.nil_append] at h
                    first
                    | omega
                    | skip
                      exact d_ret [0] rfl (by decide) ⟨rfl, Or.inr ⟨rfl, no (fun z1 z2 => by omega)⟩⟩
              · simp only [cCmp, cE2, sev, svl, cen, List.cons_append, List.nil_append] at h
                first
                | omega
                | skip
                  refine d_row p k (by simp only [cE2, sev, svl, cen, List.cons_append, List.nil_append]; omega) (by simp only [cE2, sev, svl, cen, List.cons_append, List.nil_append]; omega) (by omega) ?_
                  refine d_row 0 (6 * p + k) (by simp only [cE2, sev, svl, cen, List.cons_append, List.nil_append]; omega) (by simp only [cE2, sev, svl, cen, List.cons_append, List.nil_append]; omega) (by omega) ?_
                  rw [e2]
                  refine d_br (fun h => ?_) (fun h => ?_)
                  · simp only [cCmp, cE2, sev, svl, cen, List.cons_append, List.nil_append] at h
                    first
                    | omega
                    | skip
                      exact d_ret [0] rfl (by decide) ⟨rfl, Or.inr ⟨rfl, no (fun z1 z2 => by omega)⟩⟩
                  · simp only [cCmp, cE2, sev, svl, cen, List.cons_append, List.nil_append] at h
                    first
                    | omega
                    | skip
                      refine d_rng (by simp only [clo, chi, cE2, sev, svl, cen, List.cons_append, List.nil_append]; omega) ?_
                      refine d_cut [(p : Int), (p : Int), ((k + 1 : Nat) : Int)] (by simp [cE2, sev, svl, cen] <;> omega) ?_
                      exact nxt (by omega) (by omega)
  refine cEnds_at gX5_isAsTold_m0 rfl ?_
  refine d_idx (by simp only [cE2, sev, svl, cen, List.cons_append, List.nil_append]; omega) ?_
  refine d_fld p (by simp only [cE2, sev, svl, cen, List.cons_append, List.nil_append]; omega) ?_
  refine d_row 0 p (by simp only [cE2, sev, svl, cen, List.cons_append, List.nil_append]; omega) (by simp only [cE2, sev, svl, cen, List.cons_append, List.nil_append]; omega) (by omega) ?_
  rw [g0]
  refine d_br (fun h => ?_) (fun h => ?_)
  · simp only [cCmp, cE2, sev, svl, cen, List.cons_append, List.nil_append] at h
    first
    | omega
    | skip
      refine d_cut [(p : Int), (p : Int), ((0 : Nat) : Int)] (by simp [cE2, sev, svl, cen] <;> omega) ?_
      exact loop n 0 (by omega) (by omega) (fun j c hj => absurd hj (Nat.not_lt_zero j))
  · simp only [cCmp, cE2, sev, svl, cen, List.cons_append, List.nil_append] at h
    first
    | omega
    | skip
      exact d_ret [0] rfl (by decide) ⟨rfl, Or.inr ⟨rfl, fun z => by rw [hA0] at z; have := z.1; omega⟩⟩
theorem b_agreeing (hp : cPl tm tc tf EX) {P : Nat → List RC} {M : SMem} (hP : ∀ p, p < 12 → rLg 79 80 81 82 M p (P p)) (h6 : ∀ p, (P p).length ≤ 6) : cBG tm tf EX l dC dI cA ad scrS (d + 2) kX5_agreeing [(2, 10, 0)] M (fun rr MM => MM = M ∧ rr = [wBt (wDc (fun p => M 64 p 0 ≠ 0 ∧ rAs (M 64 p 5) (M 92 p) (M 93 p) (P p))) 12]) := by
  refine cMeth (v := []) (Fd := 90) hp (by decide) gX5_agreeing_ok gX5_agreeing_m0 (by simp [cAs, cE2, sev, svl, cen]) ?_
  have loop : ∀ (m k : Nat), k + m = 12 → cEnds (cBG tm tf EX l dC dI cA ad scrS (d + 1)) (fun rr MM => MM = M ∧ rr = [wBt (wDc (fun p => M 64 p 0 ≠ 0 ∧ rAs (M 64 p 5) (M 92 p) (M 93 p) (P p))) 12]) 90 gX5_agreeing 4 [wBt (wDc (fun p => M 64 p 0 ≠ 0 ∧ rAs (M 64 p 5) (M 92 p) (M 93 p) (P p))) k, (k : Int)] M := by
    intro m
    induction m with
    | zero =>
      intro k hk
      have hk : k = 12 := hk
      subst hk
      have b := wBt_r (wDc (fun p => M 64 p 0 ≠ 0 ∧ rAs (M 64 p 5) (M 92 p) (M 93 p) (P p))) 12
      refine cEnds_at gX5_agreeing_m4 rfl ?_
      refine d_br (fun h => ?_) (fun h => ?_)
      · exact wret1 (wBt (wDc (fun p => M 64 p 0 ≠ 0 ∧ rAs (M 64 p 5) (M 92 p) (M 93 p) (P p))) 12) (by simp only [cE2, sev, svl, cen, List.cons_append, List.nil_append]; omega) (by omega) ⟨rfl, rfl⟩
      · simp only [cCmp, cE2, sev, svl, cen, List.cons_append, List.nil_append] at h
        omega
    | succ m ih =>
      intro k hk
      have yes : (M 64 k 0 ≠ 0 ∧ rAs (M 64 k 5) (M 92 k) (M 93 k) (P k)) → wBt (wDc (fun p => M 64 p 0 ≠ 0 ∧ rAs (M 64 p 5) (M 92 p) (M 93 p) (P p))) (k + 1) = cfn 1 (wBt (wDc (fun p => M 64 p 0 ≠ 0 ∧ rAs (M 64 p 5) (M 92 p) (M 93 p) (P p))) k) (cfn 2 1 (k : Int)) := fun h => wBt_y (wDc_y h)
      have no : ¬ (M 64 k 0 ≠ 0 ∧ rAs (M 64 k 5) (M 92 k) (M 93 k) (P k)) → wBt (wDc (fun p => M 64 p 0 ≠ 0 ∧ rAs (M 64 p 5) (M 92 p) (M 93 p) (P p))) (k + 1) = wBt (wDc (fun p => M 64 p 0 ≠ 0 ∧ rAs (M 64 p 5) (M 92 p) (M 93 p) (P p))) k := fun h => wBt_n (wDc_n h)
      have ih := ih (k + 1) (by omega)
      obtain ⟨X, hX⟩ : ∃ X, X = wBt (wDc (fun p => M 64 p 0 ≠ 0 ∧ rAs (M 64 p 5) (M 92 p) (M 93 p) (P p))) k := ⟨_, rfl⟩
      rw [← hX] at yes no ⊢
      refine cEnds_at gX5_agreeing_m4 rfl ?_
      refine d_br (fun h => ?_) (fun h => ?_)
      · simp only [cCmp, cE2, sev, svl, cen, List.cons_append, List.nil_append] at h
        first
        | omega
        | skip
          exact wret1 X (by simp only [cE2, sev, svl, cen, List.cons_append, List.nil_append]; omega) (by omega) (by omega)
      · simp only [cCmp, cE2, sev, svl, cen, List.cons_append, List.nil_append] at h
        first
        | omega
        | skip
          refine d_idx (by simp only [cE2, sev, svl, cen, List.cons_append, List.nil_append]; omega) ?_
          refine d_fld k (by simp only [cE2, sev, svl, cen, List.cons_append, List.nil_append]; omega) ?_
          refine d_br (fun h => ?_) (fun h => ?_)
          · simp only [cCmp, cE2, sev, svl, cen, List.cons_append, List.nil_append] at h
            first
            | omega
            | skip
              refine d_rng (by simp only [clo, chi, cE2, sev, svl, cen, List.cons_append, List.nil_append]; omega) ?_
              rw [no (fun z => by omega)] at ih
              refine d_cut [X, ((k + 1 : Nat) : Int)] (by simp [cE2, sev, svl, cen] <;> omega) ?_
              exact ih
          · simp only [cCmp, cE2, sev, svl, cen, List.cons_append, List.nil_append] at h
            first
            | omega
            | skip
              refine d_call (b_asTold (d := d) hp (by omega) (h6 k) (hP k (by omega))) (by simp [cAs, cE2, sev, svl, cen] <;> omega) ?_
              intro rr M' hq
              obtain ⟨hM', hq⟩ := hq
              rw [hM']
              rcases hq with ⟨rfl, q3⟩ | ⟨rfl, q3⟩
              · refine ⟨rfl, ?_⟩
                refine d_br (fun h => ?_) (fun h => ?_)
                · simp only [cCmp, cE2, sev, svl, cen, List.cons_append, List.nil_append] at h
                  omega
                · clear h
                  refine d_opw 1 (k : Int) (by simp [cE2, sev, svl, cen] <;> omega) (by simp [cE2, sev, svl, cen] <;> omega) ?_
                  refine d_opw X (cfn 2 1 (k : Int)) (by simp [cE2, sev, svl, cen] <;> omega) (by simp [cE2, sev, svl, cen] <;> omega) ?_
                  refine d_rng (by simp only [clo, chi, cE2, sev, svl, cen, List.cons_append, List.nil_append]; omega) ?_
                  rw [yes ⟨by omega, q3⟩] at ih
                  refine d_cut [cfn 1 X (cfn 2 1 (k : Int)), ((k + 1 : Nat) : Int)] (by simp [cE2, sev, svl, cen] <;> omega) ?_
                  exact ih
              · refine ⟨rfl, ?_⟩
                refine d_br (fun h => ?_) (fun h => ?_)
                · clear h
                  refine d_rng (by simp only [clo, chi, cE2, sev, svl, cen, List.cons_append, List.nil_append]; omega) ?_
                  rw [no (fun z => q3 z.2)] at ih
                  refine d_cut [X, ((k + 1 : Nat) : Int)] (by simp [cE2, sev, svl, cen] <;> omega) ?_
                  exact ih
                · simp only [cCmp, cE2, sev, svl, cen, List.cons_append, List.nil_append] at h
                  omega
  refine cEnds_at gX5_agreeing_m0 rfl ?_
  refine d_cut [0, ((0 : Nat) : Int)] (by simp [cE2, sev, svl, cen] <;> omega) ?_
  exact loop 12 0 (by omega)
theorem b_together (hp : cPl tm tc tf EX) {P : Nat → List RC} {M : SMem} (hP : ∀ p, p < 12 → M 79 0 p = ((P p).length : Int)) (h6 : ∀ p, (P p).length ≤ 6) : cBG tm tf EX l dC dI cA ad scrS (d + 1) kX5_cutsTogether [(2, 10, 0)] M (fun rr MM => MM = M ∧ rr = [rSm P 12]) := by
  refine cMeth (v := []) (Fd := 90) hp (by decide) gX5_cutsTogether_ok gX5_cutsTogether_m0 (by simp [cAs, cE2, sev, svl, cen]) ?_
  have hb := rSm_b h6
  have loop : ∀ (m k : Nat), k + m = 12 → cEnds (cBG tm tf EX l dC dI cA ad scrS d) (fun rr MM => MM = M ∧ rr = [rSm P 12]) 90 gX5_cutsTogether 4 [rSm P k, (k : Int)] M := by
    intro m
    induction m with
    | zero =>
      intro k hk
      have hk : k = 12 := hk
      subst hk
      have b := hb 12
      refine cEnds_at gX5_cutsTogether_m4 rfl ?_
      refine d_br (fun h => ?_) (fun h => ?_)
      · exact wret1 (rSm P 12) (by simp only [cE2, sev, svl, cen, List.cons_append, List.nil_append]; omega) (by omega) ⟨rfl, rfl⟩
      · simp only [cCmp, cE2, sev, svl, cen, List.cons_append, List.nil_append] at h
        omega
    | succ m ih =>
      intro k hk
      have ih := ih (k + 1) (by omega)
      have b := hb k
      have b6 := h6 k
      rw [show rSm P (k + 1) = rSm P k + ((P k).length : Int) from rfl] at ih
      refine cEnds_at gX5_cutsTogether_m4 rfl ?_
      refine d_br (fun h => ?_) (fun h => ?_)
      · simp only [cCmp, cE2, sev, svl, cen, List.cons_append, List.nil_append] at h
        first
        | omega
        | skip
          exact wret1 (rSm P k) (by simp only [cE2, sev, svl, cen, List.cons_append, List.nil_append]; omega) (by omega) (by omega)
      · simp only [cCmp, cE2, sev, svl, cen, List.cons_append, List.nil_append] at h
        first
        | omega
        | skip
          refine d_row 0 k (by simp only [cE2, sev, svl, cen, List.cons_append, List.nil_append]; omega) (by simp only [cE2, sev, svl, cen, List.cons_append, List.nil_append]; omega) (by omega) ?_
          rw [hP k (by omega)]
          refine d_rng (by simp only [clo, chi, cE2, sev, svl, cen, List.cons_append, List.nil_append]; omega) ?_
          refine d_rng (by simp only [clo, chi, cE2, sev, svl, cen, List.cons_append, List.nil_append]; omega) ?_
          refine d_cut [rSm P k + ((P k).length : Int), ((k + 1 : Nat) : Int)] (by simp [cE2, sev, svl, cen] <;> omega) ?_
          exact ih
  refine cEnds_at gX5_cutsTogether_m0 rfl ?_
  refine d_cut [0, ((0 : Nat) : Int)] (by simp [cE2, sev, svl, cen] <;> omega) ?_
  exact loop 12 0 (by omega)
theorem rwf_M {B : Nat → List OLn} {M : SMem} (hI : sI tg M) (hB : ∀ r, r < 6 → oCl M r (B r)) : ∀ r, r ≤ 6 → (∀ p, rWf ((rRun (rZ M) B r).1 p)) ∧ 0 ≤ (rRun (rZ M) B r).2 ∧ (rRun (rZ M) B r).2 ≤ 144 * r :=
  rRun_wf (fun p => wIb (f := 93) (i := 0) (lo := -1) (hi := 7) hI p rfl) (fun r hr => ⟨(hB r hr).2.1, oCl_k (hB r hr)⟩)
theorem b_ran (hp : cPl tm tc tf EX) {B : Nat → List OLn} {a b : Int} {M : SMem} (hI : sI tg M) (hB : ∀ r, r < 6 → oCl M r (B r)) (hc : M 10 0 13 ≠ 0 → rCh (rZ M) B M) : cBG tm tf EX l dC dI cA ad scrS (d + 6) kX9_ran [(2, 0, 0), (0, 0, a), (0, 0, b)] M (fun rr MM => rr = [rRan (rZ M) B a b] ∧ rKX B M MM) := by
  have w := rwf_M hI hB
  have no : ¬ ((0 ≤ a ∧ a < 12 ∧ M 64 a.toNat 0 ≠ 0) ∧ 0 ≤ b ∧ b < 6) → rRan (rZ M) B a b = -1 := fun h => if_neg h
  have yes : ((0 ≤ a ∧ a < 12 ∧ M 64 a.toNat 0 ≠ 0) ∧ 0 ≤ b ∧ b < 6) → rRan (rZ M) B a b = (((rRun (rZ M) B (b.toNat + 1)).1 a.toNat).length : Int) := fun h => if_pos h
  refine cMeth (v := [a, b]) (Fd := 90) hp (by decide) gX9_ran_ok gX9_ran_m0 (by simp [cAs, cE2, sev, svl, cen]) ?_
  refine cEnds_at gX9_ran_m0 rfl ?_
  refine d_call (b_isPlace (d := d + 3) hp (a := a)) (by simp [cAs, cE2, sev, svl, cen] <;> omega) ?_
  intro rr M' hq
  obtain ⟨hM', hq⟩ := hq
  rw [hM']
  rcases hq with ⟨rfl, q2⟩ | ⟨rfl, q2⟩
  · refine ⟨rfl, ?_⟩
    refine d_br (fun h => ?_) (fun h => ?_)
    · simp only [cCmp, cE2, sev, svl, cen, List.cons_append, List.nil_append] at h
      omega
    · clear h
      refine d_call (b_isBelow (d := d + 4) hp (x := b) (y := 6)) (by simp [cAs, cE2, sev, svl, cen] <;> omega) ?_
      intro rr M' hq
      obtain ⟨hM', hq⟩ := hq
      rw [hM']
      rcases hq with ⟨rfl, q3⟩ | ⟨rfl, q3⟩
      · refine ⟨rfl, ?_⟩
        refine d_br (fun h => ?_) (fun h => ?_)
        · clear h
          refine d_call (b_perform (d := d) hp hI hB hc) (by simp [cAs, cE2, sev, svl, cen] <;> omega) ?_
          intro rr M1 hq
          obtain ⟨rfl, i1, f1, c1⟩ := hq
          have e9 : M1 83 0 (a.toNat + 12 * b.toNat) = (((rRun (rZ M) B (b.toNat + 1)).1 a.toNat).length : Int) := by rw [show a.toNat + 12 * b.toNat = 12 * b.toNat + a.toNat by omega]; exact c1.2.2.1 _ _ (by omega) (by omega)
          have b9 := ((w (b.toNat + 1) (by omega)).1 a.toNat).1
          refine ⟨rfl, ?_⟩
          refine d_rng (by simp only [clo, chi, cE2, sev, svl, cen, List.cons_append, List.nil_append]; omega) ?_
          refine d_rng (by simp only [clo, chi, cE2, sev, svl, cen, List.cons_append, List.nil_append]; omega) ?_
          refine d_row 0 (a.toNat + 12 * b.toNat) (by simp only [cE2, sev, svl, cen, List.cons_append, List.nil_append]; omega) (by simp only [cE2, sev, svl, cen, List.cons_append, List.nil_append]; omega) (by omega) ?_
          rw [e9]
          exact wret1 (((rRun (rZ M) B (b.toNat + 1)).1 a.toNat).length : Int) (by simp only [cE2, sev, svl, cen, List.cons_append, List.nil_append]; omega) (by omega) ⟨by rw [yes ⟨q2, q3⟩], rKX_o i1 f1 c1⟩
        · simp only [cCmp, cE2, sev, svl, cen, List.cons_append, List.nil_append] at h
          omega
      · refine ⟨rfl, ?_⟩
        refine d_br (fun h => ?_) (fun h => ?_)
        · simp only [cCmp, cE2, sev, svl, cen, List.cons_append, List.nil_append] at h
          omega
        · clear h
          exact d_ret [(-1)] rfl (by decide) ⟨by rw [no (fun z => q3 z.2)], rKX_r hI hc⟩
  · refine ⟨rfl, ?_⟩
    refine d_br (fun h => ?_) (fun h => ?_)
    · clear h
      exact d_ret [(-1)] rfl (by decide) ⟨by rw [no (fun z => q2 z.1)], rKX_r hI hc⟩
    · simp only [cCmp, cE2, sev, svl, cen, List.cons_append, List.nil_append] at h
      omega
theorem b_made (hp : cPl tm tc tf EX) {B : Nat → List OLn} {a b w : Int} {M : SMem} (hI : sI tg M) (hB : ∀ r, r < 6 → oCl M r (B r)) (hc : M 10 0 13 ≠ 0 → rCh (rZ M) B M) : cBG tm tf EX l dC dI cA ad scrS (d + 6) kX9_made [(2, 0, 0), (0, 0, a), (0, 0, b), (0, 0, w)] M (fun rr MM => rr = [rMade (rZ M) B a b w] ∧ rKX B M MM) := by
  have ww := rwf_M hI hB
  have no : ¬ ((0 ≤ a ∧ a < 12 ∧ M 64 a.toNat 0 ≠ 0) ∧ (0 ≤ w ∧ w < 3) ∧ 0 ≤ b) → rMade (rZ M) B a b w = -1 := fun h => if_neg h
  have no2 : ((rRun (rZ M) B 6).1 a.toNat).length ≤ b.toNat → rMade (rZ M) B a b w = -1 := fun h => by
    unfold rMade
    split
    · rw [List.getElem?_eq_none h]
    · rfl
  have yes : ∀ c, ((0 ≤ a ∧ a < 12 ∧ M 64 a.toNat 0 ≠ 0) ∧ (0 ≤ w ∧ w < 3) ∧ 0 ≤ b) → ((rRun (rZ M) B 6).1 a.toNat)[b.toNat]? = some c → rMade (rZ M) B a b w = if w = 0 then c.1 else if w = 1 then c.2.1 else c.2.2 := fun c h hc => by
    unfold rMade
    rw [if_pos (show (0 ≤ a ∧ a < 12 ∧ (rZ M).1 a.toNat 0 ≠ 0) ∧ (0 ≤ w ∧ w < 3) ∧ 0 ≤ b from h), hc]
  obtain ⟨n, hn⟩ : ∃ n, n = ((rRun (rZ M) B 6).1 a.toNat).length := ⟨_, rfl⟩
  refine cMeth (v := [a, b, w]) (Fd := 90) hp (by decide) gX9_made_ok gX9_made_m0 (by simp [cAs, cE2, sev, svl, cen]) ?_
  refine cEnds_at gX9_made_m0 rfl ?_
  refine d_call (b_isPlace (d := d + 3) hp (a := a)) (by simp [cAs, cE2, sev, svl, cen] <;> omega) ?_
  intro rr M' hq
  obtain ⟨hM', hq⟩ := hq
  rw [hM']
  rcases hq with ⟨rfl, q3⟩ | ⟨rfl, q3⟩
  · refine ⟨rfl, ?_⟩
    refine d_br (fun h => ?_) (fun h => ?_)
    · simp only [cCmp, cE2, sev, svl, cen, List.cons_append, List.nil_append] at h
      omega
    · clear h
      refine d_call (b_isBelow (d := d + 4) hp (x := w) (y := 3)) (by simp [cAs, cE2, sev, svl, cen] <;> omega) ?_
      intro rr M' hq
      obtain ⟨hM', hq⟩ := hq
      rw [hM']
      rcases hq with ⟨rfl, q4⟩ | ⟨rfl, q4⟩
      · refine ⟨rfl, ?_⟩
        refine d_br (fun h => ?_) (fun h => ?_)
        · clear h
          refine d_call (b_perform (d := d) hp hI hB hc) (by simp [cAs, cE2, sev, svl, cen] <;> omega) ?_
          intro rr M1 hq
          obtain ⟨rfl, i1, f1, c1⟩ := hq
          have e9 : M1 79 0 a.toNat = (n : Int) := by rw [hn]; exact (c1.1 a.toNat (by omega)).1
          have e8 : ∀ c, ((rRun (rZ M) B 6).1 a.toNat)[b.toNat]? = some c → M1 80 0 (6 * a.toNat + b.toNat) = c.1 ∧ M1 81 0 (6 * a.toNat + b.toNat) = c.2.1 ∧ M1 82 0 (6 * a.toNat + b.toNat) = c.2.2 := fun c hcc => (c1.1 a.toNat (by omega)).2 _ c hcc
          have b9 := ((ww 6 (by omega)).1 a.toNat).1
          have b80 := wIb (f := 80) (i := 6 * a.toNat + b.toNat) (lo := -1) (hi := 5) i1 0 rfl
          have b81 := wIb (f := 81) (i := 6 * a.toNat + b.toNat) (lo := 0) (hi := 4) i1 0 rfl
          have b82 := wIb (f := 82) (i := 6 * a.toNat + b.toNat) (lo := -1) (hi := 7) i1 0 rfl
          refine ⟨rfl, ?_⟩
          refine d_row 0 a.toNat (by simp only [cE2, sev, svl, cen, List.cons_append, List.nil_append]; omega) (by simp only [cE2, sev, svl, cen, List.cons_append, List.nil_append]; omega) (by omega) ?_
          rw [e9]
          refine d_call (b_isBelow (d := d + 4) hp (x := b) (y := (n : Int))) (by simp [cAs, cE2, sev, svl, cen] <;> omega) ?_
          intro rr M' hq
          obtain ⟨hM', hq⟩ := hq
          rw [hM']
          rcases hq with ⟨rfl, q6⟩ | ⟨rfl, q6⟩
          · refine ⟨rfl, ?_⟩
            refine d_br (fun h => ?_) (fun h => ?_)
            · clear h
              refine d_rng (by simp only [clo, chi, cE2, sev, svl, cen, List.cons_append, List.nil_append]; omega) ?_
              refine d_rng (by simp only [clo, chi, cE2, sev, svl, cen, List.cons_append, List.nil_append]; omega) ?_
              refine d_br (fun h => ?_) (fun h => ?_)
              · simp only [cCmp, cE2, sev, svl, cen, List.cons_append, List.nil_append] at h
                first
                | omega
                | skip
                  refine d_br (fun h => ?_) (fun h => ?_)
                  · simp only [cCmp, cE2, sev, svl, cen, List.cons_append, List.nil_append] at h
                    first
                    | omega
                    | skip
                      refine d_row 0 (6 * a.toNat + b.toNat) (by simp only [cE2, sev, svl, cen, List.cons_append, List.nil_append]; omega) (by simp only [cE2, sev, svl, cen, List.cons_append, List.nil_append]; omega) (by omega) ?_
                      obtain ⟨c, hcc⟩ := rGet (st := (rRun (rZ M) B 6).1 a.toNat) (k := b.toNat) (by omega)
                      exact wret1 (M1 82 0 (6 * a.toNat + b.toNat)) (by simp only [cE2, sev, svl, cen, List.cons_append, List.nil_append]; omega) (by omega) ⟨by rw [yes c ⟨q3, q4, by omega⟩ hcc, if_neg (by omega), if_neg (by omega), (e8 c hcc).2.2], rKX_o i1 f1 c1⟩
                  · simp only [cCmp, cE2, sev, svl, cen, List.cons_append, List.nil_append] at h
                    first
                    | omega
                    | skip
                      refine d_row 0 (6 * a.toNat + b.toNat) (by simp only [cE2, sev, svl, cen, List.cons_append, List.nil_append]; omega) (by simp only [cE2, sev, svl, cen, List.cons_append, List.nil_append]; omega) (by omega) ?_
                      obtain ⟨c, hcc⟩ := rGet (st := (rRun (rZ M) B 6).1 a.toNat) (k := b.toNat) (by omega)
                      exact wret1 (M1 81 0 (6 * a.toNat + b.toNat)) (by simp only [cE2, sev, svl, cen, List.cons_append, List.nil_append]; omega) (by omega) ⟨by rw [yes c ⟨q3, q4, by omega⟩ hcc, if_neg (by omega), if_pos (by omega), (e8 c hcc).2.1], rKX_o i1 f1 c1⟩
              · simp only [cCmp, cE2, sev, svl, cen, List.cons_append, List.nil_append] at h
                first
                | omega
                | skip
                  refine d_row 0 (6 * a.toNat + b.toNat) (by simp only [cE2, sev, svl, cen, List.cons_append, List.nil_append]; omega) (by simp only [cE2, sev, svl, cen, List.cons_append, List.nil_append]; omega) (by omega) ?_
                  obtain ⟨c, hcc⟩ := rGet (st := (rRun (rZ M) B 6).1 a.toNat) (k := b.toNat) (by omega)
                  exact wret1 (M1 80 0 (6 * a.toNat + b.toNat)) (by simp only [cE2, sev, svl, cen, List.cons_append, List.nil_append]; omega) (by omega) ⟨by rw [yes c ⟨q3, q4, by omega⟩ hcc, if_pos (by omega), (e8 c hcc).1], rKX_o i1 f1 c1⟩
            · simp only [cCmp, cE2, sev, svl, cen, List.cons_append, List.nil_append] at h
              omega
          · refine ⟨rfl, ?_⟩
            refine d_br (fun h => ?_) (fun h => ?_)
            · simp only [cCmp, cE2, sev, svl, cen, List.cons_append, List.nil_append] at h
              omega
            · clear h
              refine d_ret [-1] rfl (by decide) ⟨?_, rKX_o i1 f1 c1⟩
              exact (Decidable.em (0 ≤ b)).elim (fun z => by rw [no2 (by omega)]) (fun z => by rw [no (fun y => z y.2.2)])
        · simp only [cCmp, cE2, sev, svl, cen, List.cons_append, List.nil_append] at h
          omega
      · refine ⟨rfl, ?_⟩
        refine d_br (fun h => ?_) (fun h => ?_)
        · simp only [cCmp, cE2, sev, svl, cen, List.cons_append, List.nil_append] at h
          omega
        · clear h
          exact d_ret [(-1)] rfl (by decide) ⟨by rw [no (fun z => q4 z.2.1)], rKX_r hI hc⟩
  · refine ⟨rfl, ?_⟩
    refine d_br (fun h => ?_) (fun h => ?_)
    · clear h
      exact d_ret [(-1)] rfl (by decide) ⟨by rw [no (fun z => q3 z.1)], rKX_r hI hc⟩
    · simp only [cCmp, cE2, sev, svl, cen, List.cons_append, List.nil_append] at h
      omega
theorem b_missed (hp : cPl tm tc tf EX) {B : Nat → List OLn} {a : Int} {M : SMem} (hI : sI tg M) (hB : ∀ r, r < 6 → oCl M r (B r)) (hc : M 10 0 13 ≠ 0 → rCh (rZ M) B M) : cBG tm tf EX l dC dI cA ad scrS (d + 6) kX9_missed [(2, 0, 0), (0, 0, a)] M (fun rr MM => rr = [rMissed (rZ M) B a] ∧ rKX B M MM) := by
  have no : ¬ (0 ≤ a ∧ a < 6) → rMissed (rZ M) B a = -1 := fun h => if_neg h
  have yes : (0 ≤ a ∧ a < 6) → rMissed (rZ M) B a = rMs (rZ M) B a.toNat := fun h => if_pos h
  have bm : -2147483648 ≤ rMs (rZ M) B a.toNat ∧ rMs (rZ M) B a.toNat ≤ 2147483647 := wBt_r _ 12
  refine cMeth (v := [a]) (Fd := 90) hp (by decide) gX9_missed_ok gX9_missed_m0 (by simp [cAs, cE2, sev, svl, cen]) ?_
  refine cEnds_at gX9_missed_m0 rfl ?_
  refine d_call (b_isBelow (d := d + 4) hp (x := a) (y := 6)) (by simp [cAs, cE2, sev, svl, cen] <;> omega) ?_
  intro rr M' hq
  obtain ⟨hM', hq⟩ := hq
  rw [hM']
  rcases hq with ⟨rfl, q1⟩ | ⟨rfl, q1⟩
  · refine ⟨rfl, ?_⟩
    refine d_br (fun h => ?_) (fun h => ?_)
    · clear h
      refine d_call (b_perform (d := d) hp hI hB hc) (by simp [cAs, cE2, sev, svl, cen] <;> omega) ?_
      intro rr M1 hq
      obtain ⟨rfl, i1, f1, c1⟩ := hq
      have e9 := c1.2.2.2 a.toNat (by omega)
      refine ⟨rfl, ?_⟩
      refine d_row 0 a.toNat (by simp only [cE2, sev, svl, cen, List.cons_append, List.nil_append]; omega) (by simp only [cE2, sev, svl, cen, List.cons_append, List.nil_append]; omega) (by omega) ?_
      rw [e9]
      exact wret1 (rMs (rZ M) B a.toNat) (by simp only [cE2, sev, svl, cen, List.cons_append, List.nil_append]; omega) (by omega) ⟨by rw [yes q1], rKX_o i1 f1 c1⟩
    · simp only [cCmp, cE2, sev, svl, cen, List.cons_append, List.nil_append] at h
      omega
  · refine ⟨rfl, ?_⟩
    refine d_br (fun h => ?_) (fun h => ?_)
    · simp only [cCmp, cE2, sev, svl, cen, List.cons_append, List.nil_append] at h
      omega
    · clear h
      exact d_ret [(-1)] rfl (by decide) ⟨by rw [no q1], rKX_r hI hc⟩
theorem b_agrees (hp : cPl tm tc tf EX) {B : Nat → List OLn} {w : Int} {M : SMem} (hI : sI tg M) (hB : ∀ r, r < 6 → oCl M r (B r)) (hc : M 10 0 13 ≠ 0 → rCh (rZ M) B M) : cBG tm tf EX l dC dI cA ad scrS (d + 6) kX9_agrees [(2, 0, 0), (0, 0, w)] M (fun rr MM => rr = [rAgr (rZ M) B (fun p st => rAs (M 64 p 5) (M 92 p) (M 93 p) st) w] ∧ rKX B M MM) := by
  have ww := (rwf_M hI hB 6 (Nat.le_refl 6))
  have h6 : ∀ p, ((rRun (rZ M) B 6).1 p).length ≤ 6 := fun p => (ww.1 p).1
  have bs := rSm_b h6 12
  have bb := wBt_r (wDc (fun p => (rZ M).1 p 0 ≠ 0 ∧ (fun p st => rAs (M 64 p 5) (M 92 p) (M 93 p) st) p ((rRun (rZ M) B 6).1 p))) 12
  obtain ⟨V, hV⟩ : ∃ V, V = wBt (wDc (fun p => (rZ M).1 p 0 ≠ 0 ∧ (fun p st => rAs (M 64 p 5) (M 92 p) (M 93 p) st) p ((rRun (rZ M) B 6).1 p))) 12 := ⟨_, rfl⟩
  rw [← hV] at bb
  have v0 : w = 0 → rAgr (rZ M) B (fun p st => rAs (M 64 p 5) (M 92 p) (M 93 p) st) w = V := fun h => by rw [hV]; exact if_pos h
  have v1 : w = 1 → rAgr (rZ M) B (fun p st => rAs (M 64 p 5) (M 92 p) (M 93 p) st) w = (rRun (rZ M) B 6).2 := fun h => by unfold rAgr; rw [if_neg (by omega), if_pos h]
  have v2 : w = 2 → rAgr (rZ M) B (fun p st => rAs (M 64 p 5) (M 92 p) (M 93 p) st) w = rSm (rRun (rZ M) B 6).1 12 := fun h => by unfold rAgr; rw [if_neg (by omega), if_neg (by omega), if_pos h]
  have v3 : ¬ (0 ≤ w ∧ w < 3) → rAgr (rZ M) B (fun p st => rAs (M 64 p 5) (M 92 p) (M 93 p) st) w = -1 := fun h => by unfold rAgr; rw [if_neg (by omega), if_neg (by omega), if_neg (by omega)]
  have cAg : ∀ M1 : SMem, rXf M M1 → rCh (rZ M) B M1 → cBG tm tf EX l dC dI cA ad scrS (d + 5) kX5_agreeing [(2, 10, 0)] M1 (fun rr MM => MM = M1 ∧ rr = [V]) := fun M1 f1 c1 => by
    have w9 := b_agreeing (EX := EX) (l := l) (dC := dC) (dI := dI) (cA := cA) (ad := ad) (scrS := scrS) (d := d + 3) hp (P := (rRun (rZ M) B 6).1) (M := M1) c1.1 h6
    have e : ∀ f j i, f = 64 ∨ f = 92 ∨ f = 93 → M1 f j i = M f j i := fun f j i hf => f1 f j i (by simp only [List.mem_cons, List.not_mem_nil, or_false, not_or]; omega) (by omega)
    rw [show V = wBt (wDc (fun p => M1 64 p 0 ≠ 0 ∧ rAs (M1 64 p 5) (M1 92 p) (M1 93 p) ((rRun (rZ M) B 6).1 p))) 12 by
      rw [hV]
      refine wBt_cg 12 (fun p _ => wDc_cg ?_)
      rw [e 64 p 0 (by omega), rAs_cg (e 64 p 5 (by omega)) (fun k _ => ⟨e 92 p k (by omega), e 93 p k (by omega)⟩)]
      exact Iff.rfl]
    exact w9
  refine cMeth (v := [w]) (Fd := 90) hp (by decide) gX9_agrees_ok gX9_agrees_m0 (by simp [cAs, cE2, sev, svl, cen]) ?_
  refine cEnds_at gX9_agrees_m0 rfl ?_
  refine d_call (b_isBelow (d := d + 4) hp (x := w) (y := 3)) (by simp [cAs, cE2, sev, svl, cen] <;> omega) ?_
  intro rr M' hq
  obtain ⟨hM', hq⟩ := hq
  rw [hM']
  rcases hq with ⟨rfl, q1⟩ | ⟨rfl, q1⟩
  · refine ⟨rfl, ?_⟩
    refine d_br (fun h => ?_) (fun h => ?_)
    · clear h
      refine d_call (b_perform (d := d) hp hI hB hc) (by simp [cAs, cE2, sev, svl, cen] <;> omega) ?_
      intro rr M1 hq
      obtain ⟨rfl, i1, f1, c1⟩ := hq
      refine ⟨rfl, ?_⟩
      refine d_br (fun h => ?_) (fun h => ?_)
      · simp only [cCmp, cE2, sev, svl, cen, List.cons_append, List.nil_append] at h
        first
        | omega
        | skip
          refine d_br (fun h => ?_) (fun h => ?_)
          · simp only [cCmp, cE2, sev, svl, cen, List.cons_append, List.nil_append] at h
            first
            | omega
            | skip
              refine d_call (b_together (d := d + 4) hp (P := (rRun (rZ M) B 6).1) (fun p hp9 => (c1.1 p hp9).1) h6) (by simp [cAs, cE2, sev, svl, cen] <;> omega) ?_
              intro rr M' hq
              obtain ⟨hM', rfl⟩ := hq
              rw [hM']
              refine ⟨rfl, ?_⟩
              exact wret1 (rSm (rRun (rZ M) B 6).1 12) (by simp only [cE2, sev, svl, cen, List.cons_append, List.nil_append]; omega) (by omega) ⟨by rw [v2 (by omega)], rKX_o i1 f1 c1⟩
          · simp only [cCmp, cE2, sev, svl, cen, List.cons_append, List.nil_append] at h
            first
            | omega
            | skip
              refine d_fld 0 (by simp only [cE2, sev, svl, cen, List.cons_append, List.nil_append]; omega) ?_
              rw [c1.2.1]
              exact wret1 ((rRun (rZ M) B 6).2) (by simp only [cE2, sev, svl, cen, List.cons_append, List.nil_append]; omega) (by omega) ⟨by rw [v1 (by omega)], rKX_o i1 f1 c1⟩
      · simp only [cCmp, cE2, sev, svl, cen, List.cons_append, List.nil_append] at h
        first
        | omega
        | skip
          refine d_call (cAg M1 f1 c1) (by simp [cAs, cE2, sev, svl, cen] <;> omega) ?_
          intro rr M' hq
          obtain ⟨hM', rfl⟩ := hq
          rw [hM']
          refine ⟨rfl, ?_⟩
          exact wret1 V (by simp only [cE2, sev, svl, cen, List.cons_append, List.nil_append]; omega) (by omega) ⟨by rw [v0 (by omega)], rKX_o i1 f1 c1⟩
    · simp only [cCmp, cE2, sev, svl, cen, List.cons_append, List.nil_append] at h
      omega
  · refine ⟨rfl, ?_⟩
    refine d_br (fun h => ?_) (fun h => ?_)
    · simp only [cCmp, cE2, sev, svl, cen, List.cons_append, List.nil_append] at h
      omega
    · clear h
      exact d_ret [(-1)] rfl (by decide) ⟨by rw [v3 q1], rKX_r hI hc⟩
theorem b_works (hp : cPl tm tc tf EX) {a b s : Int} {M : SMem} (hs : 0 ≤ s ∧ s ≤ 1) : cBG tm tf EX l dC dI cA ad scrS (d + 3) kX9_works [(2, 0, 0), (0, 0, a), (0, 0, b), (0, 0, s)] M (fun rr MM => (((0 ≤ a ∧ a < 6) ∧ 0 ≤ b ∧ b < 100) ∧ rr = [1] ∧ MM = supd (supd (supd M 77 0 a.toNat b) 78 0 a.toNat s) 10 0 13 0) ∨ (¬ ((0 ≤ a ∧ a < 6) ∧ 0 ≤ b ∧ b < 100) ∧ rr = [0] ∧ MM = M)) := by
  refine cMeth (v := [a, b, s]) (Fd := 90) hp (by decide) gX9_works_ok gX9_works_m0 (by simp [cAs, cE2, sev, svl, cen]) ?_
  refine cEnds_at gX9_works_m0 rfl ?_
  refine d_call (b_isBelow (d := d + 1) hp (x := a) (y := 6)) (by simp [cAs, cE2, sev, svl, cen] <;> omega) ?_
  intro rr M' hq
  obtain ⟨hM', hq⟩ := hq
  rw [hM']
  rcases hq with ⟨rfl, q3⟩ | ⟨rfl, q3⟩
  · refine ⟨rfl, ?_⟩
    refine d_br (fun h => ?_) (fun h => ?_)
    · simp only [cCmp, cE2, sev, svl, cen, List.cons_append, List.nil_append] at h
      omega
    · clear h
      refine d_call (b_isBelow (d := d + 1) hp (x := b) (y := 100)) (by simp [cAs, cE2, sev, svl, cen] <;> omega) ?_
      intro rr M' hq
      obtain ⟨hM', hq⟩ := hq
      rw [hM']
      rcases hq with ⟨rfl, q4⟩ | ⟨rfl, q4⟩
      · refine ⟨rfl, ?_⟩
        refine d_br (fun h => ?_) (fun h => ?_)
        · clear h
          refine d_set 0 a.toNat b (by simp only [cE2, sev, svl, cen, List.cons_append, List.nil_append]; omega) (by simp only [cE2, sev, svl, cen, List.cons_append, List.nil_append]; omega) (by omega) (by simp only [cE2, sev, svl, cen, List.cons_append, List.nil_append]; omega) ?_
          refine d_rng (by simp only [clo, chi, cE2, sev, svl, cen, List.cons_append, List.nil_append]; omega) ?_
          refine d_set 0 a.toNat s (by simp only [cE2, sev, svl, cen, List.cons_append, List.nil_append]; omega) (by simp only [cE2, sev, svl, cen, List.cons_append, List.nil_append]; omega) (by omega) (by simp only [cE2, sev, svl, cen, List.cons_append, List.nil_append]; omega) ?_
          refine d_call (b_forget5x (d := d + 1) hp) (by simp [cAs, cE2, sev, svl, cen] <;> omega) ?_
          intro rr M' hq
          obtain ⟨rfl, hM'⟩ := hq
          rw [hM']
          refine ⟨rfl, ?_⟩
          exact d_ret [1] rfl (by decide) (Or.inl ⟨by omega, rfl, rfl⟩)
        · simp only [cCmp, cE2, sev, svl, cen, List.cons_append, List.nil_append] at h
          omega
      · refine ⟨rfl, ?_⟩
        refine d_br (fun h => ?_) (fun h => ?_)
        · simp only [cCmp, cE2, sev, svl, cen, List.cons_append, List.nil_append] at h
          omega
        · clear h
          exact d_ret [0] rfl (by decide) (Or.inr ⟨by omega, rfl, rfl⟩)
  · refine ⟨rfl, ?_⟩
    refine d_br (fun h => ?_) (fun h => ?_)
    · clear h
      exact d_ret [0] rfl (by decide) (Or.inr ⟨by omega, rfl, rfl⟩)
    · simp only [cCmp, cE2, sev, svl, cen, List.cons_append, List.nil_append] at h
      omega
end CR5
