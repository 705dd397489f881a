/-! the run: the class does it all -/
theorem rPs_s {Z : RZT} {r : Nat} {ls : List OLn} {X : RST} {k p : Nat} (h : p ≠ k) : (rPs Z r ls X (k + 1)).1 p = (rPs Z r ls X k).1 p := if_neg h
theorem rPs_t {Z : RZT} {r : Nat} {ls : List OLn} {X : RST} {k : Nat} : (rPs Z r ls X (k + 1)).1 k = (rOb Z r k ls ((rPs Z r ls X k).1 k, (rPs Z r ls X k).2)).1 := if_pos rfl
theorem rPs_st {Z : RZT} {r : Nat} {ls : List OLn} {X : RST} {k p : Nat} (h : p < k) : ∀ m, (rPs Z r ls X (k + m)).1 p = (rPs Z r ls X k).1 p := by
  intro m
  induction m with
  | zero => rfl
  | succ m ih =>
    rw [← ih]
    exact rPs_s (k := k + m) (by omega)
/-- what is held of a run is so -/
def rCh (Z : RZT) (B : Nat → List OLn) (M : SMem) : Prop := (∀ p, p < 12 → rLg 79 80 81 82 M p ((rRun Z B 6).1 p)) ∧ M 10 0 12 = (rRun Z B 6).2 ∧ (∀ r p, r < 6 → p < 12 → M 83 0 (12 * r + p) = (((rRun Z B (r + 1)).1 p).length : Int)) ∧ ∀ r, r < 6 → M 84 0 r = rMs Z B r
abbrev rXf (M MM : SMem) : Prop := ∀ f j i, f ∉ [79, 80, 81, 82, 83, 84, 85] → ¬ (f = 10 ∧ (i = 12 ∨ i = 13)) → MM f j i = M f j i
theorem rXf_Z {M MM : SMem} (h : rXf M MM) : rZ MM = rZ M := rZ_cg (fun f hf => by
  funext j i
  simp only [List.mem_cons, List.not_mem_nil, or_false] at hf
  refine h f j i (fun q => ?_) (by omega)
  simp only [List.mem_cons, List.not_mem_nil, or_false] at q
  omega)
theorem rXf_C {M MM : SMem} {r : Nat} {ls : List OLn} (h : rXf M MM) (g : oCl M r ls) : oCl MM r ls := oCl_cg (fun f i hf => h f r i (fun q => by
  simp only [List.mem_cons, List.not_mem_nil, or_false] at q
  omega) (by omega)) g
theorem rXf_t {M M1 M2 : SMem} (h1 : rXf M M1) (h2 : rXf M1 M2) : rXf M M2 := fun f j i a b => (h2 f j i a b).trans (h1 f j i a b)
section CR4
variable {EX : SEx} {l : Launch} {dC : Nat → ClassId} {dI : Nat → Nat → Nat} {cA : Nat → ClassId} {ad : SAd} {scrS d : Nat}
theorem b_against (hp : cPl tm tc tf EX) {r : Nat} {t : Int} {ls : List OLn} {M : SMem} (hL : oCl M r ls) (hr : r < 6) : cBG tm tf EX l dC dI cA ad scrS (d + 2) kX5_isAgainst [(2, 74, (r : Int)), (0, 0, t)] M (fun rr MM => MM = M ∧ ((rr = [1] ∧ (rAg ls t)) ∨ (rr = [0] ∧ ¬ (rAg ls t)))) := by
  refine cMeth (v := [(r : Int), t]) (Fd := 90) hp (by decide) gX5_isAgainst_ok gX5_isAgainst_m0 (by simp [cAs, cE2, sev, svl, cen]) ?_
  have h12 := hL.2.1
  have e74 := hL.1
  have loop : ∀ (m k : Nat), k + m = ls.length → (∀ (j : Nat) (q : OLn), j < k → ls[j]? = some q → ¬ ((q.1 + 1 = 1 ∨ q.1 + 1 = 2) ∧ q.2.1 = t)) → cEnds (cBG tm tf EX l dC dI cA ad scrS (d + 1)) (fun rr MM => MM = M ∧ ((rr = [1] ∧ (rAg ls t)) ∨ (rr = [0] ∧ ¬ (rAg ls t)))) 90 gX5_isAgainst 2 [(r : Int), t, (k : Int)] M := by
    intro m
    induction m with
    | zero =>
      intro k hk hn
      refine cEnds_at gX5_isAgainst_m2 rfl ?_
      refine d_fld r (by simp only [cE2, sev, svl, cen, List.cons_append, List.nil_append]; omega) ?_
      rw [e74]
      refine d_br (fun h => ?_) (fun h => ?_)
      · simp only [cCmp, cE2, sev, svl, cen, List.cons_append, List.nil_append] at h
        first
        | omega
        | skip
          exact d_ret [0] rfl (by decide) ⟨rfl, Or.inr ⟨rfl, fun ⟨j, q, h1, h2, h3⟩ => hn j q (by have := (List.getElem?_eq_some_iff.mp h1).1; omega) h1 ⟨h2, h3⟩⟩⟩
      · simp only [cCmp, cE2, sev, svl, cen, List.cons_append, List.nil_append] at h
        first
        | omega
        | skip
          refine d_row r k (by simp only [cE2, sev, svl, cen, List.cons_append, List.nil_append]; omega) (by simp only [cE2, sev, svl, cen, List.cons_append, List.nil_append]; omega) (by omega) ?_
          omega
    | succ m ih =>
      intro k hk hn
      obtain ⟨q, hq⟩ : ∃ q, ls[k]? = some q := ⟨_, List.getElem?_eq_getElem (by omega)⟩
      obtain ⟨k1, k2, k3, -⟩ := hL.2.2 k q hq
      have nxt : ¬ ((q.1 + 1 = 1 ∨ q.1 + 1 = 2) ∧ q.2.1 = t) → cEnds (cBG tm tf EX l dC dI cA ad scrS (d + 1)) (fun rr MM => MM = M ∧ ((rr = [1] ∧ (rAg ls t)) ∨ (rr = [0] ∧ ¬ (rAg ls t)))) 90 gX5_isAgainst 2 [(r : Int), t, ((k + 1 : Nat) : Int)] M := fun h => ih (k + 1) (by omega) (fun j q' hj hq' => by
        by_cases e : j = k
        · subst e
          cases hq.symm.trans hq'
          exact h
        · exact hn j q' (by omega) hq')
      refine cEnds_at gX5_isAgainst_m2 rfl ?_
      refine d_fld r (by simp only [cE2, sev, svl, cen, List.cons_append, List.nil_append]; omega) ?_
      rw [e74]
      refine d_br (fun h => ?_) (fun h => ?_)
      · simp only [cCmp, cE2, sev, svl, cen, List.cons_append, List.nil_append] at h
        first
        | omega
        | skip
          exact d_ret [0] rfl (by decide) (by omega)
      · simp only [cCmp, cE2, sev, svl, cen, List.cons_append, List.nil_append] at h
        first
        | omega
        | skip
          refine d_row r k (by simp only [cE2, sev, svl, cen, List.cons_append, List.nil_append]; omega) (by simp only [cE2, sev, svl, cen, List.cons_append, List.nil_append]; omega) (by omega) ?_
          rw [k2]
          refine d_call (b_isErasure (d := d) hp (x := (q.1 + 1))) (by simp [cAs, cE2, sev, svl, cen] <;> omega) ?_
          intro rr M' hq
          obtain ⟨hM', hq⟩ := hq
          rw [hM']
          rcases hq with ⟨rfl, q5⟩ | ⟨rfl, q5⟩
          · refine ⟨rfl, ?_⟩
            refine d_br (fun h => ?_) (fun h => ?_)
            · simp only [cCmp, cE2, sev, svl, cen, List.cons_append, List.nil_append] at h
              omega
            · clear h
              refine d_row r k (by simp only [cE2, sev, svl, cen, List.cons_append, List.nil_append]; omega) (by simp only [cE2, sev, svl, cen, List.cons_append, List.nil_append]; omega) (by omega) ?_
              rw [k3]
              refine d_br (fun h => ?_) (fun h => ?_)
              · simp only [cCmp, cE2, sev, svl, cen, List.cons_append, List.nil_append] at h
                first
                | omega
                | skip
                  refine d_rng (by simp only [clo, chi, cE2, sev, svl, cen, List.cons_append, List.nil_append]; omega) ?_
                  refine d_cut [(r : Int), t, ((k + 1 : Nat) : Int)] (by simp [cE2, sev, svl, cen] <;> omega) ?_
                  exact nxt (fun z => by omega)
              · simp only [cCmp, cE2, sev, svl, cen, List.cons_append, List.nil_append] at h
                first
                | omega
                | skip
                  exact d_ret [1] rfl (by decide) ⟨rfl, Or.inl ⟨rfl, k, q, hq, q5, by omega⟩⟩
          · refine ⟨rfl, ?_⟩
            refine d_br (fun h => ?_) (fun h => ?_)
            · clear h
              refine d_rng (by simp only [clo, chi, cE2, sev, svl, cen, List.cons_append, List.nil_append]; omega) ?_
              refine d_cut [(r : Int), t, ((k + 1 : Nat) : Int)] (by simp [cE2, sev, svl, cen] <;> omega) ?_
              exact nxt (fun z => q5 z.1)
            · simp only [cCmp, cE2, sev, svl, cen, List.cons_append, List.nil_append] at h
              omega
  refine cEnds_at gX5_isAgainst_m0 rfl ?_
  refine d_cut [(r : Int), t, ((0 : Nat) : Int)] (by simp [cE2, sev, svl, cen] <;> omega) ?_
  exact loop ls.length 0 (by omega) (fun j q hj => absurd hj (Nat.not_lt_zero j))
theorem b_findMissed (hp : cPl tm tc tf EX) {r : Nat} {ls : List OLn} {P : Nat → List RC} {M : SMem} (hI : sI tg M) (hL : oCl M r ls) (hr : r < 6) (hP : ∀ p, p < 12 → rLg 79 80 81 82 M p (P p)) (hw : ∀ p, rWf (P p)) : cBG tm tf EX l dC dI cA ad scrS (d + 3) kX5_findMissed [(2, 10, 0), (0, 0, (r : Int))] M (fun rr MM => MM = M ∧ rr = [wBt (wDc (fun p => rTop (P p) ≠ -1 ∧ rAg ls (rTop (P p)))) 12]) := by
  refine cMeth (v := [(r : Int)]) (Fd := 90) hp (by decide) gX5_findMissed_ok gX5_findMissed_m0 (by simp [cAs, cE2, sev, svl, cen]) ?_
  have loop : ∀ (m k : Nat), k + m = 12 → cEnds (cBG tm tf EX l dC dI cA ad scrS (d + 2)) (fun rr MM => MM = M ∧ rr = [wBt (wDc (fun p => rTop (P p) ≠ -1 ∧ rAg ls (rTop (P p)))) 12]) 90 gX5_findMissed 4 [(r : Int), wBt (wDc (fun p => rTop (P p) ≠ -1 ∧ rAg ls (rTop (P p)))) k, (k : Int)] M := by
    intro m
    induction m with
    | zero =>
      intro k hk
      have hk : k = 12 := hk
      subst hk
      have b := wBt_r (wDc (fun p => rTop (P p) ≠ -1 ∧ rAg ls (rTop (P p)))) 12
      refine cEnds_at gX5_findMissed_m4 rfl ?_
      refine d_br (fun h => ?_) (fun h => ?_)
      · exact wret1 (wBt (wDc (fun p => rTop (P p) ≠ -1 ∧ rAg ls (rTop (P p)))) 12) (by simp only [cE2, sev, svl, cen, List.cons_append, List.nil_append]; omega) (by omega) ⟨rfl, rfl⟩
      · simp only [cCmp, cE2, sev, svl, cen, List.cons_append, List.nil_append] at h
        omega
    | succ m ih =>
      intro k hk
      have yes : (rTop (P k) ≠ -1 ∧ rAg ls (rTop (P k))) → wBt (wDc (fun p => rTop (P p) ≠ -1 ∧ rAg ls (rTop (P p)))) (k + 1) = cfn 1 (wBt (wDc (fun p => rTop (P p) ≠ -1 ∧ rAg ls (rTop (P p)))) k) (cfn 2 1 (k : Int)) := fun h => wBt_y (wDc_y h)
      have no : ¬ (rTop (P k) ≠ -1 ∧ rAg ls (rTop (P k))) → wBt (wDc (fun p => rTop (P p) ≠ -1 ∧ rAg ls (rTop (P p)))) (k + 1) = wBt (wDc (fun p => rTop (P p) ≠ -1 ∧ rAg ls (rTop (P p)))) k := fun h => wBt_n (wDc_n h)
      have ih := ih (k + 1) (by omega)
      obtain ⟨X, hX⟩ : ∃ X, X = wBt (wDc (fun p => rTop (P p) ≠ -1 ∧ rAg ls (rTop (P p)))) k := ⟨_, rfl⟩
      rw [← hX] at yes no ⊢
      refine cEnds_at gX5_findMissed_m4 rfl ?_
      refine d_br (fun h => ?_) (fun h => ?_)
      · simp only [cCmp, cE2, sev, svl, cen, List.cons_append, List.nil_append] at h
        first
        | omega
        | skip
          exact wret1 X (by simp only [cE2, sev, svl, cen, List.cons_append, List.nil_append]; omega) (by omega) (by omega)
      · simp only [cCmp, cE2, sev, svl, cen, List.cons_append, List.nil_append] at h
        first
        | omega
        | skip
          refine d_call (b_standing (d := d + 1) hp hI (by omega) (hw k).1 (hP k (by omega))) (by simp [cAs, cE2, sev, svl, cen] <;> omega) ?_
          intro rr M' hq
          obtain ⟨hM', rfl⟩ := hq
          rw [hM']
          refine ⟨rfl, ?_⟩
          refine d_br (fun h => ?_) (fun h => ?_)
          · simp only [cCmp, cE2, sev, svl, cen, List.cons_append, List.nil_append] at h
            first
            | omega
            | skip
              refine d_rng (by simp only [clo, chi, cE2, sev, svl, cen, List.cons_append, List.nil_append]; omega) ?_
              rw [no (fun z => by omega)] at ih
              refine d_cut [(r : Int), X, ((k + 1 : Nat) : Int)] (by simp [cE2, sev, svl, cen] <;> omega) ?_
              exact ih
          · simp only [cCmp, cE2, sev, svl, cen, List.cons_append, List.nil_append] at h
            first
            | omega
            | skip
              refine d_idx (by simp only [cE2, sev, svl, cen, List.cons_append, List.nil_append]; omega) ?_
              refine d_call (b_against (d := d) hp hL hr (t := (rTop (P k)))) (by simp [cAs, cE2, sev, svl, cen] <;> omega) ?_
              intro rr M' hq
              obtain ⟨hM', hq⟩ := hq
              rw [hM']
              rcases hq with ⟨rfl, q4⟩ | ⟨rfl, q4⟩
              · refine ⟨rfl, ?_⟩
                refine d_br (fun h => ?_) (fun h => ?_)
                · simp only [cCmp, cE2, sev, svl, cen, List.cons_append, List.nil_append] at h
                  omega
                · clear h
                  refine d_opw 1 (k : Int) (by simp [cE2, sev, svl, cen] <;> omega) (by simp [cE2, sev, svl, cen] <;> omega) ?_
                  refine d_opw X (cfn 2 1 (k : Int)) (by simp [cE2, sev, svl, cen] <;> omega) (by simp [cE2, sev, svl, cen] <;> omega) ?_
                  refine d_rng (by simp only [clo, chi, cE2, sev, svl, cen, List.cons_append, List.nil_append]; omega) ?_
                  rw [yes ⟨by omega, q4⟩] at ih
                  refine d_cut [(r : Int), cfn 1 X (cfn 2 1 (k : Int)), ((k + 1 : Nat) : Int)] (by simp [cE2, sev, svl, cen] <;> omega) ?_
                  exact ih
              · refine ⟨rfl, ?_⟩
                refine d_br (fun h => ?_) (fun h => ?_)
                · clear h
                  refine d_rng (by simp only [clo, chi, cE2, sev, svl, cen, List.cons_append, List.nil_append]; omega) ?_
                  rw [no (fun z => q4 z.2)] at ih
                  refine d_cut [(r : Int), X, ((k + 1 : Nat) : Int)] (by simp [cE2, sev, svl, cen] <;> omega) ?_
                  exact ih
                · simp only [cCmp, cE2, sev, svl, cen, List.cons_append, List.nil_append] at h
                  omega
  refine cEnds_at gX5_findMissed_m0 rfl ?_
  refine d_cut [(r : Int), 0, ((0 : Nat) : Int)] (by simp [cE2, sev, svl, cen] <;> omega) ?_
  exact loop 12 0 (by omega)
def rBP (p : Nat) (st : List RC) (M MM : SMem) : Prop := sI tg MM ∧ (∀ f j i, f ≠ 79 → f ≠ 80 → f ≠ 81 → f ≠ 82 → MM f j i = M f j i) ∧ rLg 79 80 81 82 MM p st ∧ ∀ p' st', p' ≠ p → st'.length ≤ 6 → rLg 79 80 81 82 M p' st' → rLg 79 80 81 82 MM p' st'
theorem b_begin (hp : cPl tm tc tf EX) {p : Nat} {M : SMem} (hI : sI tg M) (hp9 : p < 12) : cBG tm tf EX l dC dI cA ad scrS (d + 2) kX5_begin [(2, 10, 0), (0, 0, (p : Int))] M (fun rr MM => rr = [] ∧ rBP p (rBg (rZ M) p) M MM) := by
  have b93 := wIb (f := 93) (i := 0) (lo := -1) (hi := 7) hI p rfl
  have e0 : supd M 79 0 p 0 79 0 p = ((0 : Nat) : Int) := supd_at _ _ _ _ _
  have i0 : sI tg (supd M 79 0 p 0) := wI hI (lo := 0) (hi := 6) rfl ⟨by omega, by omega⟩
  have g0 : rLg 79 80 81 82 (supd M 79 0 p 0) p [] := ⟨e0, fun k c hc => by cases hc⟩
  have k0 : ∀ p' st', p' ≠ p → rLg 79 80 81 82 M p' st' → rLg 79 80 81 82 (supd M 79 0 p 0) p' st' := fun p' st' h1 h => rLg_cg (supd_i h1) (fun f k hf _ => supd_f (by omega)) h
  have no : ¬ (M 64 p 0 ≠ 0 ∧ 0 < M 64 p 5 ∧ M 93 p 0 ≠ -1) → rBP p (rBg (rZ M) p) M (supd M 79 0 p 0) := fun h => by
    rw [show rBg (rZ M) p = [] from if_neg h]
    exact ⟨i0, fun f j i h1 _ _ _ => supd_f h1, g0, fun p' st' h1 _ h2 => k0 p' st' h1 h2⟩
  refine cMeth (v := [(p : Int)]) (Fd := 90) hp (by decide) gX5_begin_ok gX5_begin_m0 (by simp [cAs, cE2, sev, svl, cen]) ?_
  refine cEnds_at gX5_begin_m0 rfl ?_
  refine d_idx (by simp only [cE2, sev, svl, cen, List.cons_append, List.nil_append]; omega) ?_
  refine d_set 0 p 0 (by simp only [cE2, sev, svl, cen, List.cons_append, List.nil_append]; omega) (by simp only [cE2, sev, svl, cen, List.cons_append, List.nil_append]; omega) (by omega) (by simp only [cE2, sev, svl, cen, List.cons_append, List.nil_append]; omega) ?_
  refine d_fld p (by simp only [cE2, sev, svl, cen, List.cons_append, List.nil_append]; omega) ?_
  rw [supd_f (by decide)]
  refine d_br (fun h => ?_) (fun h => ?_)
  · simp only [cCmp, cE2, sev, svl, cen, List.cons_append, List.nil_append] at h
    first
    | omega
    | skip
      exact d_ret [] rfl (by decide) ⟨rfl, no (by omega)⟩
  · simp only [cCmp, cE2, sev, svl, cen, List.cons_append, List.nil_append] at h
    first
    | omega
    | skip
      refine d_fld p (by simp only [cE2, sev, svl, cen, List.cons_append, List.nil_append]; omega) ?_
      rw [supd_f (by decide)]
      refine d_br (fun h => ?_) (fun h => ?_)
      · simp only [cCmp, cE2, sev, svl, cen, List.cons_append, List.nil_append] at h
        first
        | omega
        | skip
          exact d_ret [] rfl (by decide) ⟨rfl, no (by omega)⟩
      · simp only [cCmp, cE2, sev, svl, cen, List.cons_append, List.nil_append] at h
        first
        | omega
        | skip
          refine d_row p 0 (by simp only [cE2, sev, svl, cen, List.cons_append, List.nil_append]; omega) (by simp only [cE2, sev, svl, cen, List.cons_append, List.nil_append]; omega) (by omega) ?_
          rw [supd_f (by decide)]
          refine d_br (fun h => ?_) (fun h => ?_)
          · simp only [cCmp, cE2, sev, svl, cen, List.cons_append, List.nil_append] at h
            first
            | omega
            | skip
              exact d_ret [] rfl (by decide) ⟨rfl, no (by omega)⟩
          · simp only [cCmp, cE2, sev, svl, cen, List.cons_append, List.nil_append] at h
            first
            | omega
            | skip
              refine d_row p 0 (by simp only [cE2, sev, svl, cen, List.cons_append, List.nil_append]; omega) (by simp only [cE2, sev, svl, cen, List.cons_append, List.nil_append]; omega) (by omega) ?_
              rw [supd_f (by decide)]
              refine d_call (b_radd (d := d) hp (n := 0) (a := (-1)) (b := 0) (c := (M 93 p 0)) hp9 (by omega) e0) (by simp [cAs, cE2, sev, svl, cen] <;> omega) ?_
              intro rr M' hq
              obtain ⟨rfl, e9⟩ := hq
              refine ⟨rfl, ?_⟩
              rw [e9]
              refine d_ret [] rfl (by decide) ⟨rfl, ?_⟩
              rw [show rBg (rZ M) p = [(-1, 0, M 93 p 0)] from if_pos (show M 64 p 0 ≠ 0 ∧ 0 < M 64 p 5 ∧ M 93 p 0 ≠ -1 by omega)]
              refine ⟨?_, fun f j i h1 h2 h3 h4 => by rw [rAdd_o ⟨h1, h2, h3, h4⟩, supd_f h1], rAdd_p (st := []) (by decide) rfl g0, fun p' st' h1 h2 h3 => rAdd_q (by decide) (by omega) h2 h1 (k0 p' st' h1 h3)⟩
              unfold rAdd
              exact wI (wI (wI (wI i0 (lo := -1) (hi := 5) rfl ⟨by omega, by omega⟩) (lo := 0) (hi := 4) rfl ⟨by omega, by omega⟩) (lo := -1) (hi := 7) rfl b93) (lo := 0) (hi := 6) rfl ⟨by omega, by omega⟩
set_option maxHeartbeats 1000000 in
theorem b_perform (hp : cPl tm tc tf EX) {B : Nat → List OLn} {M : SMem} (hI : sI tg M) (hB : ∀ r, r < 6 → oCl M r (B r)) (hc : M 10 0 13 ≠ 0 → rCh (rZ M) B M) : cBG tm tf EX l dC dI cA ad scrS (d + 5) kX5_perform [(2, 10, 0)] M (fun rr MM => rr = [] ∧ sI tg MM ∧ rXf M MM ∧ rCh (rZ M) B MM) := by
  obtain ⟨Z, hZ⟩ : ∃ Z, Z = rZ M := ⟨_, rfl⟩
  rw [← hZ] at hc ⊢
  have hZn : ∀ p, -1 ≤ Z.2.1 p 0 ∧ Z.2.1 p 0 ≤ 7 := fun p => by rw [hZ]; exact wIb (f := 93) (i := 0) (lo := -1) (hi := 7) hI p rfl
  have hBk : rBk B := fun r hr => ⟨(hB r hr).2.1, oCl_k (hB r hr)⟩
  have hW := rRun_wf (B := B) hZn hBk
  refine cMeth (v := []) (Fd := 90) hp (by decide) gX5_perform_ok gX5_perform_m0 (by simp [cAs, cE2, sev, svl, cen]) ?_
  suffices H : ∀ Po : List Int → SMem → Prop, (∀ rr MM, (rr = [] ∧ sI tg MM ∧ rXf M MM ∧ rCh Z B MM) → Po rr MM) → cEnds (cBG tm tf EX l dC dI cA ad scrS (d + 4)) Po 90 gX5_perform 0 [] M from H _ (fun _ _ h => h)
  intro Po hPo
  -- reigns
  have l34 : ∀ (m r : Nat), r + m = 6 → ∀ MW : SMem, sI tg MW → rXf M MW → (∀ p, p < 12 → rLg 79 80 81 82 MW p ((rRun Z B r).1 p)) → MW 10 0 12 = (rRun Z B r).2 → (∀ r' p, r' < r → p < 12 → MW 83 0 (12 * r' + p) = (((rRun Z B (r' + 1)).1 p).length : Int)) → (∀ r', r' < r → MW 84 0 r' = rMs Z B r') → cEnds (cBG tm tf EX l dC dI cA ad scrS (d + 4)) Po 90 gX5_perform 34 [(r : Int)] MW := by
    intro m
    induction m with
    | zero =>
      intro r hr MW i1 f1 g1 s1 z1 y1
      have hr : r = 6 := hr
      subst hr
      refine cEnds_at gX5_perform_m34 rfl ?_
      refine d_br (fun h => ?_) (fun h => ?_)
      · simp only [cCmp, cE2, sev, svl, cen, List.cons_append, List.nil_append] at h
        first
        | omega
        | skip
          refine d_rng (by simp only [clo, chi, cE2, sev, svl, cen, List.cons_append, List.nil_append]; omega) ?_
          refine d_put 0 1 (by simp only [cE2, sev, svl, cen, List.cons_append, List.nil_append]; omega) (by simp only [cE2, sev, svl, cen, List.cons_append, List.nil_append]; omega) ?_
          refine d_ret [] rfl (by decide) (hPo _ _ ⟨rfl, wI i1 (lo := 0) (hi := 1) rfl ⟨by omega, by omega⟩, fun f j i h1 h2 => (supd_n (by omega)).trans (f1 f j i h1 h2), fun p hp9 => rLg_cg (supd_f (by decide)) (fun f k hf _ => supd_f (by omega)) (g1 p hp9), (supd_i (by decide)).trans s1, fun r p h1 h2 => (supd_f (by decide)).trans (z1 r p h1 h2), fun r h1 => (supd_f (by decide)).trans (y1 r h1)⟩)
      · simp only [cCmp, cE2, sev, svl, cen, List.cons_append, List.nil_append] at h
        first
        | omega
        | skip
          refine d_cut [((6 : Nat) : Int), 0] (by simp [cE2, sev, svl, cen] <;> omega) ?_
          exact (by omega)
    | succ m ih =>
      intro r hr MW i1 f1 g1 s1 z1 y1
      obtain ⟨X, hX⟩ : ∃ X, X = rRun Z B r := ⟨_, rfl⟩
      rw [← hX] at g1 s1
      obtain ⟨wX1, wX2, wX3⟩ := hW r (by omega)
      rw [← hX] at wX1 wX2 wX3
      have hwf := rPs_wf (Z := Z) (r := r) (ls := B r) (X := X) (by omega) (hBk r (by omega)).1 (hBk r (by omega)).2 wX1
      -- places
      have l42 : ∀ (n k : Nat), k + n = 12 → ∀ MV : SMem, sI tg MV → rXf M MV → (∀ p, p < 12 → rLg 79 80 81 82 MV p ((rPs Z r (B r) X k).1 p)) → MV 10 0 12 = (rPs Z r (B r) X k).2 → (∀ r' p, r' < r → p < 12 → MV 83 0 (12 * r' + p) = (((rRun Z B (r' + 1)).1 p).length : Int)) → (∀ r', r' < r → MV 84 0 r' = rMs Z B r') → (∀ p, p < k → MV 83 0 (12 * r + p) = (((rPs Z r (B r) X 12).1 p).length : Int)) → cEnds (cBG tm tf EX l dC dI cA ad scrS (d + 4)) Po 90 gX5_perform 42 [(r : Int), (k : Int)] MV := by
        intro n
        induction n with
        | zero =>
          intro k hk MV j1 h1 u1 t1 a1 c1 b1
          have hk : k = 12 := hk
          subst hk
          have eR : rRun Z B (r + 1) = rPs Z r (B r) X 12 := by rw [hX]; rfl
          have bm : -2147483648 ≤ rMs Z B r ∧ rMs Z B r ≤ 2147483647 := wBt_r _ 12
          have cMs : cBG tm tf EX l dC dI cA ad scrS (d + 4) kX5_findMissed [(2, 10, 0), (0, 0, (r : Int))] MV (fun rr MM => MM = MV ∧ rr = [rMs Z B r]) := by
            have w9 := b_findMissed (EX := EX) (l := l) (dC := dC) (dI := dI) (cA := cA) (ad := ad) (scrS := scrS) (d := d + 1) hp j1 (rXf_C h1 (hB r (by omega))) (by omega) u1 (hwf 12).1
            unfold rMs
            rw [eR]
            exact w9
          refine cEnds_at gX5_perform_m42 rfl ?_
          refine d_br (fun h => ?_) (fun h => ?_)
          · simp only [cCmp, cE2, sev, svl, cen, List.cons_append, List.nil_append] at h
            first
            | omega
            | skip
              refine d_call (cMs) (by simp [cAs, cE2, sev, svl, cen] <;> omega) ?_
              intro rr M' hq
              obtain ⟨hM', rfl⟩ := hq
              rw [hM']
              refine ⟨rfl, ?_⟩
              refine d_set 0 r (rMs Z B r) (by simp only [cE2, sev, svl, cen, List.cons_append, List.nil_append]; omega) (by simp only [cE2, sev, svl, cen, List.cons_append, List.nil_append]; omega) (by omega) (by simp only [cE2, sev, svl, cen, List.cons_append, List.nil_append]; omega) ?_
              refine d_rng (by simp only [clo, chi, cE2, sev, svl, cen, List.cons_append, List.nil_append]; omega) ?_
              refine d_cut [((r + 1 : Nat) : Int)] (by simp [cE2, sev, svl, cen] <;> omega) ?_
              refine ih (r + 1) (by omega) _ (wI j1 (lo := -2147483648) (hi := 2147483647) rfl bm) (fun f j i q1 q2 => (supd_f (fun z => q1 (by rw [z]; decide))).trans (h1 f j i q1 q2)) (fun p hp9 => by rw [eR]; exact rLg_cg (supd_f (by decide)) (fun f k9 hf _ => supd_f (by omega)) (u1 p hp9)) (by rw [eR]; exact (supd_f (by decide)).trans t1) (fun r' p q1 q2 => ?_) (fun r' q1 => ?_)
              · rw [supd_f (by decide)]; exact (Nat.lt_succ_iff_lt_or_eq.mp q1).elim (fun z => a1 r' p z q2) (fun z => by rw [z, eR]; exact b1 p q2)
              · exact (Nat.lt_succ_iff_lt_or_eq.mp q1).elim (fun z => (supd_i (by omega)).trans (c1 r' z)) (fun z => by rw [z]; exact supd_at _ _ _ _ _)
          · simp only [cCmp, cE2, sev, svl, cen, List.cons_append, List.nil_append] at h
            first
            | omega
            | skip
              omega
        | succ n ihn =>
          intro k hk MV j1 h1 u1 t1 a1 c1 b1
          have eZ : rZ MV = Z := (rXf_Z h1).trans hZ.symm
          obtain ⟨w1, w2, w3⟩ := hwf k
          have b79 := wIb (f := 79) (i := k) (lo := 0) (hi := 6) j1 0 rfl
          have cOb : cBG tm tf EX l dC dI cA ad scrS (d + 4) kX5_obey [(2, 10, 0), (0, 0, (r : Int)), (0, 0, (k : Int))] MV (fun rr MM => rr = [] ∧ rOP k (rOb Z r k (B r) ((rPs Z r (B r) X k).1 k, (rPs Z r (B r) X k).2)) MV MM) := by
            have w9 := b_obey (EX := EX) (l := l) (dC := dC) (dI := dI) (cA := cA) (ad := ad) (scrS := scrS) (d := d) hp (r := r) (p := k) (st := (rPs Z r (B r) X k).1 k) (ls := B r) j1 (by omega) (by omega) (w1 k) (u1 k (by omega)) (rXf_C h1 (hB r (by omega))) (by omega)
            rw [eZ, t1] at w9
            exact w9
          refine cEnds_at gX5_perform_m42 rfl ?_
          refine d_br (fun h => ?_) (fun h => ?_)
          · simp only [cCmp, cE2, sev, svl, cen, List.cons_append, List.nil_append] at h
            first
            | omega
            | skip
              omega
          · simp only [cCmp, cE2, sev, svl, cen, List.cons_append, List.nil_append] at h
            first
            | omega
            | skip
              refine d_call (cOb) (by simp [cAs, cE2, sev, svl, cen] <;> omega) ?_
              intro rr M2 hq
              obtain ⟨rfl, i2, f2, s2, u2, o2⟩ := hq
              have e79 : M2 79 0 k = (((rPs Z r (B r) X (k + 1)).1 k).length : Int) := by rw [rPs_t]; exact u2.1
              have b79 := wIb (f := 79) (i := k) (lo := 0) (hi := 6) i2 0 rfl
              refine ⟨rfl, ?_⟩
              refine d_rng (by simp only [clo, chi, cE2, sev, svl, cen, List.cons_append, List.nil_append]; omega) ?_
              refine d_rng (by simp only [clo, chi, cE2, sev, svl, cen, List.cons_append, List.nil_append]; omega) ?_
              refine d_row 0 k (by simp only [cE2, sev, svl, cen, List.cons_append, List.nil_append]; omega) (by simp only [cE2, sev, svl, cen, List.cons_append, List.nil_append]; omega) (by omega) ?_
              refine d_set 0 (12 * r + k) (M2 79 0 k) (by simp only [cE2, sev, svl, cen, List.cons_append, List.nil_append]; omega) (by simp only [cE2, sev, svl, cen, List.cons_append, List.nil_append]; omega) (by omega) (by simp only [cE2, sev, svl, cen, List.cons_append, List.nil_append]; omega) ?_
              refine d_rng (by simp only [clo, chi, cE2, sev, svl, cen, List.cons_append, List.nil_append]; omega) ?_
              refine d_cut [(r : Int), ((k + 1 : Nat) : Int)] (by simp [cE2, sev, svl, cen] <;> omega) ?_
              refine ihn (k + 1) (by omega) _ (wI i2 (lo := 0) (hi := 6) rfl b79) (fun f j i q1 q2 => ?_) (fun p hp9 => ?_) ((supd_f (by decide)).trans s2) (fun r' p q1 q2 => (supd_i (by omega)).trans ((f2 83 0 _ (by decide) (by decide) (by decide) (by decide) (by decide) (by omega)).trans (a1 r' p q1 q2))) (fun r' q1 => (supd_f (by decide)).trans ((f2 84 0 _ (by decide) (by decide) (by decide) (by decide) (by decide) (by omega)).trans (c1 r' q1))) (fun p q1 => ?_)
              · simp only [List.mem_cons, List.not_mem_nil, or_false, not_or] at q1; exact (supd_f (by omega)).trans ((f2 f j i (by omega) (by omega) (by omega) (by omega) (by omega) (by omega)).trans (h1 f j i (by simp only [List.mem_cons, List.not_mem_nil, or_false, not_or]; omega) q2))
              · refine rLg_cg (supd_f (by decide)) (fun f k9 hf _ => supd_f (by omega)) ?_; exact (Decidable.em (p = k)).elim (fun z => by rw [z, rPs_t]; exact u2) (fun z => by rw [rPs_s z]; exact o2 p _ z (w1 p).1 (u1 p hp9))
              · exact (Nat.lt_succ_iff_lt_or_eq.mp q1).elim (fun z => (supd_i (by omega)).trans ((f2 83 0 _ (by decide) (by decide) (by decide) (by decide) (by decide) (by omega)).trans (b1 p z))) (fun z => by rw [z, supd_at, e79, ← rPs_st (show k < k + 1 by omega) (11 - k), show k + 1 + (11 - k) = 12 by omega])
      refine cEnds_at gX5_perform_m34 rfl ?_
      refine d_br (fun h => ?_) (fun h => ?_)
      · simp only [cCmp, cE2, sev, svl, cen, List.cons_append, List.nil_append] at h
        omega
      · refine d_cut [(r : Int), ((0 : Nat) : Int)] (by simp [cE2, sev, svl, cen] <;> omega) ?_
        exact l42 12 0 (by omega) MW i1 f1 g1 s1 z1 y1 (fun p hp9 => absurd hp9 (Nat.not_lt_zero p))
  -- what stood first
  have l15 : ∀ (m k : Nat), k + m = 12 → ∀ MW : SMem, sI tg MW → rXf M MW → (∀ p, p < k → rLg 79 80 81 82 MW p (rBg Z p)) → MW 10 0 12 = 0 → cEnds (cBG tm tf EX l dC dI cA ad scrS (d + 4)) Po 90 gX5_perform 15 [(k : Int)] MW := by
    intro m
    induction m with
    | zero =>
      intro k hk MW i1 f1 g1 s1
      have hk : k = 12 := hk
      subst hk
      refine cEnds_at gX5_perform_m15 rfl ?_
      refine d_br (fun h => ?_) (fun h => ?_)
      · refine d_cut [((0 : Nat) : Int)] (by simp [cE2, sev, svl, cen] <;> omega) ?_
        exact l34 6 0 (by omega) MW i1 f1 g1 s1 (fun r' p q => absurd q (Nat.not_lt_zero r')) (fun r' q => absurd q (Nat.not_lt_zero r'))
      · simp only [cCmp, cE2, sev, svl, cen, List.cons_append, List.nil_append] at h
        omega
    | succ m ih =>
      intro k hk MW i1 f1 g1 s1
      have eZ : rZ MW = Z := (rXf_Z f1).trans hZ.symm
      have cBe : cBG tm tf EX l dC dI cA ad scrS (d + 4) kX5_begin [(2, 10, 0), (0, 0, (k : Int))] MW (fun rr MM => rr = [] ∧ rBP k (rBg Z k) MW MM) := by
        have w9 := b_begin (EX := EX) (l := l) (dC := dC) (dI := dI) (cA := cA) (ad := ad) (scrS := scrS) (d := d + 2) hp (p := k) i1 (by omega)
        rw [eZ] at w9
        exact w9
      refine cEnds_at gX5_perform_m15 rfl ?_
      refine d_br (fun h => ?_) (fun h => ?_)
      · simp only [cCmp, cE2, sev, svl, cen, List.cons_append, List.nil_append] at h
        first
        | omega
        | skip
          refine d_cut [0] (by simp [cE2, sev, svl, cen] <;> omega) ?_
          exact (by omega)
      · simp only [cCmp, cE2, sev, svl, cen, List.cons_append, List.nil_append] at h
        first
        | omega
        | skip
          refine d_call (cBe) (by simp [cAs, cE2, sev, svl, cen] <;> omega) ?_
          intro rr M2 hq
          obtain ⟨rfl, i2, f2, u2, o2⟩ := hq
          refine ⟨rfl, ?_⟩
          refine d_rng (by simp only [clo, chi, cE2, sev, svl, cen, List.cons_append, List.nil_append]; omega) ?_
          refine d_cut [((k + 1 : Nat) : Int)] (by simp [cE2, sev, svl, cen] <;> omega) ?_
          refine ih (k + 1) (by omega) M2 i2 (fun f j i q1 q2 => ?_) (fun p hp9 => ?_) ((f2 10 0 12 (by decide) (by decide) (by decide) (by decide)).trans s1)
          · simp only [List.mem_cons, List.not_mem_nil, or_false, not_or] at q1; exact (f2 f j i (by omega) (by omega) (by omega) (by omega)).trans (f1 f j i (by simp only [List.mem_cons, List.not_mem_nil, or_false, not_or]; omega) q2)
          · exact (Decidable.em (p = k)).elim (fun z => by rw [z]; exact u2) (fun z => o2 p _ z (rBg_wf hZn p).1 (g1 p (by omega)))
  refine cEnds_at gX5_perform_m0 rfl ?_
  refine d_fld 0 (by simp only [cE2, sev, svl, cen, List.cons_append, List.nil_append]; omega) ?_
  refine d_br (fun h => ?_) (fun h => ?_)
  · simp only [cCmp, cE2, sev, svl, cen, List.cons_append, List.nil_append] at h
    first
    | omega
    | skip
      refine d_put 0 0 (by simp only [cE2, sev, svl, cen, List.cons_append, List.nil_append]; omega) (by simp only [cE2, sev, svl, cen, List.cons_append, List.nil_append]; omega) ?_
      refine d_cut [((0 : Nat) : Int)] (by simp [cE2, sev, svl, cen] <;> omega) ?_
      exact l15 12 0 (by omega) _ (wI hI (lo := -2147483648) (hi := 2147483647) rfl ⟨by omega, by omega⟩) (fun f j i q1 q2 => supd_n (by omega)) (fun p q => absurd q (Nat.not_lt_zero p)) (supd_at _ _ _ _ _)
  · simp only [cCmp, cE2, sev, svl, cen, List.cons_append, List.nil_append] at h
    first
    | omega
    | skip
      exact d_ret [] rfl (by decide) (hPo _ _ ⟨rfl, hI, fun _ _ _ _ _ => rfl, hc (by omega)⟩)
end CR4
