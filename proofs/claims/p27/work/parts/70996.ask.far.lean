/-! what the methods do: far, the class's side -/
noncomputable def wDc (P : Nat → Prop) (i : Nat) : Bool := @decide (P i) (Classical.propDecidable (P i))
theorem wDc_y {P : Nat → Prop} {i : Nat} (h : P i) : wDc P i = true := @decide_eq_true _ (Classical.propDecidable (P i)) h
theorem wDc_n {P : Nat → Prop} {i : Nat} (h : ¬ P i) : wDc P i = false := @decide_eq_false _ (Classical.propDecidable (P i)) h
theorem wDc_cg {P Q : Nat → Prop} {i : Nat} (h : P i ↔ Q i) : wDc P i = wDc Q i := by
  by_cases hp : P i
  · rw [wDc_y hp, wDc_y (h.mp hp)]
  · rw [wDc_n hp, wDc_n (fun q => hp (h.mpr q))]
theorem i32r (x : Int32) : -2147483648 ≤ x.toInt ∧ x.toInt ≤ 2147483647 := by
  have h1 := Int32.le_toInt x
  have h2 := Int32.toInt_lt x
  constructor <;> omega
def wHi (E : Nat → Bool) (H : Nat → Int) : Nat → Int
  | 0 => -1
  | k + 1 => cond (E k) (cfn 11 (wHi E H k) (H k)) (wHi E H k)
def wLo (E : Nat → Bool) (H : Nat → Int) : Nat → Int
  | 0 => -1
  | k + 1 => cond (E k) (if wLo E H k < 0 ∨ H k < wLo E H k then H k else wLo E H k) (wLo E H k)
def wSo (E : Nat → Bool) (S : Nat → Int) : Nat → Int
  | 0 => 0
  | k + 1 => cond (E k) (cfn 1 (wSo E S k) (cfn 2 1 (S k))) (wSo E S k)
theorem wHi_y {E : Nat → Bool} {H : Nat → Int} {k : Nat} (h : E k = true) : wHi E H (k + 1) = cfn 11 (wHi E H k) (H k) := by
  show cond (E k) _ _ = _
  rw [h, cond_true]
theorem wHi_n {E : Nat → Bool} {H : Nat → Int} {k : Nat} (h : E k = false) : wHi E H (k + 1) = wHi E H k := by
  show cond (E k) _ _ = _
  rw [h, cond_false]
theorem wLo_y {E : Nat → Bool} {H : Nat → Int} {k : Nat} (h : E k = true) : wLo E H (k + 1) = if wLo E H k < 0 ∨ H k < wLo E H k then H k else wLo E H k := by
  show cond (E k) _ _ = _
  rw [h, cond_true]
theorem wLo_n {E : Nat → Bool} {H : Nat → Int} {k : Nat} (h : E k = false) : wLo E H (k + 1) = wLo E H k := by
  show cond (E k) _ _ = _
  rw [h, cond_false]
theorem wSo_y {E : Nat → Bool} {H : Nat → Int} {k : Nat} (h : E k = true) : wSo E H (k + 1) = cfn 1 (wSo E H k) (cfn 2 1 (H k)) := by
  show cond (E k) _ _ = _
  rw [h, cond_true]
theorem wSo_n {E : Nat → Bool} {H : Nat → Int} {k : Nat} (h : E k = false) : wSo E H (k + 1) = wSo E H k := by
  show cond (E k) _ _ = _
  rw [h, cond_false]
theorem cfn11 {a b : Int} : (a < b ∧ cfn 11 a b = b) ∨ (b ≤ a ∧ cfn 11 a b = a) := by
  show (a < b ∧ (if a < b then b else a) = b) ∨ (b ≤ a ∧ (if a < b then b else a) = a)
  by_cases h : a < b
  · rw [if_pos h]; exact Or.inl ⟨h, rfl⟩
  · rw [if_neg h]; exact Or.inr ⟨by omega, rfl⟩
theorem wHi_r {E : Nat → Bool} {H : Nat → Int} (hH : ∀ k, 0 ≤ H k ∧ H k ≤ 99) : ∀ k, -1 ≤ wHi E H k ∧ wHi E H k ≤ 99 := by
  intro k
  induction k with
  | zero => exact ⟨show (-1 : Int) ≤ -1 by decide, show (-1 : Int) ≤ 99 by decide⟩
  | succ k ih =>
    have := hH k
    cases h : E k with
    | true =>
      rw [wHi_y h]
      have := @cfn11 (wHi E H k) (H k)
      omega
    | false => rw [wHi_n h]; exact ih
theorem wLo_r {E : Nat → Bool} {H : Nat → Int} (hH : ∀ k, 0 ≤ H k ∧ H k ≤ 99) : ∀ k, -1 ≤ wLo E H k ∧ wLo E H k ≤ 99 := by
  intro k
  induction k with
  | zero => exact ⟨show (-1 : Int) ≤ -1 by decide, show (-1 : Int) ≤ 99 by decide⟩
  | succ k ih =>
    have := hH k
    cases h : E k with
    | true =>
      rw [wLo_y h]
      split <;> omega
    | false => rw [wLo_n h]; exact ih
theorem wSo_r {E : Nat → Bool} {H : Nat → Int} : ∀ k, -2147483648 ≤ wSo E H k ∧ wSo E H k ≤ 2147483647 := by
  intro k
  induction k with
  | zero => exact ⟨show (-2147483648 : Int) ≤ 0 by decide, show (0 : Int) ≤ 2147483647 by decide⟩
  | succ k ih =>
    cases h : E k with
    | true =>
      rw [wSo_y h]
      exact i32r _
    | false => rw [wSo_n h]; exact ih
theorem wHi_cg {E E' : Nat → Bool} {H H' : Nat → Int} : ∀ k, (∀ i, i < k → E i = E' i ∧ H i = H' i) → wHi E H k = wHi E' H' k := by
  intro k
  induction k with
  | zero => intro _; rfl
  | succ k ih =>
    intro h
    show cond (E k) _ _ = cond (E' k) _ _
    rw [ih (fun i hi => h i (by omega)), (h k (by omega)).1, (h k (by omega)).2]
theorem wLo_cg {E E' : Nat → Bool} {H H' : Nat → Int} : ∀ k, (∀ i, i < k → E i = E' i ∧ H i = H' i) → wLo E H k = wLo E' H' k := by
  intro k
  induction k with
  | zero => intro _; rfl
  | succ k ih =>
    intro h
    show cond (E k) _ _ = cond (E' k) _ _
    rw [ih (fun i hi => h i (by omega)), (h k (by omega)).1, (h k (by omega)).2]
theorem wSo_cg {E E' : Nat → Bool} {H H' : Nat → Int} : ∀ k, (∀ i, i < k → E i = E' i ∧ H i = H' i) → wSo E H k = wSo E' H' k := by
  intro k
  induction k with
  | zero => intro _; rfl
  | succ k ih =>
    intro h
    show cond (E k) _ _ = cond (E' k) _ _
    rw [ih (fun i hi => h i (by omega)), (h k (by omega)).1, (h k (by omega)).2]
/-- a place where the hand erased the name; a place that bears it -/
def wEr (M : SMem) (hd nm : Int) (p : Nat) : Prop := ∃ i : Nat, 1 ≤ i ∧ (i : Int) < M 64 p 5 ∧ (M 92 p i = 1 ∨ M 92 p i = 2) ∧ M 91 p i = hd ∧ M 93 p (i - 1) = nm
def wBe (M : SMem) (nm : Int) (p : Nat) : Prop := 0 < M 64 p 5 ∧ ¬ (M 92 p ((M 64 p 5).toNat - 1) = 1 ∨ M 92 p ((M 64 p 5).toNat - 1) = 2) ∧ M 93 p ((M 64 p 5).toNat - 1) = nm
section CFR
variable {EX : SEx} {l : Launch} {dC : Nat → ClassId} {dI : Nat → Nat → Nat} {cA : Nat → ClassId} {ad : SAd} {scrS d : Nat}
theorem b_isErasedBy (hp : cPl tm tc tf EX) {p : Nat} {hd nm : Int} {M : SMem} (hI : sI tg M) : cBG tm tf EX l dC dI cA ad scrS (d + 2) kX8_isErasedBy [(2, 64, (p : Int)), (0, 0, hd), (0, 0, nm)] M (fun rr MM => MM = M ∧ ((rr = [1] ∧ (wEr M hd nm p)) ∨ (rr = [0] ∧ ¬ (wEr M hd nm p)))) := by
  refine cMeth (v := [(p : Int), hd, nm]) (Fd := 90) hp (by decide) gX8_isErasedBy_ok gX8_isErasedBy_m0 (by simp [cAs, cE2, sev, svl, cen]) ?_
  have b1 := wIb (f := 64) (i := 5) (lo := 0) (hi := 6) hI p rfl
  obtain ⟨sz, hsz⟩ : ∃ sz : Nat, M 64 p 5 = (sz : Int) := ⟨(M 64 p 5).toNat, by omega⟩
  have loop : ∀ (m k : Nat), 1 ≤ k → k + m = sz + 1 → (∀ i : Nat, 1 ≤ i → i < k → ¬ ((M 92 p i = 1 ∨ M 92 p i = 2) ∧ M 91 p i = hd ∧ M 93 p (i - 1) = nm)) → cEnds (cBG tm tf EX l dC dI cA ad scrS (d + 1)) (fun rr MM => MM = M ∧ ((rr = [1] ∧ (wEr M hd nm p)) ∨ (rr = [0] ∧ ¬ (wEr M hd nm p)))) 90 gX8_isErasedBy 2 [(p : Int), hd, nm, (k : Int)] M := by
    intro m
    induction m with
    | zero =>
      intro k h1 hk hl
      refine cEnds_at gX8_isErasedBy_m2 rfl ?_
      refine d_fld p (by simp only [cE2, sev, svl, cen, List.cons_append, List.nil_append]; omega) ?_
      rw [hsz]
      refine d_br (fun h => ?_) (fun h => ?_)
      · exact d_ret [0] rfl (by decide) ⟨rfl, Or.inr ⟨rfl, fun ⟨i, w1, w2, w3⟩ => hl i w1 (by omega) w3⟩⟩
      · simp only [cCmp, cE2, sev, svl, cen, List.cons_append, List.nil_append] at h
        omega
    | succ m ih =>
      intro k h1 hk hl
      refine cEnds_at gX8_isErasedBy_m2 rfl ?_
      refine d_fld p (by simp only [cE2, sev, svl, cen, List.cons_append, List.nil_append]; omega) ?_
      rw [hsz]
      refine d_br (fun h => ?_) (fun h => ?_)
      · simp only [cCmp, cE2, sev, svl, cen, List.cons_append, List.nil_append] at h
        first
        | omega
        | skip
          exact d_ret [0] rfl (by decide) ⟨rfl, Or.inr ⟨rfl, fun ⟨i, w1, w2, w3⟩ => hl i w1 (by omega) w3⟩⟩
      · simp only [cCmp, cE2, sev, svl, cen, List.cons_append, List.nil_append] at h
        first
        | omega
        | skip
          refine d_row p k (by simp only [cE2, sev, svl, cen, List.cons_append, List.nil_append]; omega) (by simp only [cE2, sev, svl, cen, List.cons_append, List.nil_append]; omega) (by omega) ?_
          refine d_call (b_isErasure hp (x := (M 92 p k))) (by simp [cAs, cE2, sev, svl, cen] <;> omega) ?_
          intro rr M' hq
          obtain ⟨hM', hq⟩ := hq
          rw [hM']
          rcases hq with ⟨rfl, q6⟩ | ⟨rfl, q6⟩
          · refine ⟨rfl, ?_⟩
            refine d_br (fun h => ?_) (fun h => ?_)
            · simp only [cCmp, cE2, sev, svl, cen, List.cons_append, List.nil_append] at h
              omega
            · clear h
              refine d_row p k (by simp only [cE2, sev, svl, cen, List.cons_append, List.nil_append]; omega) (by simp only [cE2, sev, svl, cen, List.cons_append, List.nil_append]; omega) (by omega) ?_
              refine d_br (fun h => ?_) (fun h => ?_)
              · simp only [cCmp, cE2, sev, svl, cen, List.cons_append, List.nil_append] at h
                first
                | omega
                | skip
                  refine d_rng (by simp only [clo, chi, cE2, sev, svl, cen, List.cons_append, List.nil_append]; omega) ?_
                  refine d_cut [(p : Int), hd, nm, ((k + 1 : Nat) : Int)] (by simp [cE2, sev, svl, cen] <;> omega) ?_
                  refine ih (k + 1) (by omega) (by omega) (fun i z1 z2 z3 => ?_)
                  by_cases z : i = k
                  · rw [z] at z3; omega
                  · exact hl i z1 (by omega) z3
              · simp only [cCmp, cE2, sev, svl, cen, List.cons_append, List.nil_append] at h
                first
                | omega
                | skip
                  refine d_rng (by simp only [clo, chi, cE2, sev, svl, cen, List.cons_append, List.nil_append]; omega) ?_
                  refine d_row p (k - 1) (by simp only [cE2, sev, svl, cen, List.cons_append, List.nil_append]; omega) (by simp only [cE2, sev, svl, cen, List.cons_append, List.nil_append]; omega) (by omega) ?_
                  refine d_br (fun h => ?_) (fun h => ?_)
                  · simp only [cCmp, cE2, sev, svl, cen, List.cons_append, List.nil_append] at h
                    first
                    | omega
                    | skip
                      refine d_rng (by simp only [clo, chi, cE2, sev, svl, cen, List.cons_append, List.nil_append]; omega) ?_
                      refine d_cut [(p : Int), hd, nm, ((k + 1 : Nat) : Int)] (by simp [cE2, sev, svl, cen] <;> omega) ?_
                      refine ih (k + 1) (by omega) (by omega) (fun i z1 z2 z3 => ?_)
                      by_cases z : i = k
                      · rw [z] at z3; omega
                      · exact hl i z1 (by omega) z3
                  · simp only [cCmp, cE2, sev, svl, cen, List.cons_append, List.nil_append] at h
                    first
                    | omega
                    | skip
                      exact d_ret [1] rfl (by decide) ⟨rfl, Or.inl ⟨rfl, k, h1, by omega, by omega, by omega, by omega⟩⟩
          · refine ⟨rfl, ?_⟩
            refine d_br (fun h => ?_) (fun h => ?_)
            · clear h
              refine d_rng (by simp only [clo, chi, cE2, sev, svl, cen, List.cons_append, List.nil_append]; omega) ?_
              refine d_cut [(p : Int), hd, nm, ((k + 1 : Nat) : Int)] (by simp [cE2, sev, svl, cen] <;> omega) ?_
              refine ih (k + 1) (by omega) (by omega) (fun i z1 z2 z3 => ?_)
              by_cases z : i = k
              · rw [z] at z3; omega
              · exact hl i z1 (by omega) z3
            · simp only [cCmp, cE2, sev, svl, cen, List.cons_append, List.nil_append] at h
              omega
  refine cEnds_at gX8_isErasedBy_m0 rfl ?_
  refine d_cut [(p : Int), hd, nm, ((1 : Nat) : Int)] (by simp [cE2, sev, svl, cen] <;> omega) ?_
  rcases Nat.eq_zero_or_pos sz with z | z
  · subst z
    exact loop 0 1 (by omega) (by omega) (fun i z1 z2 => by omega)
  · exact loop sz 1 (by omega) (by omega) (fun i z1 z2 => by omega)
theorem b_bears (hp : cPl tm tc tf EX) {p : Nat} {nm : Int} {M : SMem} (hI : sI tg M) : cBG tm tf EX l dC dI cA ad scrS (d + 2) kX8_bears [(2, 64, (p : Int)), (0, 0, nm)] M (fun rr MM => MM = M ∧ ((rr = [1] ∧ (wBe M nm p)) ∨ (rr = [0] ∧ ¬ (wBe M nm p)))) := by
  have b1 := wIb (f := 64) (i := 5) (lo := 0) (hi := 6) hI p rfl
  obtain ⟨sz, hsz⟩ : ∃ sz : Nat, M 64 p 5 = (sz : Int) := ⟨(M 64 p 5).toNat, by omega⟩
  unfold wBe
  rw [hsz, show ((sz : Int)).toNat = sz by omega]
  refine cMeth (v := [(p : Int), nm]) (Fd := 90) hp (by decide) gX8_bears_ok gX8_bears_m0 (by simp [cAs, cE2, sev, svl, cen]) ?_
  refine cEnds_at gX8_bears_m0 rfl ?_
  refine d_fld p (by simp only [cE2, sev, svl, cen, List.cons_append, List.nil_append]; omega) ?_
  rw [hsz]
  refine d_br (fun h => ?_) (fun h => ?_)
  · simp only [cCmp, cE2, sev, svl, cen, List.cons_append, List.nil_append] at h
    first
    | omega
    | skip
      exact d_ret [0] rfl (by decide) ⟨rfl, Or.inr ⟨rfl, by omega⟩⟩
  · simp only [cCmp, cE2, sev, svl, cen, List.cons_append, List.nil_append] at h
    first
    | omega
    | skip
      refine d_fld p (by simp only [cE2, sev, svl, cen, List.cons_append, List.nil_append]; omega) ?_
      rw [hsz]
      refine d_rng (by simp only [clo, chi, cE2, sev, svl, cen, List.cons_append, List.nil_append]; omega) ?_
      refine d_row p (sz - 1) (by simp only [cE2, sev, svl, cen, List.cons_append, List.nil_append]; omega) (by simp only [cE2, sev, svl, cen, List.cons_append, List.nil_append]; omega) (by omega) ?_
      refine d_call (b_isErasure hp (x := (M 92 p (sz - 1)))) (by simp [cAs, cE2, sev, svl, cen] <;> omega) ?_
      intro rr M' hq
      obtain ⟨hM', hq⟩ := hq
      rw [hM']
      rcases hq with ⟨rfl, q5⟩ | ⟨rfl, q5⟩
      · refine ⟨rfl, ?_⟩
        refine d_br (fun h => ?_) (fun h => ?_)
        · clear h
          exact d_ret [0] rfl (by decide) ⟨rfl, Or.inr ⟨rfl, by omega⟩⟩
        · simp only [cCmp, cE2, sev, svl, cen, List.cons_append, List.nil_append] at h
          omega
      · refine ⟨rfl, ?_⟩
        refine d_br (fun h => ?_) (fun h => ?_)
        · simp only [cCmp, cE2, sev, svl, cen, List.cons_append, List.nil_append] at h
          omega
        · clear h
          refine d_fld p (by simp only [cE2, sev, svl, cen, List.cons_append, List.nil_append]; omega) ?_
          rw [hsz]
          refine d_rng (by simp only [clo, chi, cE2, sev, svl, cen, List.cons_append, List.nil_append]; omega) ?_
          refine d_row p (sz - 1) (by simp only [cE2, sev, svl, cen, List.cons_append, List.nil_append]; omega) (by simp only [cE2, sev, svl, cen, List.cons_append, List.nil_append]; omega) (by omega) ?_
          refine d_br (fun h => ?_) (fun h => ?_)
          · simp only [cCmp, cE2, sev, svl, cen, List.cons_append, List.nil_append] at h
            first
            | omega
            | skip
              exact d_ret [0] rfl (by decide) ⟨rfl, Or.inr ⟨rfl, by omega⟩⟩
          · simp only [cCmp, cE2, sev, svl, cen, List.cons_append, List.nil_append] at h
            first
            | omega
            | skip
              exact d_ret [1] rfl (by decide) ⟨rfl, Or.inl ⟨rfl, by omega⟩⟩
theorem b_highestDone (hp : cPl tm tc tf EX) {hd nm : Int} {M : SMem} (hI : sI tg M) : cBG tm tf EX l dC dI cA ad scrS (d + 3) kX9_highestDone [(2, 0, 0), (0, 0, hd), (0, 0, nm)] M (fun rr MM => MM = M ∧ rr = [wHi (wDc (wEr M hd nm)) (fun k => M 64 k 2) 12]) := by
  refine cMeth (v := [hd, nm]) (Fd := 90) hp (by decide) gX9_highestDone_ok gX9_highestDone_m0 (by simp [cAs, cE2, sev, svl, cen]) ?_
  have hr := wHi_r (E := wDc (wEr M hd nm)) (H := fun k => M 64 k 2) (fun k => wIb (f := 64) (i := 2) (lo := 0) (hi := 99) hI k rfl)
  generalize hE : wDc (wEr M hd nm) = E at hr
  have loop : ∀ (m k : Nat), k + m = 12 → cEnds (cBG tm tf EX l dC dI cA ad scrS (d + 2)) (fun rr MM => MM = M ∧ rr = [wHi E (fun k => M 64 k 2) 12]) 90 gX9_highestDone 5 [hd, nm, wHi E (fun k => M 64 k 2) k, (k : Int)] M := by
    intro m
    induction m with
    | zero =>
      intro k hk
      have br := hr k
      refine cEnds_at gX9_highestDone_m5 rfl ?_
      refine d_br (fun h => ?_) (fun h => ?_)
      · exact wret1 (wHi E (fun k => M 64 k 2) k) (by simp only [cE2, sev, svl, cen, List.cons_append, List.nil_append]; omega) (by omega) ⟨rfl, by rw [show k = 12 by omega]⟩
      · simp only [cCmp, cE2, sev, svl, cen, List.cons_append, List.nil_append] at h
        omega
    | succ m ih =>
      intro k hk
      have br := hr k
      refine cEnds_at gX9_highestDone_m5 rfl ?_
      refine d_br (fun h => ?_) (fun h => ?_)
      · simp only [cCmp, cE2, sev, svl, cen, List.cons_append, List.nil_append] at h
        first
        | omega
        | skip
          exact wret1 (wHi E (fun k => M 64 k 2) k) (by simp only [cE2, sev, svl, cen, List.cons_append, List.nil_append]; omega) (by omega) (by omega)
      · simp only [cCmp, cE2, sev, svl, cen, List.cons_append, List.nil_append] at h
        first
        | omega
        | skip
          refine d_idx (by simp only [cE2, sev, svl, cen, List.cons_append, List.nil_append]; omega) ?_
          refine d_call (b_isErasedBy hp (p := k) (hd := hd) (nm := nm) hI) (by simp [cAs, cE2, sev, svl, cen] <;> omega) ?_
          intro rr M' hq
          obtain ⟨hM', hq⟩ := hq
          rw [hM']
          rcases hq with ⟨rfl, q4⟩ | ⟨rfl, q4⟩
          · refine ⟨rfl, ?_⟩
            refine d_br (fun h => ?_) (fun h => ?_)
            · simp only [cCmp, cE2, sev, svl, cen, List.cons_append, List.nil_append] at h
              omega
            · clear h
              refine d_idx (by simp only [cE2, sev, svl, cen, List.cons_append, List.nil_append]; omega) ?_
              refine d_fld k (by simp only [cE2, sev, svl, cen, List.cons_append, List.nil_append]; omega) ?_
              refine d_opw (wHi E (fun k => M 64 k 2) k) (M 64 k 2) (by simp [cE2, sev, svl, cen] <;> omega) (by simp [cE2, sev, svl, cen] <;> omega) ?_
              refine d_rng (by simp only [clo, chi, cE2, sev, svl, cen, List.cons_append, List.nil_append]; omega) ?_
              have e : E k = true := by rw [← hE]; exact wDc_y q4
              rw [show cfn 11 (wHi E (fun k => M 64 k 2) k) (M 64 k 2) = wHi E (fun k => M 64 k 2) (k + 1) from (wHi_y (H := fun k => M 64 k 2) e).symm]
              refine d_cut [hd, nm, wHi E (fun k => M 64 k 2) (k + 1), ((k + 1 : Nat) : Int)] (by simp [cE2, sev, svl, cen] <;> omega) ?_
              exact ih (k + 1) (by omega)
          · refine ⟨rfl, ?_⟩
            refine d_br (fun h => ?_) (fun h => ?_)
            · clear h
              refine d_rng (by simp only [clo, chi, cE2, sev, svl, cen, List.cons_append, List.nil_append]; omega) ?_
              have e : E k = false := by rw [← hE]; exact wDc_n q4
              rw [← wHi_n (H := fun k => M 64 k 2) e]
              refine d_cut [hd, nm, wHi E (fun k => M 64 k 2) (k + 1), ((k + 1 : Nat) : Int)] (by simp [cE2, sev, svl, cen] <;> omega) ?_
              exact ih (k + 1) (by omega)
            · simp only [cCmp, cE2, sev, svl, cen, List.cons_append, List.nil_append] at h
              omega
  refine cEnds_at gX9_highestDone_m0 rfl ?_
  refine d_cut [hd, nm, wHi E (fun k => M 64 k 2) 0, ((0 : Nat) : Int)] (by simp [cE2, sev, svl, cen, wHi]) ?_
  exact loop 12 0 (by omega)
theorem b_sortsDone (hp : cPl tm tc tf EX) {hd nm : Int} {M : SMem} (hI : sI tg M) : cBG tm tf EX l dC dI cA ad scrS (d + 3) kX9_sortsDone [(2, 0, 0), (0, 0, hd), (0, 0, nm)] M (fun rr MM => MM = M ∧ rr = [wSo (wDc (wEr M hd nm)) (fun k => M 64 k 3) 12]) := by
  refine cMeth (v := [hd, nm]) (Fd := 90) hp (by decide) gX9_sortsDone_ok gX9_sortsDone_m0 (by simp [cAs, cE2, sev, svl, cen]) ?_
  generalize hE : wDc (wEr M hd nm) = E
  have loop : ∀ (m k : Nat), k + m = 12 → cEnds (cBG tm tf EX l dC dI cA ad scrS (d + 2)) (fun rr MM => MM = M ∧ rr = [wSo E (fun k => M 64 k 3) 12]) 90 gX9_sortsDone 5 [hd, nm, wSo E (fun k => M 64 k 3) k, (k : Int)] M := by
    intro m
    induction m with
    | zero =>
      intro k hk
      have br := wSo_r (E := E) (H := fun k => M 64 k 3) k
      refine cEnds_at gX9_sortsDone_m5 rfl ?_
      refine d_br (fun h => ?_) (fun h => ?_)
      · exact wret1 (wSo E (fun k => M 64 k 3) k) (by simp only [cE2, sev, svl, cen, List.cons_append, List.nil_append]; omega) (by omega) ⟨rfl, by rw [show k = 12 by omega]⟩
      · simp only [cCmp, cE2, sev, svl, cen, List.cons_append, List.nil_append] at h
        omega
    | succ m ih =>
      intro k hk
      have br := wSo_r (E := E) (H := fun k => M 64 k 3) k
      refine cEnds_at gX9_sortsDone_m5 rfl ?_
      refine d_br (fun h => ?_) (fun h => ?_)
      · simp only [cCmp, cE2, sev, svl, cen, List.cons_append, List.nil_append] at h
        first
        | omega
        | skip
          exact wret1 (wSo E (fun k => M 64 k 3) k) (by simp only [cE2, sev, svl, cen, List.cons_append, List.nil_append]; omega) (by omega) (by omega)
      · simp only [cCmp, cE2, sev, svl, cen, List.cons_append, List.nil_append] at h
        first
        | omega
        | skip
          refine d_idx (by simp only [cE2, sev, svl, cen, List.cons_append, List.nil_append]; omega) ?_
          refine d_call (b_isErasedBy hp (p := k) (hd := hd) (nm := nm) hI) (by simp [cAs, cE2, sev, svl, cen] <;> omega) ?_
          intro rr M' hq
          obtain ⟨hM', hq⟩ := hq
          rw [hM']
          rcases hq with ⟨rfl, q4⟩ | ⟨rfl, q4⟩
          · refine ⟨rfl, ?_⟩
            refine d_br (fun h => ?_) (fun h => ?_)
            · simp only [cCmp, cE2, sev, svl, cen, List.cons_append, List.nil_append] at h
              omega
            · clear h
              refine d_idx (by simp only [cE2, sev, svl, cen, List.cons_append, List.nil_append]; omega) ?_
              refine d_fld k (by simp only [cE2, sev, svl, cen, List.cons_append, List.nil_append]; omega) ?_
              refine d_opw 1 (M 64 k 3) (by simp [cE2, sev, svl, cen] <;> omega) (by simp [cE2, sev, svl, cen] <;> omega) ?_
              refine d_opw (wSo E (fun k => M 64 k 3) k) (cfn 2 1 (M 64 k 3)) (by simp [cE2, sev, svl, cen] <;> omega) (by simp [cE2, sev, svl, cen] <;> omega) ?_
              refine d_rng (by simp only [clo, chi, cE2, sev, svl, cen, List.cons_append, List.nil_append]; omega) ?_
              have e : E k = true := by rw [← hE]; exact wDc_y q4
              rw [show cfn 1 (wSo E (fun k => M 64 k 3) k) (cfn 2 1 (M 64 k 3)) = wSo E (fun k => M 64 k 3) (k + 1) from (wSo_y (H := fun k => M 64 k 3) e).symm]
              refine d_cut [hd, nm, wSo E (fun k => M 64 k 3) (k + 1), ((k + 1 : Nat) : Int)] (by simp [cE2, sev, svl, cen] <;> omega) ?_
              exact ih (k + 1) (by omega)
          · refine ⟨rfl, ?_⟩
            refine d_br (fun h => ?_) (fun h => ?_)
            · clear h
              refine d_rng (by simp only [clo, chi, cE2, sev, svl, cen, List.cons_append, List.nil_append]; omega) ?_
              have e : E k = false := by rw [← hE]; exact wDc_n q4
              rw [← wSo_n (H := fun k => M 64 k 3) e]
              refine d_cut [hd, nm, wSo E (fun k => M 64 k 3) (k + 1), ((k + 1 : Nat) : Int)] (by simp [cE2, sev, svl, cen] <;> omega) ?_
              exact ih (k + 1) (by omega)
            · simp only [cCmp, cE2, sev, svl, cen, List.cons_append, List.nil_append] at h
              omega
  refine cEnds_at gX9_sortsDone_m0 rfl ?_
  refine d_cut [hd, nm, wSo E (fun k => M 64 k 3) 0, ((0 : Nat) : Int)] (by simp [cE2, sev, svl, cen, wSo]) ?_
  exact loop 12 0 (by omega)
theorem b_sortsLeft (hp : cPl tm tc tf EX) {nm : Int} {M : SMem} (hI : sI tg M) : cBG tm tf EX l dC dI cA ad scrS (d + 3) kX9_sortsLeft [(2, 0, 0), (0, 0, nm)] M (fun rr MM => MM = M ∧ rr = [wSo (wDc (wBe M nm)) (fun k => M 64 k 3) 12]) := by
  refine cMeth (v := [nm]) (Fd := 90) hp (by decide) gX9_sortsLeft_ok gX9_sortsLeft_m0 (by simp [cAs, cE2, sev, svl, cen]) ?_
  generalize hE : wDc (wBe M nm) = E
  have loop : ∀ (m k : Nat), k + m = 12 → cEnds (cBG tm tf EX l dC dI cA ad scrS (d + 2)) (fun rr MM => MM = M ∧ rr = [wSo E (fun k => M 64 k 3) 12]) 90 gX9_sortsLeft 4 [nm, wSo E (fun k => M 64 k 3) k, (k : Int)] M := by
    intro m
    induction m with
    | zero =>
      intro k hk
      have br := wSo_r (E := E) (H := fun k => M 64 k 3) k
      refine cEnds_at gX9_sortsLeft_m4 rfl ?_
      refine d_br (fun h => ?_) (fun h => ?_)
      · exact wret1 (wSo E (fun k => M 64 k 3) k) (by simp only [cE2, sev, svl, cen, List.cons_append, List.nil_append]; omega) (by omega) ⟨rfl, by rw [show k = 12 by omega]⟩
      · simp only [cCmp, cE2, sev, svl, cen, List.cons_append, List.nil_append] at h
        omega
    | succ m ih =>
      intro k hk
      have br := wSo_r (E := E) (H := fun k => M 64 k 3) k
      refine cEnds_at gX9_sortsLeft_m4 rfl ?_
      refine d_br (fun h => ?_) (fun h => ?_)
      · simp only [cCmp, cE2, sev, svl, cen, List.cons_append, List.nil_append] at h
        first
        | omega
        | skip
          exact wret1 (wSo E (fun k => M 64 k 3) k) (by simp only [cE2, sev, svl, cen, List.cons_append, List.nil_append]; omega) (by omega) (by omega)
      · simp only [cCmp, cE2, sev, svl, cen, List.cons_append, List.nil_append] at h
        first
        | omega
        | skip
          refine d_idx (by simp only [cE2, sev, svl, cen, List.cons_append, List.nil_append]; omega) ?_
          refine d_call (b_bears hp (p := k) (nm := nm) hI) (by simp [cAs, cE2, sev, svl, cen] <;> omega) ?_
          intro rr M' hq
          obtain ⟨hM', hq⟩ := hq
          rw [hM']
          rcases hq with ⟨rfl, q3⟩ | ⟨rfl, q3⟩
          · refine ⟨rfl, ?_⟩
            refine d_br (fun h => ?_) (fun h => ?_)
            · simp only [cCmp, cE2, sev, svl, cen, List.cons_append, List.nil_append] at h
              omega
            · clear h
              refine d_idx (by simp only [cE2, sev, svl, cen, List.cons_append, List.nil_append]; omega) ?_
              refine d_fld k (by simp only [cE2, sev, svl, cen, List.cons_append, List.nil_append]; omega) ?_
              refine d_opw 1 (M 64 k 3) (by simp [cE2, sev, svl, cen] <;> omega) (by simp [cE2, sev, svl, cen] <;> omega) ?_
              refine d_opw (wSo E (fun k => M 64 k 3) k) (cfn 2 1 (M 64 k 3)) (by simp [cE2, sev, svl, cen] <;> omega) (by simp [cE2, sev, svl, cen] <;> omega) ?_
              refine d_rng (by simp only [clo, chi, cE2, sev, svl, cen, List.cons_append, List.nil_append]; omega) ?_
              have e : E k = true := by rw [← hE]; exact wDc_y q3
              rw [show cfn 1 (wSo E (fun k => M 64 k 3) k) (cfn 2 1 (M 64 k 3)) = wSo E (fun k => M 64 k 3) (k + 1) from (wSo_y (H := fun k => M 64 k 3) e).symm]
              refine d_cut [nm, wSo E (fun k => M 64 k 3) (k + 1), ((k + 1 : Nat) : Int)] (by simp [cE2, sev, svl, cen] <;> omega) ?_
              exact ih (k + 1) (by omega)
          · refine ⟨rfl, ?_⟩
            refine d_br (fun h => ?_) (fun h => ?_)
            · clear h
              refine d_rng (by simp only [clo, chi, cE2, sev, svl, cen, List.cons_append, List.nil_append]; omega) ?_
              have e : E k = false := by rw [← hE]; exact wDc_n q3
              rw [← wSo_n (H := fun k => M 64 k 3) e]
              refine d_cut [nm, wSo E (fun k => M 64 k 3) (k + 1), ((k + 1 : Nat) : Int)] (by simp [cE2, sev, svl, cen] <;> omega) ?_
              exact ih (k + 1) (by omega)
            · simp only [cCmp, cE2, sev, svl, cen, List.cons_append, List.nil_append] at h
              omega
  refine cEnds_at gX9_sortsLeft_m0 rfl ?_
  refine d_cut [nm, wSo E (fun k => M 64 k 3) 0, ((0 : Nat) : Int)] (by simp [cE2, sev, svl, cen, wSo]) ?_
  exact loop 12 0 (by omega)
theorem b_lowestLeft (hp : cPl tm tc tf EX) {nm : Int} {M : SMem} (hI : sI tg M) : cBG tm tf EX l dC dI cA ad scrS (d + 3) kX9_lowestLeft [(2, 0, 0), (0, 0, nm)] M (fun rr MM => MM = M ∧ rr = [wLo (wDc (wBe M nm)) (fun k => M 64 k 2) 12]) := by
  refine cMeth (v := [nm]) (Fd := 90) hp (by decide) gX9_lowestLeft_ok gX9_lowestLeft_m0 (by simp [cAs, cE2, sev, svl, cen]) ?_
  have hr := wLo_r (E := wDc (wBe M nm)) (H := fun k => M 64 k 2) (fun k => wIb (f := 64) (i := 2) (lo := 0) (hi := 99) hI k rfl)
  generalize hE : wDc (wBe M nm) = E at hr
  have loop : ∀ (m k : Nat), k + m = 12 → cEnds (cBG tm tf EX l dC dI cA ad scrS (d + 2)) (fun rr MM => MM = M ∧ rr = [wLo E (fun k => M 64 k 2) 12]) 90 gX9_lowestLeft 4 [nm, wLo E (fun k => M 64 k 2) k, (k : Int)] M := by
    intro m
    induction m with
    | zero =>
      intro k hk
      have br := hr k
      refine cEnds_at gX9_lowestLeft_m4 rfl ?_
      refine d_br (fun h => ?_) (fun h => ?_)
      · exact wret1 (wLo E (fun k => M 64 k 2) k) (by simp only [cE2, sev, svl, cen, List.cons_append, List.nil_append]; omega) (by omega) ⟨rfl, by rw [show k = 12 by omega]⟩
      · simp only [cCmp, cE2, sev, svl, cen, List.cons_append, List.nil_append] at h
        omega
    | succ m ih =>
      intro k hk
      have br := hr k
      have ey : E k = true → wLo E (fun k => M 64 k 2) (k + 1) = if wLo E (fun k => M 64 k 2) k < 0 ∨ M 64 k 2 < wLo E (fun k => M 64 k 2) k then M 64 k 2 else wLo E (fun k => M 64 k 2) k := fun e => wLo_y (H := fun k => M 64 k 2) e
      refine cEnds_at gX9_lowestLeft_m4 rfl ?_
      refine d_br (fun h => ?_) (fun h => ?_)
      · simp only [cCmp, cE2, sev, svl, cen, List.cons_append, List.nil_append] at h
        first
        | omega
        | skip
          exact wret1 (wLo E (fun k => M 64 k 2) k) (by simp only [cE2, sev, svl, cen, List.cons_append, List.nil_append]; omega) (by omega) (by omega)
      · simp only [cCmp, cE2, sev, svl, cen, List.cons_append, List.nil_append] at h
        first
        | omega
        | skip
          refine d_idx (by simp only [cE2, sev, svl, cen, List.cons_append, List.nil_append]; omega) ?_
          refine d_call (b_bears hp (p := k) (nm := nm) hI) (by simp [cAs, cE2, sev, svl, cen] <;> omega) ?_
          intro rr M' hq
          obtain ⟨hM', hq⟩ := hq
          rw [hM']
          rcases hq with ⟨rfl, q3⟩ | ⟨rfl, q3⟩
          · refine ⟨rfl, ?_⟩
            refine d_br (fun h => ?_) (fun h => ?_)
            · simp only [cCmp, cE2, sev, svl, cen, List.cons_append, List.nil_append] at h
              omega
            · clear h
              refine d_br (fun h => ?_) (fun h => ?_)
              · simp only [cCmp, cE2, sev, svl, cen, List.cons_append, List.nil_append] at h
                first
                | omega
                | skip
                  refine d_idx (by simp only [cE2, sev, svl, cen, List.cons_append, List.nil_append]; omega) ?_
                  refine d_fld k (by simp only [cE2, sev, svl, cen, List.cons_append, List.nil_append]; omega) ?_
                  refine d_rng (by simp only [clo, chi, cE2, sev, svl, cen, List.cons_append, List.nil_append]; omega) ?_
                  have e : E k = true := by rw [← hE]; exact wDc_y q3
                  have e2 := ey e
                  rw [if_pos (by omega)] at e2
                  refine d_cut [nm, M 64 k 2, ((k + 1 : Nat) : Int)] (by simp [cE2, sev, svl, cen] <;> omega) ?_
                  rw [← e2]
                  exact ih (k + 1) (by omega)
              · simp only [cCmp, cE2, sev, svl, cen, List.cons_append, List.nil_append] at h
                first
                | omega
                | skip
                  refine d_idx (by simp only [cE2, sev, svl, cen, List.cons_append, List.nil_append]; omega) ?_
                  refine d_fld k (by simp only [cE2, sev, svl, cen, List.cons_append, List.nil_append]; omega) ?_
                  refine d_br (fun h => ?_) (fun h => ?_)
                  · simp only [cCmp, cE2, sev, svl, cen, List.cons_append, List.nil_append] at h
                    first
                    | omega
                    | skip
                      refine d_rng (by simp only [clo, chi, cE2, sev, svl, cen, List.cons_append, List.nil_append]; omega) ?_
                      have e : E k = true := by rw [← hE]; exact wDc_y q3
                      have e2 := ey e
                      rw [if_neg (by omega)] at e2
                      refine d_cut [nm, wLo E (fun k => M 64 k 2) k, ((k + 1 : Nat) : Int)] (by simp [cE2, sev, svl, cen] <;> omega) ?_
                      rw [← e2]
                      exact ih (k + 1) (by omega)
                  · simp only [cCmp, cE2, sev, svl, cen, List.cons_append, List.nil_append] at h
                    first
                    | omega
                    | skip
                      refine d_idx (by simp only [cE2, sev, svl, cen, List.cons_append, List.nil_append]; omega) ?_
                      refine d_fld k (by simp only [cE2, sev, svl, cen, List.cons_append, List.nil_append]; omega) ?_
                      refine d_rng (by simp only [clo, chi, cE2, sev, svl, cen, List.cons_append, List.nil_append]; omega) ?_
                      have e : E k = true := by rw [← hE]; exact wDc_y q3
                      have e2 := ey e
                      rw [if_pos (by omega)] at e2
                      refine d_cut [nm, M 64 k 2, ((k + 1 : Nat) : Int)] (by simp [cE2, sev, svl, cen] <;> omega) ?_
                      rw [← e2]
                      exact ih (k + 1) (by omega)
          · refine ⟨rfl, ?_⟩
            refine d_br (fun h => ?_) (fun h => ?_)
            · clear h
              refine d_rng (by simp only [clo, chi, cE2, sev, svl, cen, List.cons_append, List.nil_append]; omega) ?_
              have e : E k = false := by rw [← hE]; exact wDc_n q3
              rw [← wLo_n (H := fun k => M 64 k 2) e]
              refine d_cut [nm, wLo E (fun k => M 64 k 2) (k + 1), ((k + 1 : Nat) : Int)] (by simp [cE2, sev, svl, cen] <;> omega) ?_
              exact ih (k + 1) (by omega)
            · simp only [cCmp, cE2, sev, svl, cen, List.cons_append, List.nil_append] at h
              omega
  refine cEnds_at gX9_lowestLeft_m0 rfl ?_
  refine d_cut [nm, wLo E (fun k => M 64 k 2) 0, ((0 : Nat) : Int)] (by simp [cE2, sev, svl, cen, wLo]) ?_
  exact loop 12 0 (by omega)
theorem b_far (hp : cPl tm tc tf EX) {hd nm w : Int} {M : SMem} (hI : sI tg M) : cBG tm tf EX l dC dI cA ad scrS (d + 4) kX9_far [(2, 0, 0), (0, 0, hd), (0, 0, nm), (0, 0, w)] M (fun rr MM => MM = M ∧ ∃ r : Int, rr = [r] ∧ ((¬ ((0 ≤ hd ∧ hd < 6) ∧ (0 ≤ nm ∧ nm < 8 ∧ M 58 0 nm.toNat ≠ 0) ∧ (0 ≤ w ∧ w ≤ 3)) ∧ r = -1) ∨ (((0 ≤ hd ∧ hd < 6) ∧ (0 ≤ nm ∧ nm < 8 ∧ M 58 0 nm.toNat ≠ 0) ∧ (0 ≤ w ∧ w ≤ 3)) ∧ ((w = 0 ∧ r = wHi (wDc (wEr M hd nm)) (fun k => M 64 k 2) 12) ∨ (w = 1 ∧ r = wLo (wDc (wBe M nm)) (fun k => M 64 k 2) 12) ∨ (w = 2 ∧ r = wSo (wDc (wEr M hd nm)) (fun k => M 64 k 3) 12) ∨ (w = 3 ∧ r = wSo (wDc (wBe M nm)) (fun k => M 64 k 3) 12))))) := by
  have hr := wHi_r (E := wDc (wEr M hd nm)) (H := fun k => M 64 k 2) (fun k => wIb (f := 64) (i := 2) (lo := 0) (hi := 99) hI k rfl) 12
  have hr2 := wLo_r (E := wDc (wBe M nm)) (H := fun k => M 64 k 2) (fun k => wIb (f := 64) (i := 2) (lo := 0) (hi := 99) hI k rfl) 12
  have hr3 := wSo_r (E := wDc (wEr M hd nm)) (H := fun k => M 64 k 3) 12
  have hr4 := wSo_r (E := wDc (wBe M nm)) (H := fun k => M 64 k 3) 12
  refine cMeth (v := [hd, nm, w]) (Fd := 90) hp (by decide) gX9_far_ok gX9_far_m0 (by simp [cAs, cE2, sev, svl, cen]) ?_
  refine cEnds_at gX9_far_m0 rfl ?_
  refine d_call (b_isBelow hp (x := hd) (y := 6)) (by simp [cAs, cE2, sev, svl, cen] <;> omega) ?_
  intro rr M' hq
  obtain ⟨hM', hq⟩ := hq
  rw [hM']
  rcases hq with ⟨rfl, q3⟩ | ⟨rfl, q3⟩
  · refine ⟨rfl, ?_⟩
    refine d_br (fun h => ?_) (fun h => ?_)
    · simp only [cCmp, cE2, sev, svl, cen, List.cons_append, List.nil_append] at h
      omega
    · clear h
      refine d_call (b_isTold hp (a := nm)) (by simp [cAs, cE2, sev, svl, cen] <;> omega) ?_
      intro rr M' hq
      obtain ⟨hM', hq⟩ := hq
      rw [hM']
      rcases hq with ⟨rfl, q4⟩ | ⟨rfl, q4⟩
      · refine ⟨rfl, ?_⟩
        refine d_br (fun h => ?_) (fun h => ?_)
        · clear h
          refine d_br (fun h => ?_) (fun h => ?_)
          · simp only [cCmp, cE2, sev, svl, cen, List.cons_append, List.nil_append] at h
            first
            | omega
            | skip
              exact d_ret [(-1)] rfl (by decide) ⟨rfl, -1, rfl, Or.inl ⟨by omega, rfl⟩⟩
          · simp only [cCmp, cE2, sev, svl, cen, List.cons_append, List.nil_append] at h
            first
            | omega
            | skip
              refine d_br (fun h => ?_) (fun h => ?_)
              · simp only [cCmp, cE2, sev, svl, cen, List.cons_append, List.nil_append] at h
                first
                | omega
                | skip
                  exact d_ret [(-1)] rfl (by decide) ⟨rfl, -1, rfl, Or.inl ⟨by omega, rfl⟩⟩
              · simp only [cCmp, cE2, sev, svl, cen, List.cons_append, List.nil_append] at h
                first
                | omega
                | skip
                  refine d_br (fun h => ?_) (fun h => ?_)
                  · simp only [cCmp, cE2, sev, svl, cen, List.cons_append, List.nil_append] at h
                    first
                    | omega
                    | skip
                      refine d_call (b_highestDone hp (hd := hd) (nm := nm) hI) (by simp [cAs, cE2, sev, svl, cen] <;> omega) ?_
                      intro rr M' hq
                      obtain ⟨hM', rfl⟩ := hq
                      rw [hM']
                      refine ⟨rfl, ?_⟩
                      exact wret1 (wHi (wDc (wEr M hd nm)) (fun k => M 64 k 2) 12) (by simp only [cE2, sev, svl, cen, List.cons_append, List.nil_append]; omega) (by omega) ⟨rfl, _, rfl, by omega⟩
                  · simp only [cCmp, cE2, sev, svl, cen, List.cons_append, List.nil_append] at h
                    first
                    | omega
                    | skip
                      refine d_br (fun h => ?_) (fun h => ?_)
                      · simp only [cCmp, cE2, sev, svl, cen, List.cons_append, List.nil_append] at h
                        first
                        | omega
                        | skip
                          refine d_call (b_lowestLeft hp (nm := nm) hI) (by simp [cAs, cE2, sev, svl, cen] <;> omega) ?_
                          intro rr M' hq
                          obtain ⟨hM', rfl⟩ := hq
                          rw [hM']
                          refine ⟨rfl, ?_⟩
                          exact wret1 (wLo (wDc (wBe M nm)) (fun k => M 64 k 2) 12) (by simp only [cE2, sev, svl, cen, List.cons_append, List.nil_append]; omega) (by omega) ⟨rfl, _, rfl, by omega⟩
                      · simp only [cCmp, cE2, sev, svl, cen, List.cons_append, List.nil_append] at h
                        first
                        | omega
                        | skip
                          refine d_br (fun h => ?_) (fun h => ?_)
                          · simp only [cCmp, cE2, sev, svl, cen, List.cons_append, List.nil_append] at h
                            first
                            | omega
                            | skip
                              refine d_call (b_sortsDone hp (hd := hd) (nm := nm) hI) (by simp [cAs, cE2, sev, svl, cen] <;> omega) ?_
                              intro rr M' hq
                              obtain ⟨hM', rfl⟩ := hq
                              rw [hM']
                              refine ⟨rfl, ?_⟩
                              exact wret1 (wSo (wDc (wEr M hd nm)) (fun k => M 64 k 3) 12) (by simp only [cE2, sev, svl, cen, List.cons_append, List.nil_append]; omega) (by omega) ⟨rfl, _, rfl, by omega⟩
                          · simp only [cCmp, cE2, sev, svl, cen, List.cons_append, List.nil_append] at h
                            first
                            | omega
                            | skip
                              refine d_br (fun h => ?_) (fun h => ?_)
                              · simp only [cCmp, cE2, sev, svl, cen, List.cons_append, List.nil_append] at h
                                first
                                | omega
                                | skip
                                  refine d_call (b_sortsLeft hp (nm := nm) hI) (by simp [cAs, cE2, sev, svl, cen] <;> omega) ?_
                                  intro rr M' hq
                                  obtain ⟨hM', rfl⟩ := hq
                                  rw [hM']
                                  refine ⟨rfl, ?_⟩
                                  exact wret1 (wSo (wDc (wBe M nm)) (fun k => M 64 k 3) 12) (by simp only [cE2, sev, svl, cen, List.cons_append, List.nil_append]; omega) (by omega) ⟨rfl, _, rfl, by omega⟩
                              · simp only [cCmp, cE2, sev, svl, cen, List.cons_append, List.nil_append] at h
                                first
                                | omega
                                | skip
                                  omega
        · simp only [cCmp, cE2, sev, svl, cen, List.cons_append, List.nil_append] at h
          omega
      · refine ⟨rfl, ?_⟩
        refine d_br (fun h => ?_) (fun h => ?_)
        · simp only [cCmp, cE2, sev, svl, cen, List.cons_append, List.nil_append] at h
          omega
        · clear h
          exact d_ret [(-1)] rfl (by decide) ⟨rfl, -1, rfl, Or.inl ⟨by omega, rfl⟩⟩
  · refine ⟨rfl, ?_⟩
    refine d_br (fun h => ?_) (fun h => ?_)
    · clear h
      exact d_ret [(-1)] rfl (by decide) ⟨rfl, -1, rfl, Or.inl ⟨by omega, rfl⟩⟩
    · simp only [cCmp, cE2, sev, svl, cen, List.cons_append, List.nil_append] at h
      omega
end CFR
