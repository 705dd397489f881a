/-! the reference reads an order -/
abbrev oFo (f i : Nat) : Prop := oPj f i ∨ oPc f i ∨ (f = 1 ∧ i = 0)
def oOQ (T : Nat → Int) (L : Nat) (U : Nat → Int) (rr : List Int) : Prop := (∃ f, oRd T L U 14 0 (oS T L 0) [] = .error f ∧ 0 < f ∧ rr = [f]) ∨ ∃ ls, oRd T L U 14 0 (oS T L 0) [] = .ok ls ∧ rr = [0]
section CO15
variable {EX : SEx} {l : Launch} {dC : Nat → ClassId} {dI : Nat → Nat → Nat} {cA : Nat → ClassId} {ad : SAd} {scrS d : Nat}
variable {T U : Nat → Int} {L N : Nat}
theorem m_order2 (hp : cPl tm tc tf EX) {r e : Nat} {ls : List OLn} {x : Int} {M : SMem} (hx : 0 ≤ x ∧ x ≤ 5) (hr : r < 6) (he : e ≤ 1000) (hR : oRd T L U 14 0 (oS T L 0) [] = .ok ls) : ∀ (m k : Nat) (MW : SMem), k + m = e → sI tg MW → oFm oFo M MW → MW 1 0 2 = 0 → MW 1 0 39 = (e : Int) → cEnds (cBG tm tf EX l dC dI cA ad scrS 33) (fun rr MM => (¬ (0 ≤ x ∧ x ≤ 5) ∧ rr = [-1] ∧ MM = supd (supd M 1 0 0 0) 1 0 2 0) ∨ ((0 ≤ x ∧ x ≤ 5) ∧ sI tg MM ∧ oFm oFo M MM ∧ MM 1 0 2 = 0 ∧ (∃ r : Int, rr = [r] ∧ -2147483648 ≤ r ∧ r ≤ 2147483647) ∧ oOQ T L U rr)) 90 gX10_order 169 [(r : Int), (k : Int)] MW := by
  intro m
  induction m with
  | zero =>
    intro k MW hk g1 g2 g3 g4
    refine cEnds_at gX10_order_m169 rfl ?_
    refine d_fld 0 (by simp only [cE2, sev, svl, cen, List.cons_append, List.nil_append]; omega) ?_
    rw [g4]
    refine d_br (fun h => ?_) (fun h => ?_)
    · simp only [cCmp, cE2, sev, svl, cen, List.cons_append, List.nil_append] at h
      first
      | omega
      | skip
        exact d_ret [0] rfl (by decide) (Or.inr ⟨hx, g1, g2, g3, ⟨0, rfl, by decide, by decide⟩, Or.inr ⟨ls, hR, rfl⟩⟩)
    · simp only [cCmp, cE2, sev, svl, cen, List.cons_append, List.nil_append] at h
      first
      | omega
      | skip
        refine d_rng (by simp only [clo, chi, cE2, sev, svl, cen, List.cons_append, List.nil_append]; omega) ?_
        refine d_rng (by simp only [clo, chi, cE2, sev, svl, cen, List.cons_append, List.nil_append]; omega) ?_
        refine d_rng (by simp only [clo, chi, cE2, sev, svl, cen, List.cons_append, List.nil_append]; omega) ?_
        refine d_row 0 (k + 6600) (by simp only [cE2, sev, svl, cen, List.cons_append, List.nil_append]; omega) (by simp only [cE2, sev, svl, cen, List.cons_append, List.nil_append]; omega) (by omega) ?_
        refine d_set 0 (1100 * r + k) (MW 41 0 (k + 6600)) (by simp only [cE2, sev, svl, cen, List.cons_append, List.nil_append]; omega) (by simp only [cE2, sev, svl, cen, List.cons_append, List.nil_append]; omega) (by omega) (by simp only [cE2, sev, svl, cen, List.cons_append, List.nil_append]; omega) ?_
        refine d_rng (by simp only [clo, chi, cE2, sev, svl, cen, List.cons_append, List.nil_append]; omega) ?_
        refine d_rng (by simp only [clo, chi, cE2, sev, svl, cen, List.cons_append, List.nil_append]; omega) ?_
        refine d_rng (by simp only [clo, chi, cE2, sev, svl, cen, List.cons_append, List.nil_append]; omega) ?_
        refine d_row 0 (k + 6600) (by simp only [cE2, sev, svl, cen, List.cons_append, List.nil_append]; omega) (by simp only [cE2, sev, svl, cen, List.cons_append, List.nil_append]; omega) (by omega) ?_
        rw [supd_f (by decide)]
        refine d_set 0 (1100 * r + k) (MW 42 0 (k + 6600)) (by simp only [cE2, sev, svl, cen, List.cons_append, List.nil_append]; omega) (by simp only [cE2, sev, svl, cen, List.cons_append, List.nil_append]; omega) (by omega) (by simp only [cE2, sev, svl, cen, List.cons_append, List.nil_append]; omega) ?_
        refine d_rng (by simp only [clo, chi, cE2, sev, svl, cen, List.cons_append, List.nil_append]; omega) ?_
        refine d_cut [(r : Int), ((k : Int) + 1)] (by simp [cE2, sev, svl, cen] <;> omega) ?_
        exact (by omega)
  | succ m ih =>
    intro k MW hk g1 g2 g3 g4
    have b41 := wIb (f := 41) (i := k + 6600) (lo := 0) (hi := 10) g1 0 rfl
    have b42 := wIb (f := 42) (i := k + 6600) (lo := -2147483648) (hi := 2147483647) g1 0 rfl
    refine cEnds_at gX10_order_m169 rfl ?_
    refine d_fld 0 (by simp only [cE2, sev, svl, cen, List.cons_append, List.nil_append]; omega) ?_
    rw [g4]
    refine d_br (fun h => ?_) (fun h => ?_)
    · simp only [cCmp, cE2, sev, svl, cen, List.cons_append, List.nil_append] at h
      first
      | omega
      | skip
        exact d_ret [0] rfl (by decide) (by omega)
    · simp only [cCmp, cE2, sev, svl, cen, List.cons_append, List.nil_append] at h
      first
      | omega
      | skip
        refine d_rng (by simp only [clo, chi, cE2, sev, svl, cen, List.cons_append, List.nil_append]; omega) ?_
        refine d_rng (by simp only [clo, chi, cE2, sev, svl, cen, List.cons_append, List.nil_append]; omega) ?_
        refine d_rng (by simp only [clo, chi, cE2, sev, svl, cen, List.cons_append, List.nil_append]; omega) ?_
        refine d_row 0 (k + 6600) (by simp only [cE2, sev, svl, cen, List.cons_append, List.nil_append]; omega) (by simp only [cE2, sev, svl, cen, List.cons_append, List.nil_append]; omega) (by omega) ?_
        refine d_set 0 (1100 * r + k) (MW 41 0 (k + 6600)) (by simp only [cE2, sev, svl, cen, List.cons_append, List.nil_append]; omega) (by simp only [cE2, sev, svl, cen, List.cons_append, List.nil_append]; omega) (by omega) (by simp only [cE2, sev, svl, cen, List.cons_append, List.nil_append]; omega) ?_
        refine d_rng (by simp only [clo, chi, cE2, sev, svl, cen, List.cons_append, List.nil_append]; omega) ?_
        refine d_rng (by simp only [clo, chi, cE2, sev, svl, cen, List.cons_append, List.nil_append]; omega) ?_
        refine d_rng (by simp only [clo, chi, cE2, sev, svl, cen, List.cons_append, List.nil_append]; omega) ?_
        refine d_row 0 (k + 6600) (by simp only [cE2, sev, svl, cen, List.cons_append, List.nil_append]; omega) (by simp only [cE2, sev, svl, cen, List.cons_append, List.nil_append]; omega) (by omega) ?_
        rw [supd_f (by decide)]
        refine d_set 0 (1100 * r + k) (MW 42 0 (k + 6600)) (by simp only [cE2, sev, svl, cen, List.cons_append, List.nil_append]; omega) (by simp only [cE2, sev, svl, cen, List.cons_append, List.nil_append]; omega) (by omega) (by simp only [cE2, sev, svl, cen, List.cons_append, List.nil_append]; omega) ?_
        refine d_rng (by simp only [clo, chi, cE2, sev, svl, cen, List.cons_append, List.nil_append]; omega) ?_
        refine d_cut [(r : Int), ((k + 1 : Nat) : Int)] (by simp [cE2, sev, svl, cen] <;> omega) ?_
        exact ih (k + 1) _ (by omega) (wI (wI g1 (lo := 0) (hi := 10) rfl b41) (lo := -2147483648) (hi := 2147483647) rfl b42) (oFm_p (Or.inl (Or.inl (Or.inr (Or.inl rfl)))) (oFm_p (Or.inl (Or.inl (Or.inl rfl))) g2)) (by rw [supd_f (by decide), supd_f (by decide)]; exact g3) (by rw [supd_f (by decide), supd_f (by decide)]; exact g4)
theorem m_order1 (hp : cPl tm tc tf EX) {r e lno : Nat} {ls : List OLn} {x : Int} {M : SMem} (hx : 0 ≤ x ∧ x ≤ 5) (hr : r < 6) (he : e ≤ 1000) (hl : lno ≤ 12) (hR : oRd T L U 14 0 (oS T L 0) [] = .ok ls) : ∀ (m k : Nat) (MW : SMem), k + m = lno → sI tg MW → oFm oFo M MW → MW 1 0 2 = 0 → MW 1 0 39 = (e : Int) → MW 37 0 r = (lno : Int) → cEnds (cBG tm tf EX l dC dI cA ad scrS 33) (fun rr MM => (¬ (0 ≤ x ∧ x ≤ 5) ∧ rr = [-1] ∧ MM = supd (supd M 1 0 0 0) 1 0 2 0) ∨ ((0 ≤ x ∧ x ≤ 5) ∧ sI tg MM ∧ oFm oFo M MM ∧ MM 1 0 2 = 0 ∧ (∃ r : Int, rr = [r] ∧ -2147483648 ≤ r ∧ r ≤ 2147483647) ∧ oOQ T L U rr)) 90 gX10_order 91 [(r : Int), (k : Int)] MW := by
  intro m
  induction m with
  | zero =>
    intro k MW hk g1 g2 g3 g4 g5
    refine cEnds_at gX10_order_m91 rfl ?_
    refine d_row 0 r (by simp only [cE2, sev, svl, cen, List.cons_append, List.nil_append]; omega) (by simp only [cE2, sev, svl, cen, List.cons_append, List.nil_append]; omega) (by omega) ?_
    rw [g5]
    refine d_br (fun h => ?_) (fun h => ?_)
    · simp only [cCmp, cE2, sev, svl, cen, List.cons_append, List.nil_append] at h
      first
      | omega
      | skip
        refine d_cut [(r : Int), ((0 : Nat) : Int)] (by simp [cE2, sev, svl, cen] <;> omega) ?_
        exact m_order2 hp hx hr he hR e 0 MW (by omega) g1 g2 g3 g4
    · simp only [cCmp, cE2, sev, svl, cen, List.cons_append, List.nil_append] at h
      first
      | omega
      | skip
        refine d_rng (by simp only [clo, chi, cE2, sev, svl, cen, List.cons_append, List.nil_append]; omega) ?_
        refine d_rng (by simp only [clo, chi, cE2, sev, svl, cen, List.cons_append, List.nil_append]; omega) ?_
        refine d_rng (by simp only [clo, chi, cE2, sev, svl, cen, List.cons_append, List.nil_append]; omega) ?_
        refine d_row 0 (k + 72) (by simp only [cE2, sev, svl, cen, List.cons_append, List.nil_append]; omega) (by simp only [cE2, sev, svl, cen, List.cons_append, List.nil_append]; omega) (by omega) ?_
        refine d_set 0 (12 * r + k) (MW 38 0 (k + 72)) (by simp only [cE2, sev, svl, cen, List.cons_append, List.nil_append]; omega) (by simp only [cE2, sev, svl, cen, List.cons_append, List.nil_append]; omega) (by omega) (by simp only [cE2, sev, svl, cen, List.cons_append, List.nil_append]; omega) ?_
        refine d_rng (by simp only [clo, chi, cE2, sev, svl, cen, List.cons_append, List.nil_append]; omega) ?_
        refine d_rng (by simp only [clo, chi, cE2, sev, svl, cen, List.cons_append, List.nil_append]; omega) ?_
        refine d_rng (by simp only [clo, chi, cE2, sev, svl, cen, List.cons_append, List.nil_append]; omega) ?_
        refine d_row 0 (k + 72) (by simp only [cE2, sev, svl, cen, List.cons_append, List.nil_append]; omega) (by simp only [cE2, sev, svl, cen, List.cons_append, List.nil_append]; omega) (by omega) ?_
        rw [supd_f (by decide)]
        refine d_set 0 (12 * r + k) (MW 39 0 (k + 72)) (by simp only [cE2, sev, svl, cen, List.cons_append, List.nil_append]; omega) (by simp only [cE2, sev, svl, cen, List.cons_append, List.nil_append]; omega) (by omega) (by simp only [cE2, sev, svl, cen, List.cons_append, List.nil_append]; omega) ?_
        refine d_rng (by simp only [clo, chi, cE2, sev, svl, cen, List.cons_append, List.nil_append]; omega) ?_
        refine d_rng (by simp only [clo, chi, cE2, sev, svl, cen, List.cons_append, List.nil_append]; omega) ?_
        refine d_rng (by simp only [clo, chi, cE2, sev, svl, cen, List.cons_append, List.nil_append]; omega) ?_
        refine d_row 0 (k + 72) (by simp only [cE2, sev, svl, cen, List.cons_append, List.nil_append]; omega) (by simp only [cE2, sev, svl, cen, List.cons_append, List.nil_append]; omega) (by omega) ?_
        rw [supd_f (by decide)]
        rw [supd_f (by decide)]
        refine d_set 0 (12 * r + k) (MW 40 0 (k + 72)) (by simp only [cE2, sev, svl, cen, List.cons_append, List.nil_append]; omega) (by simp only [cE2, sev, svl, cen, List.cons_append, List.nil_append]; omega) (by omega) (by simp only [cE2, sev, svl, cen, List.cons_append, List.nil_append]; omega) ?_
        refine d_rng (by simp only [clo, chi, cE2, sev, svl, cen, List.cons_append, List.nil_append]; omega) ?_
        refine d_cut [(r : Int), ((k : Int) + 1)] (by simp [cE2, sev, svl, cen] <;> omega) ?_
        exact (by omega)
  | succ m ih =>
    intro k MW hk g1 g2 g3 g4 g5
    have b38 := wIb (f := 38) (i := k + 72) (lo := 0) (hi := 3) g1 0 rfl
    have b39 := wIb (f := 39) (i := k + 72) (lo := 0) (hi := 7) g1 0 rfl
    have b40 := wIb (f := 40) (i := k + 72) (lo := 0) (hi := 1000) g1 0 rfl
    refine cEnds_at gX10_order_m91 rfl ?_
    refine d_row 0 r (by simp only [cE2, sev, svl, cen, List.cons_append, List.nil_append]; omega) (by simp only [cE2, sev, svl, cen, List.cons_append, List.nil_append]; omega) (by omega) ?_
    rw [g5]
    refine d_br (fun h => ?_) (fun h => ?_)
    · simp only [cCmp, cE2, sev, svl, cen, List.cons_append, List.nil_append] at h
      first
      | omega
      | skip
        refine d_cut [(r : Int), 0] (by simp [cE2, sev, svl, cen] <;> omega) ?_
        exact (by omega)
    · simp only [cCmp, cE2, sev, svl, cen, List.cons_append, List.nil_append] at h
      first
      | omega
      | skip
        refine d_rng (by simp only [clo, chi, cE2, sev, svl, cen, List.cons_append, List.nil_append]; omega) ?_
        refine d_rng (by simp only [clo, chi, cE2, sev, svl, cen, List.cons_append, List.nil_append]; omega) ?_
        refine d_rng (by simp only [clo, chi, cE2, sev, svl, cen, List.cons_append, List.nil_append]; omega) ?_
        refine d_row 0 (k + 72) (by simp only [cE2, sev, svl, cen, List.cons_append, List.nil_append]; omega) (by simp only [cE2, sev, svl, cen, List.cons_append, List.nil_append]; omega) (by omega) ?_
        refine d_set 0 (12 * r + k) (MW 38 0 (k + 72)) (by simp only [cE2, sev, svl, cen, List.cons_append, List.nil_append]; omega) (by simp only [cE2, sev, svl, cen, List.cons_append, List.nil_append]; omega) (by omega) (by simp only [cE2, sev, svl, cen, List.cons_append, List.nil_append]; omega) ?_
        refine d_rng (by simp only [clo, chi, cE2, sev, svl, cen, List.cons_append, List.nil_append]; omega) ?_
        refine d_rng (by simp only [clo, chi, cE2, sev, svl, cen, List.cons_append, List.nil_append]; omega) ?_
        refine d_rng (by simp only [clo, chi, cE2, sev, svl, cen, List.cons_append, List.nil_append]; omega) ?_
        refine d_row 0 (k + 72) (by simp only [cE2, sev, svl, cen, List.cons_append, List.nil_append]; omega) (by simp only [cE2, sev, svl, cen, List.cons_append, List.nil_append]; omega) (by omega) ?_
        rw [supd_f (by decide)]
        refine d_set 0 (12 * r + k) (MW 39 0 (k + 72)) (by simp only [cE2, sev, svl, cen, List.cons_append, List.nil_append]; omega) (by simp only [cE2, sev, svl, cen, List.cons_append, List.nil_append]; omega) (by omega) (by simp only [cE2, sev, svl, cen, List.cons_append, List.nil_append]; omega) ?_
        refine d_rng (by simp only [clo, chi, cE2, sev, svl, cen, List.cons_append, List.nil_append]; omega) ?_
        refine d_rng (by simp only [clo, chi, cE2, sev, svl, cen, List.cons_append, List.nil_append]; omega) ?_
        refine d_rng (by simp only [clo, chi, cE2, sev, svl, cen, List.cons_append, List.nil_append]; omega) ?_
        refine d_row 0 (k + 72) (by simp only [cE2, sev, svl, cen, List.cons_append, List.nil_append]; omega) (by simp only [cE2, sev, svl, cen, List.cons_append, List.nil_append]; omega) (by omega) ?_
        rw [supd_f (by decide)]
        rw [supd_f (by decide)]
        refine d_set 0 (12 * r + k) (MW 40 0 (k + 72)) (by simp only [cE2, sev, svl, cen, List.cons_append, List.nil_append]; omega) (by simp only [cE2, sev, svl, cen, List.cons_append, List.nil_append]; omega) (by omega) (by simp only [cE2, sev, svl, cen, List.cons_append, List.nil_append]; omega) ?_
        refine d_rng (by simp only [clo, chi, cE2, sev, svl, cen, List.cons_append, List.nil_append]; omega) ?_
        refine d_cut [(r : Int), ((k + 1 : Nat) : Int)] (by simp [cE2, sev, svl, cen] <;> omega) ?_
        exact ih (k + 1) _ (by omega) (wI (wI (wI g1 (lo := 0) (hi := 3) rfl b38) (lo := 0) (hi := 7) rfl b39) (lo := 0) (hi := 1000) rfl b40) (oFm_p (Or.inl (Or.inr (Or.inr (Or.inr (Or.inr rfl))))) (oFm_p (Or.inl (Or.inr (Or.inr (Or.inr (Or.inl rfl))))) (oFm_p (Or.inl (Or.inr (Or.inr (Or.inl rfl)))) g2))) (by rw [supd_f (by decide), supd_f (by decide), supd_f (by decide)]; exact g3) (by rw [supd_f (by decide), supd_f (by decide), supd_f (by decide)]; exact g4) (by rw [supd_f (by decide), supd_f (by decide), supd_f (by decide)]; exact g5)
theorem m_order (hp : cPl tm tc tf EX) {x : Int} {M : SMem} (hI : sI tg M) (hW : oWd M) (hT : M 12 0 = T) (hL : M 1 0 2 = (L : Int)) (h9 : L ≤ 1000) (hU : M 17 0 = U) : cBG tm tf EX l dC dI cA ad scrS 34 kX10_order [(2, 1, 0), (0, 0, x)] M (fun rr MM => (¬ (0 ≤ x ∧ x ≤ 5) ∧ rr = [-1] ∧ MM = supd (supd M 1 0 0 0) 1 0 2 0) ∨ ((0 ≤ x ∧ x ≤ 5) ∧ sI tg MM ∧ oFm oFo M MM ∧ MM 1 0 2 = 0 ∧ (∃ r : Int, rr = [r] ∧ -2147483648 ≤ r ∧ r ≤ 2147483647) ∧ oOQ T L U rr)) := by
  obtain ⟨R0, hR0⟩ : ∃ R0, R0 = oRd T L U 14 0 (oS T L 0) [] := ⟨_, rfl⟩
  have i0 : sI tg (supd M 1 0 0 0) := wI hI (lo := 0) (hi := 1) rfl ⟨by omega, by omega⟩
  have hT0 : supd M 1 0 0 0 12 0 = T := by
    funext i
    rw [supd_f (by decide)]
    exact congrFun hT i
  have hL0 : supd M 1 0 0 0 1 0 2 = (L : Int) := (supd_i (by decide)).trans hL
  refine cMeth (v := [x]) (Fd := 90) hp (by decide) gX10_order_ok gX10_order_m0 (by simp [cAs, cE2, sev, svl, cen]) ?_
  refine cEnds_at gX10_order_m0 rfl ?_
  by_cases hx : 0 ≤ x ∧ x ≤ 5
  · obtain ⟨r, hr⟩ : ∃ r : Nat, (r : Int) = x := ⟨x.toNat, by omega⟩
    subst hr
    have hTk := oTk_of (T := T) (L := L)
    -- behind a fault
    have bad : ∀ (f : Int) (MW : SMem), 0 < f → MW 1 0 8 = f → sI tg MW → oFm oFo M MW → MW 1 0 2 = 0 → R0 = .error f → cEnds (cBG tm tf EX l dC dI cA ad scrS 33) (fun rr MM => (¬ (0 ≤ (r : Int) ∧ (r : Int) ≤ 5) ∧ rr = [-1] ∧ MM = supd (supd M 1 0 0 0) 1 0 2 0) ∨ ((0 ≤ (r : Int) ∧ (r : Int) ≤ 5) ∧ sI tg MM ∧ oFm oFo M MM ∧ MM 1 0 2 = 0 ∧ (∃ r : Int, rr = [r] ∧ -2147483648 ≤ r ∧ r ≤ 2147483647) ∧ oOQ T L U rr)) 90 gX10_order 38 [(r : Int)] MW := by
      intro f MW f0 f8 g1 g2 g3 gR
      have b8 := wIb (f := 1) (i := 8) (lo := 0) (hi := 16005) g1 0 rfl
      refine cEnds_at gX10_order_m38 rfl ?_
      refine d_fld 0 (by simp only [cE2, sev, svl, cen, List.cons_append, List.nil_append]; omega) ?_
      rw [f8]
      refine d_br (fun h => ?_) (fun h => ?_)
      · simp only [cCmp, cE2, sev, svl, cen, List.cons_append, List.nil_append] at h
        first
        | omega
        | skip
          refine d_fld 0 (by simp only [cE2, sev, svl, cen, List.cons_append, List.nil_append]; omega) ?_
          rw [f8]
          refine d_br (fun h => ?_) (fun h => ?_)
          · simp only [cCmp, cE2, sev, svl, cen, List.cons_append, List.nil_append] at h
            first
            | omega
            | skip
              refine d_row 0 6 (by simp only [cE2, sev, svl, cen, List.cons_append, List.nil_append]; omega) (by simp only [cE2, sev, svl, cen, List.cons_append, List.nil_append]; omega) (by omega) ?_
              refine d_set 0 r (MW 37 0 6) (by simp only [cE2, sev, svl, cen, List.cons_append, List.nil_append]; omega) (by simp only [cE2, sev, svl, cen, List.cons_append, List.nil_append]; omega) (by omega) (by simp only [cE2, sev, svl, cen, List.cons_append, List.nil_append]; omega) ?_
              refine d_cut [(r : Int), 0] (by simp [cE2, sev, svl, cen] <;> omega) ?_
              exact (by omega)
          · simp only [cCmp, cE2, sev, svl, cen, List.cons_append, List.nil_append] at h
            first
            | omega
            | skip
              refine d_fld 0 (by simp only [cE2, sev, svl, cen, List.cons_append, List.nil_append]; omega) ?_
              rw [f8]
              exact wret1 f (by simp only [cE2, sev, svl, cen, List.cons_append, List.nil_append]; omega) (by omega) (Or.inr ⟨hx, g1, g2, g3, ⟨f, rfl, by omega, by omega⟩, Or.inl ⟨f, hR0.symm.trans gR, f0, rfl⟩⟩)
      · simp only [cCmp, cE2, sev, svl, cen, List.cons_append, List.nil_append] at h
        first
        | omega
        | skip
          refine d_fld 0 (by simp only [cE2, sev, svl, cen, List.cons_append, List.nil_append]; omega) ?_
          refine d_row 0 (((MW 1 0 7)).toNat) (by simp only [cE2, sev, svl, cen, List.cons_append, List.nil_append]; omega) (by simp only [cE2, sev, svl, cen, List.cons_append, List.nil_append]; omega) (by omega) ?_
          refine d_br (fun h => ?_) (fun h => ?_)
          · simp only [cCmp, cE2, sev, svl, cen, List.cons_append, List.nil_append] at h
            first
            | omega
            | skip
              refine d_fld 0 (by simp only [cE2, sev, svl, cen, List.cons_append, List.nil_append]; omega) ?_
              rw [f8]
              refine d_br (fun h => ?_) (fun h => ?_)
              · simp only [cCmp, cE2, sev, svl, cen, List.cons_append, List.nil_append] at h
                first
                | omega
                | skip
                  refine d_row 0 6 (by simp only [cE2, sev, svl, cen, List.cons_append, List.nil_append]; omega) (by simp only [cE2, sev, svl, cen, List.cons_append, List.nil_append]; omega) (by omega) ?_
                  refine d_set 0 r (MW 37 0 6) (by simp only [cE2, sev, svl, cen, List.cons_append, List.nil_append]; omega) (by simp only [cE2, sev, svl, cen, List.cons_append, List.nil_append]; omega) (by omega) (by simp only [cE2, sev, svl, cen, List.cons_append, List.nil_append]; omega) ?_
                  refine d_cut [(r : Int), 0] (by simp [cE2, sev, svl, cen] <;> omega) ?_
                  exact (by omega)
              · simp only [cCmp, cE2, sev, svl, cen, List.cons_append, List.nil_append] at h
                first
                | omega
                | skip
                  refine d_fld 0 (by simp only [cE2, sev, svl, cen, List.cons_append, List.nil_append]; omega) ?_
                  rw [f8]
                  exact wret1 f (by simp only [cE2, sev, svl, cen, List.cons_append, List.nil_append]; omega) (by omega) (by omega)
          · simp only [cCmp, cE2, sev, svl, cen, List.cons_append, List.nil_append] at h
            first
            | omega
            | skip
              refine d_call (m_readLine hp) (by simp [cAs, cE2, sev, svl, cen] <;> omega) ?_
              intro rr M' hq
              have hq9 := hq
              refine ⟨rfl, ?_⟩
              refine d_cut [(r : Int)] (by simp [cE2, sev, svl, cen] <;> omega) ?_
              exact (by omega)
    have loop : ∀ (N m lno n e : Nat) (ls : List OLn) (MW : SMem), lno + m = 14 → lno ≤ 12 → ls.length = lno → oRS T L N n e MW → MW 1 0 8 = 0 → MW 37 0 6 = (lno : Int) → MW 17 0 = U → oFm oFo M MW → MW 1 0 2 = 0 → oRd T L U m lno (oIx T L n) ls = R0 → cEnds (cBG tm tf EX l dC dI cA ad scrS 33) (fun rr MM => (¬ (0 ≤ (r : Int) ∧ (r : Int) ≤ 5) ∧ rr = [-1] ∧ MM = supd (supd M 1 0 0 0) 1 0 2 0) ∨ ((0 ≤ (r : Int) ∧ (r : Int) ≤ 5) ∧ sI tg MM ∧ oFm oFo M MM ∧ MM 1 0 2 = 0 ∧ (∃ r : Int, rr = [r] ∧ -2147483648 ≤ r ∧ r ≤ 2147483647) ∧ oOQ T L U rr)) 90 gX10_order 38 [(r : Int)] MW := by
      intro N m
      induction m with
      | zero => intro lno n e ls MW h1 h2; omega
      | succ m ih =>
        intro lno n e ls MW h1 h2 h3 S h8 h37 h17 g2 g3 gR
        have hi := oRS_i S
        have hMt := oMt_k (S.2.1.2.2.2 n hi.2.1)
        have h24 := hMt.1
        have gR : (if oK T L (oIx T L n) = 24 then .ok ls else match oLin T L U lno (oIx T L n) with
          | .error f => .error f
          | .ok q => oRd T L U m (lno + 1) q.1 (ls ++ [q.2])) = R0 := gR
        refine cEnds_at gX10_order_m38 rfl ?_
        refine d_fld 0 (by simp only [cE2, sev, svl, cen, List.cons_append, List.nil_append]; omega) ?_
        rw [h8]
        refine d_br (fun h => ?_) (fun h => ?_)
        · simp only [cCmp, cE2, sev, svl, cen, List.cons_append, List.nil_append] at h
          omega
        · clear h
          refine d_fld 0 (by simp only [cE2, sev, svl, cen, List.cons_append, List.nil_append]; omega) ?_
          rw [S.2.2.2.1]
          refine d_row 0 n (by simp only [cE2, sev, svl, cen, List.cons_append, List.nil_append]; omega) (by simp only [cE2, sev, svl, cen, List.cons_append, List.nil_append]; omega) (by omega) ?_
          refine d_br (fun h => ?_) (fun h => ?_)
          · simp only [cCmp, cE2, sev, svl, cen, List.cons_append, List.nil_append] at h
            first
            | omega
            | skip
              refine d_fld 0 (by simp only [cE2, sev, svl, cen, List.cons_append, List.nil_append]; omega) ?_
              rw [h8]
              refine d_br (fun h => ?_) (fun h => ?_)
              · clear h
                refine d_row 0 6 (by simp only [cE2, sev, svl, cen, List.cons_append, List.nil_append]; omega) (by simp only [cE2, sev, svl, cen, List.cons_append, List.nil_append]; omega) (by omega) ?_
                rw [h37]
                refine d_set 0 r (lno : Int) (by simp only [cE2, sev, svl, cen, List.cons_append, List.nil_append]; omega) (by simp only [cE2, sev, svl, cen, List.cons_append, List.nil_append]; omega) (by omega) (by simp only [cE2, sev, svl, cen, List.cons_append, List.nil_append]; omega) ?_
                rw [if_pos (h24.mp (by omega))] at gR
                refine d_cut [(r : Int), ((0 : Nat) : Int)] (by simp [cE2, sev, svl, cen] <;> omega) ?_
                exact m_order1 (e := e) hp hx (by omega) (by omega) h2 (hR0.symm.trans gR.symm) lno 0 _ (by omega) (wI S.1 (lo := 0) (hi := 12) rfl ⟨by omega, by omega⟩) (oFm_p (Or.inl (Or.inr (Or.inl rfl))) g2) (by rw [supd_f (by decide)]; exact g3) (by rw [supd_f (by decide)]; exact S.2.2.2.2.2.1) (supd_at _ _ _ _ _)
              · simp only [cCmp, cE2, sev, svl, cen, List.cons_append, List.nil_append] at h
                omega
          · simp only [cCmp, cE2, sev, svl, cen, List.cons_append, List.nil_append] at h
            first
            | omega
            | skip
              refine d_call (m_readLine (U := U) (lno := lno) hp S h8 h17 h37 h2 (fun q => by have := h24.mpr q; omega)) (by simp [cAs, cE2, sev, svl, cen] <;> omega) ?_
              intro rr M1 hq
              obtain ⟨rfl, hq9⟩ := hq
              refine ⟨rfl, ?_⟩
              refine d_cut [(r : Int)] (by simp [cE2, sev, svl, cen] <;> omega) ?_
              rw [if_neg (fun q => by have := h24.mpr q; omega)] at gR
              obtain ⟨f1, -, -, -, hQ⟩ := hq9
              have F1 : oFm oFo M M1 := oFm_t g2 (oFm_w (fun _ _ q => Or.inl q) f1)
              have z2 : M1 1 0 2 = 0 := (f1 1 0 2 (by omega)).trans g3
              rcases hQ with ⟨f, n', e', q1, q2, q3, q4⟩ | ⟨n', q, q1, q2, q3, q4, q5, q6, -⟩
              · rw [q1] at gR; exact bad f M1 q2 q3 q4.1 F1 z2 gR.symm
              rw [q1] at gR
              have h12 := oLin_lt q1
              exact ih (lno + 1) n' _ (ls ++ [q.2]) M1 (by omega) (by omega) (by rw [List.length_append, h3]; rfl) q5 q4 (by rw [q6]; rfl) ((oFm_row f1 (fun i q => by omega)).trans h17) F1 z2 (by rw [← q2]; exact gR)
    refine d_put 0 0 (by simp only [cE2, sev, svl, cen, List.cons_append, List.nil_append]; omega) (by simp only [cE2, sev, svl, cen, List.cons_append, List.nil_append]; omega) ?_
    refine d_call (cBG_mono (show 1 ≤ 33 by omega) (m_within (d := 0) hp (x := (r : Int)) (y := 0) (z := 5))) (by simp [cAs, cE2, sev, svl, cen] <;> omega) ?_
    rintro rr M' ⟨hM', hq⟩
    rw [hM']
    rcases hq with ⟨rfl, q1⟩ | ⟨rfl, q1⟩
    · refine ⟨rfl, ?_⟩
      refine d_br (fun h => ?_) (fun h => ?_)
      · clear h
        refine d_call (cBG_mono (show 4 ≤ 33 by omega) (m_cutAll (d := 0) hp i0 hT0 hL0 h9)) (by simp [cAs, cE2, sev, svl, cen] <;> omega) ?_
        rintro rr M1 ⟨rfl, i1, f1, e2, e7, e8, N, hMT⟩
        refine ⟨rfl, ?_⟩
        refine d_set 0 6 0 (by simp only [cE2, sev, svl, cen, List.cons_append, List.nil_append]; omega) (by simp only [cE2, sev, svl, cen, List.cons_append, List.nil_append]; omega) (by decide) (by simp only [cE2, sev, svl, cen, List.cons_append, List.nil_append]; omega) ?_
        refine d_put 0 0 (by simp only [cE2, sev, svl, cen, List.cons_append, List.nil_append]; omega) (by simp only [cE2, sev, svl, cen, List.cons_append, List.nil_append]; omega) ?_
        refine d_cut [(r : Int)] (by simp [cE2, sev, svl, cen] <;> omega) ?_
        have F1 : oFm oFo M M1 := oFm_t (oFm_p (Or.inr (Or.inr ⟨rfl, rfl⟩)) oFm_r) (oFm_w (fun _ _ q => Or.inr (Or.inl q)) f1)
        refine loop N 14 0 0 0 [] _ (by omega) (by omega) rfl ⟨wI (wI i1 (lo := 0) (hi := 12) rfl ⟨by omega, by omega⟩) (lo := 0) (hi := 1001) rfl ⟨by omega, by omega⟩, oMT_m (fun f i hf => by rw [supd_f (by omega), supd_f (by omega)]) hMT, oWd_m (fun i => by rw [supd_f (by decide), supd_f (by decide), f1 16 0 i (by omega), supd_f (by decide)]) hW, ?_, Nat.zero_le _, supd_at _ _ _ _ _, Nat.le_refl _⟩ ?_ ?_ ?_ (oFm_p (Or.inl (Or.inl (Or.inr (Or.inr ⟨rfl, by omega⟩)))) (oFm_p (Or.inl (Or.inr (Or.inl rfl))) F1)) ?_ hR0.symm
        · rw [supd_i (by decide), supd_f (by decide)]; exact e7
        · rw [supd_i (by decide), supd_f (by decide)]; exact e8
        · rw [supd_f (by decide), supd_at]; rfl
        · funext i
          rw [supd_f (by decide), supd_f (by decide), f1 17 0 i (by omega), supd_f (by decide)]
          exact congrFun hU i
        · rw [supd_i (by decide), supd_f (by decide)]; exact e2
      · simp only [cCmp, cE2, sev, svl, cen, List.cons_append, List.nil_append] at h
        omega
    · exact absurd hx (by omega)
  · refine d_put 0 0 (by simp only [cE2, sev, svl, cen, List.cons_append, List.nil_append]; omega) (by simp only [cE2, sev, svl, cen, List.cons_append, List.nil_append]; omega) ?_
    refine d_call (cBG_mono (show 1 ≤ 33 by omega) (m_within (d := 0) hp (x := x) (y := 0) (z := 5))) (by simp [cAs, cE2, sev, svl, cen] <;> omega) ?_
    intro rr M' hq
    obtain ⟨hM', hq⟩ := hq
    rw [hM']
    rcases hq with ⟨rfl, q1⟩ | ⟨rfl, q1⟩
    · refine ⟨rfl, ?_⟩
      refine d_br (fun h => ?_) (fun h => ?_)
      · clear h
        exact absurd q1 hx
      · simp only [cCmp, cE2, sev, svl, cen, List.cons_append, List.nil_append] at h
        omega
    · refine ⟨rfl, ?_⟩
      refine d_br (fun h => ?_) (fun h => ?_)
      · simp only [cCmp, cE2, sev, svl, cen, List.cons_append, List.nil_append] at h
        omega
      · clear h
        refine d_put 0 0 (by simp only [cE2, sev, svl, cen, List.cons_append, List.nil_append]; omega) (by simp only [cE2, sev, svl, cen, List.cons_append, List.nil_append]; omega) ?_
        exact d_ret [(-1)] rfl (by decide) (Or.inl ⟨hx, rfl, rfl⟩)
end CO15
