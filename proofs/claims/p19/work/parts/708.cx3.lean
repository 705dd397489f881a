/-! what the methods do: a name told, the class's side -/
theorem wSt_wSt {D : Nat → Int} {nm : Nat} {a b : Int} : wSt (wSt D nm a) nm b = wSt D nm b := by
  funext i
  unfold wSt
  by_cases h : i = nm
  · rw [if_pos h, if_pos h]
  · rw [if_neg h, if_neg h, if_neg h]
theorem wSt_at {D : Nat → Int} {nm : Nat} {a : Int} : wSt D nm a nm = a := if_pos rfl
theorem wSt_ne {D : Nat → Int} {nm i : Nat} {a : Int} (h : i ≠ nm) : wSt D nm a i = D i := if_neg h
theorem wPt_0 {L T : Nat → Int} {fr nm : Nat} : wPt L T fr nm 0 = L := by
  funext i
  unfold wPt
  rw [if_neg (by omega)]
theorem wPt_s {L T : Nat → Int} {fr nm k : Nat} : wSt (wPt L T fr nm k) (8 * nm + k) (T (fr + k)) = wPt L T fr nm (k + 1) := by
  funext i
  unfold wSt wPt
  by_cases h : i = 8 * nm + k
  · rw [if_pos h, if_pos (by omega), show fr + (i - 8 * nm) = fr + k by omega]
  · rw [if_neg h]
    by_cases h2 : 8 * nm ≤ i ∧ i < 8 * nm + k
    · rw [if_pos h2, if_pos (by omega)]
    · rw [if_neg h2, if_neg (by omega)]
def wf (T : Nat → Int) (n : Nat) : Nat := wF T n 0
def wu (T : Nat → Int) (n : Nat) : Nat := wU T (n - wF T n 0) n
theorem wfu (T : Nat → Int) (n : Nat) : wf T n ≤ wu T n ∧ wu T n ≤ n := by
  have h1 := wF_le T n 0
  have h2 := wU_le T (n - wF T n 0) n (by omega)
  unfold wf wu
  omega
def wR (T D S L : Nat → Int) (n : Nat) (a g r : Int) : Prop := (r = -1 ∧ ¬ (0 ≤ a ∧ a < 8 ∧ 0 ≤ g ∧ g < 6)) ∨ ((0 ≤ a ∧ a < 8 ∧ 0 ≤ g ∧ g < 6) ∧ ((r = 1 ∧ ¬ wTx 0 T (wf T n) (wu T n)) ∨ (wTx 0 T (wf T n) (wu T n) ∧ ((r = 2 ∧ wOt D S L T (wf T n) (wu T n) a.toNat) ∨ (r = 0 ∧ ¬ wOt D S L T (wf T n) (wu T n) a.toNat)))))
theorem wR_eq {T D S L : Nat → Int} {n : Nat} {a g r r' : Int} (h : wR T D S L n a g r) (h' : wR T D S L n a g r') : r = r' := by
  rcases h with ⟨h1, h2⟩ | ⟨h1, h2⟩
  · rcases h' with ⟨k1, k2⟩ | ⟨k1, k2⟩
    · rw [h1, k1]
    · exact absurd k1 h2
  · rcases h' with ⟨k1, k2⟩ | ⟨k1, k2⟩
    · exact absurd h1 k2
    · rcases h2 with ⟨h2, h3⟩ | ⟨h3, h2⟩
      · rcases k2 with ⟨k2, k3⟩ | ⟨k3, k2⟩
        · rw [h2, k2]
        · exact absurd k3 h3
      · rcases k2 with ⟨k2, k4⟩ | ⟨k4, k2⟩
        · exact absurd h3 k4
        · rcases h2 with ⟨h2, h4⟩ | ⟨h2, h4⟩
          · rcases k2 with ⟨k2, k5⟩ | ⟨k2, k5⟩
            · rw [h2, k2]
            · exact absurd h4 k5
          · rcases k2 with ⟨k2, k5⟩ | ⟨k2, k5⟩
            · exact absurd k5 h4
            · rw [h2, k2]
/-- the rows behind it -/
def wUp (T D H G S L : Nat → Int) (n : Nat) (a g s r : Int) (D' H' G' S' L' : Nat → Int) : Prop := (r = 0 → D' = wSt D a.toNat 1 ∧ H' = wSt H a.toNat s ∧ G' = wSt G a.toNat g ∧ S' = wSt S a.toNat ((wu T n : Int) - (wf T n : Int)) ∧ L' = wPt L T (wf T n) a.toNat (wu T n - wf T n)) ∧ (r ≠ 0 → D' = D ∧ H' = H ∧ G' = G ∧ S' = S ∧ L' = L)
section CX3
variable {EX : SEx} {l : Launch} {dC : Nat → ClassId} {dI : Nat → Nat → Nat} {cA : Nat → ClassId} {ad : SAd} {scrS d : Nat}
def wTe (M : SMem) (fr len nm : Nat) (MM : SMem) : Prop := sI tg MM ∧ (∀ f j i, f ≠ 58 → f ≠ 61 → f ≠ 62 → f ≠ 63 → MM f j i = M f j i) ∧ MM 58 0 = wSt (M 58 0) nm 1 ∧ MM 61 0 = wSt (M 61 0) nm (len : Int) ∧ MM 62 0 = wSt (M 62 0) nm (wSm (M 57 0) fr len) ∧ MM 63 0 = wPt (M 63 0) (M 57 0) fr nm len
theorem b_tell (hp : cPl tm tc tf EX) {M : SMem} {fr up nm : Nat} (hI : sI tg M) (hnm : nm < 8) (e2 : M 3 0 2 = (fr : Int)) (e3 : M 3 0 3 = (up : Int)) (h9 : fr + 1 ≤ up ∧ up ≤ fr + 8 ∧ up ≤ 1000) : cBG tm tf EX l dC dI cA ad scrS (d + 2) kX2_tell [(2, 4, 0), (0, 0, (nm : Int)), (2, 3, 0)] M (fun rr MM => rr = [] ∧ wTe M fr (up - fr) nm MM) := by
  refine cMeth (v := [(nm : Int)]) (Fd := 60) hp (by decide) gX2_tell_ok gX2_tell_m0 (by simp [cAs, cE2, sev, svl, cen]) ?_
  have loop : ∀ (m k : Nat) (M1 : SMem), k + m = up - fr → sI tg M1 → (∀ f j i, f ≠ 58 → f ≠ 61 → f ≠ 62 → f ≠ 63 → M1 f j i = M f j i) → M1 58 0 = wSt (M 58 0) nm 1 → M1 61 0 = wSt (M 61 0) nm ((up - fr : Nat) : Int) → M1 62 0 = wSt (M 62 0) nm (wSm (M 57 0) fr k) → M1 63 0 = wPt (M 63 0) (M 57 0) fr nm k → cEnds (cBG tm tf EX l dC dI cA ad scrS (d + 1)) (fun rr MM => rr = [] ∧ wTe M fr (up - fr) nm MM) 60 gX2_tell 31 [(nm : Int), (k : Int)] M1 := by
    intro m
    induction m with
    | zero =>
      intro k M1 hk i1 f1 r58 r61 r62 r63
      refine cEnds_at gX2_tell_m31 rfl ?_
      refine d_row 0 nm (by simp only [cE2, sev, svl, cen, List.cons_append, List.nil_append]; omega) (by simp only [cE2, sev, svl, cen, List.cons_append, List.nil_append]; omega) hnm ?_
      rw [show M1 61 0 nm = ((up - fr : Nat) : Int) by rw [r61, wSt_at]]
      refine d_br (fun h => ?_) (fun h => ?_)
      · have ek : k = up - fr := by omega
        subst ek
        exact d_ret [] rfl (by decide) ⟨rfl, i1, f1, r58, r61, r62, r63⟩
      · simp only [cCmp, cE2, sev, svl, cen, List.cons_append, List.nil_append] at h
        omega
    | succ m ih =>
      intro k M1 hk i1 f1 r58 r61 r62 r63
      refine cEnds_at gX2_tell_m31 rfl ?_
      refine d_row 0 nm (by simp only [cE2, sev, svl, cen, List.cons_append, List.nil_append]; omega) (by simp only [cE2, sev, svl, cen, List.cons_append, List.nil_append]; omega) hnm ?_
      rw [show M1 61 0 nm = ((up - fr : Nat) : Int) by rw [r61, wSt_at]]
      refine d_br (fun h => ?_) (fun h => ?_)
      · simp only [cCmp, cE2, sev, svl, cen, List.cons_append, List.nil_append] at h
        omega
      · refine d_fld 0 rfl ?_
        rw [show M1 3 0 2 = (fr : Int) by rw [f1 3 0 2 (by decide) (by decide) (by decide) (by decide), e2]]
        refine d_rng (by simp only [clo, chi, cE2, sev, svl, cen, List.cons_append, List.nil_append]; omega) ?_
        refine d_row 0 (fr + k) (by simp only [cE2, sev, svl, cen, List.cons_append, List.nil_append]; omega) (by simp only [cE2, sev, svl, cen, List.cons_append, List.nil_append]; omega) (by omega) ?_
        rw [f1 57 0 (fr + k) (by decide) (by decide) (by decide) (by decide)]
        have hT := wIb (f := 57) (i := fr + k) (lo := 0) (hi := 126) hI 0 rfl
        refine d_rng (by simp only [clo, chi, cE2, sev, svl, cen, List.cons_append, List.nil_append]; omega) ?_
        refine d_rng (by simp only [clo, chi, cE2, sev, svl, cen, List.cons_append, List.nil_append]; omega) ?_
        refine d_rng (by simp only [clo, chi, cE2, sev, svl, cen, List.cons_append, List.nil_append]; omega) ?_
        refine d_set 0 (8 * nm + k) (M 57 0 (fr + k)) (by simp only [cE2, sev, svl, cen, List.cons_append, List.nil_append]; omega) (by simp only [cE2, sev, svl, cen, List.cons_append, List.nil_append]; omega) (by omega) (by simp only [cE2, sev, svl, cen, List.cons_append, List.nil_append]; omega) ?_
        have i2 : sI tg (supd M1 63 0 (8 * nm + k) (M 57 0 (fr + k))) := wI (lo := 0) (hi := 126) i1 rfl ⟨by omega, by omega⟩
        have f2 : ∀ f j i, f ≠ 58 → f ≠ 61 → f ≠ 62 → f ≠ 63 → supd M1 63 0 (8 * nm + k) (M 57 0 (fr + k)) f j i = M f j i := fun f j i q1 q2 q3 q4 => by rw [supd_f q4, f1 f j i q1 q2 q3 q4]
        have s58 : supd M1 63 0 (8 * nm + k) (M 57 0 (fr + k)) 58 0 = wSt (M 58 0) nm 1 := by rw [supd_ff (by decide), r58]
        have s61 : supd M1 63 0 (8 * nm + k) (M 57 0 (fr + k)) 61 0 = wSt (M 61 0) nm ((up - fr : Nat) : Int) := by rw [supd_ff (by decide), r61]
        have s62 : supd M1 63 0 (8 * nm + k) (M 57 0 (fr + k)) 62 0 = wSt (M 62 0) nm (wSm (M 57 0) fr k) := by rw [supd_ff (by decide), r62]
        have s63 : supd M1 63 0 (8 * nm + k) (M 57 0 (fr + k)) 63 0 = wPt (M 63 0) (M 57 0) fr nm (k + 1) := by rw [supd_row, r63, wPt_s]
        generalize supd M1 63 0 (8 * nm + k) (M 57 0 (fr + k)) = M2 at i2 f2 s58 s61 s62 s63 ⊢
        refine d_row 0 nm (by simp only [cE2, sev, svl, cen, List.cons_append, List.nil_append]; omega) (by simp only [cE2, sev, svl, cen, List.cons_append, List.nil_append]; omega) hnm ?_
        rw [show M2 62 0 nm = wSm (M 57 0) fr k by rw [s62, wSt_at]]
        refine d_call (b_widthOf hp (x := M 57 0 (fr + k))) (by simp [cAs, cE2, sev, svl, cen]) ?_
        rintro rr M' ⟨rfl, rfl⟩
        refine ⟨rfl, ?_⟩
        have b1 := wSm_le (M 57 0) fr k
        have b2 := wW_le (M 57 0 (fr + k))
        refine d_rng (by simp only [clo, chi, cE2, sev, svl, cen, List.cons_append, List.nil_append]; omega) ?_
        refine d_set 0 nm (wSm (M 57 0) fr (k + 1)) (by simp only [cE2, sev, svl, cen, List.cons_append, List.nil_append]; omega) (by simp only [cE2, sev, svl, cen, List.cons_append, List.nil_append]; omega) hnm (by simp only [cE2, sev, svl, cen, List.cons_append, List.nil_append, wSm]; omega) ?_
        refine d_rng (by simp only [clo, chi, cE2, sev, svl, cen, List.cons_append, List.nil_append]; omega) ?_
        refine d_cut [(nm : Int), ((k + 1 : Nat) : Int)] (by simp [cE2, sev, svl, cen] <;> omega) ?_
        have b3 := wSm_le (M 57 0) fr (k + 1)
        refine ih (k + 1) _ (by omega) (wI (lo := -2147483648) (hi := 2147483647) i2 rfl ⟨by omega, by omega⟩) (fun f j i q1 q2 q3 q4 => by rw [supd_f q3, f2 f j i q1 q2 q3 q4]) (by rw [supd_ff (by decide), s58]) (by rw [supd_ff (by decide), s61]) (by rw [supd_row, s62, wSt_wSt]) (by rw [supd_ff (by decide), s63])
  refine cEnds_at gX2_tell_m0 rfl ?_
  refine d_rng (by simp only [clo, chi, cE2, sev, svl, cen, List.cons_append, List.nil_append]; omega) ?_
  refine d_set 0 nm 1 (by simp only [cE2, sev, svl, cen, List.cons_append, List.nil_append]; omega) (by simp only [cE2, sev, svl, cen, List.cons_append, List.nil_append]; omega) hnm (by simp only [cE2, sev, svl, cen, List.cons_append, List.nil_append]; omega) ?_
  refine d_fld 0 rfl ?_
  refine d_fld 0 rfl ?_
  rw [supd_f (by decide), supd_f (by decide), e2, e3]
  refine d_rng (by simp only [clo, chi, cE2, sev, svl, cen, List.cons_append, List.nil_append]; omega) ?_
  refine d_set 0 nm ((up - fr : Nat) : Int) (by simp only [cE2, sev, svl, cen, List.cons_append, List.nil_append]; omega) (by simp only [cE2, sev, svl, cen, List.cons_append, List.nil_append]; omega) hnm (by simp only [cE2, sev, svl, cen, List.cons_append, List.nil_append]; omega) ?_
  refine d_set 0 nm 0 (by simp only [cE2, sev, svl, cen, List.cons_append, List.nil_append]; omega) (by simp only [cE2, sev, svl, cen, List.cons_append, List.nil_append]; omega) hnm (by simp only [cE2, sev, svl, cen, List.cons_append, List.nil_append]; omega) ?_
  refine d_cut [(nm : Int), ((0 : Nat) : Int)] (by simp [cE2, sev, svl, cen] <;> omega) ?_
  refine loop (up - fr) 0 _ (by omega) (wI (lo := -2147483648) (hi := 2147483647) (wI (lo := 0) (hi := 8) (wI (lo := 0) (hi := 1) hI rfl ⟨by omega, by omega⟩) rfl ⟨by omega, by omega⟩) rfl ⟨by omega, by omega⟩) (fun f j i q1 q2 q3 q4 => by rw [supd_f q3, supd_f q2, supd_f q1]) ?_ ?_ ?_ ?_
  · rw [supd_ff (by decide), supd_ff (by decide), supd_row]
  · rw [supd_ff (by decide), supd_row, supd_ff (by decide)]
  · rw [supd_row, supd_ff (by decide), supd_ff (by decide)]
    rfl
  · rw [supd_ff (by decide), supd_ff (by decide), supd_ff (by decide), wPt_0]
theorem b_forget6 (hp : cPl tm tc tf EX) {M : SMem} (hI : sI tg M) : cBG tm tf EX l dC dI cA ad scrS (d + 1) kX6_forget [(2, 7, 0)] M (fun rr MM => rr = [] ∧ sI tg MM ∧ ∀ f j i, f ≠ 7 → MM f j i = M f j i) := by
  refine cMeth (v := []) (Fd := 40) hp (by decide) gX6_forget_ok gX6_forget_m0 (by simp [cAs, cE2, sev, svl, cen]) ?_
  refine cEnds_at gX6_forget_m0 rfl ?_
  refine d_rng (by simp only [clo, chi, cE2, sev, svl, cen, List.cons_append, List.nil_append]; omega) ?_
  refine d_put 0 0 rfl rfl ?_
  refine d_rng (by simp only [clo, chi, cE2, sev, svl, cen, List.cons_append, List.nil_append]; omega) ?_
  refine d_put 0 0 rfl rfl ?_
  refine d_put 0 (-1) rfl rfl ?_
  refine d_ret [] rfl (by decide) ⟨rfl, wI (lo := -1) (hi := 2147483646) (wI (lo := 0) (hi := 1) (wI (lo := 0) (hi := 1) hI rfl ⟨by omega, by omega⟩) rfl ⟨by omega, by omega⟩) rfl ⟨by omega, by omega⟩, fun f j i q => ?_⟩
  rw [supd_f q, supd_f q, supd_f q]
theorem b_forget5 (hp : cPl tm tc tf EX) {M : SMem} (hI : sI tg M) : cBG tm tf EX l dC dI cA ad scrS (d + 1) kX5_forget [(2, 10, 0)] M (fun rr MM => rr = [] ∧ sI tg MM ∧ ∀ f j i, f ≠ 10 → MM f j i = M f j i) := by
  refine cMeth (v := []) (Fd := 40) hp (by decide) gX5_forget_ok gX5_forget_m0 (by simp [cAs, cE2, sev, svl, cen]) ?_
  refine cEnds_at gX5_forget_m0 rfl ?_
  refine d_rng (by simp only [clo, chi, cE2, sev, svl, cen, List.cons_append, List.nil_append]; omega) ?_
  refine d_put 0 0 rfl rfl ?_
  refine d_ret [] rfl (by decide) ⟨rfl, wI (lo := 0) (hi := 1) hI rfl ⟨by omega, by omega⟩, fun f j i q => ?_⟩
  rw [supd_f q]
theorem b_forgetF (hp : cPl tm tc tf EX) {M : SMem} (hI : sI tg M) : cBG tm tf EX l dC dI cA ad scrS (d + 2) kX9_forgetFindings [(2, 0, 0)] M (fun rr MM => rr = [] ∧ sI tg MM ∧ ∀ f j i, f ≠ 7 → f ≠ 10 → MM f j i = M f j i) := by
  refine cMeth (v := []) (Fd := 40) hp (by decide) gX9_forgetFindings_ok gX9_forgetFindings_m0 (by simp [cAs, cE2, sev, svl, cen]) ?_
  refine cEnds_at gX9_forgetFindings_m0 rfl ?_
  refine d_call (b_forget6 hp hI) (by simp [cAs, cE2, sev, svl, cen]) ?_
  rintro rr M1 ⟨rfl, i1, f1⟩
  refine ⟨rfl, ?_⟩
  refine d_call (b_forget5 hp i1) (by simp [cAs, cE2, sev, svl, cen]) ?_
  rintro rr M2 ⟨rfl, i2, f2⟩
  refine ⟨rfl, ?_⟩
  exact d_ret [] rfl (by decide) ⟨rfl, i2, fun f j i q1 q2 => by rw [f2 f j i q2, f1 f j i q1]⟩
/-- what the class's name comes to -/
def wNx (M : SMem) (n : Nat) (a g s r : Int) (MM : SMem) : Prop := sI tg MM ∧ (∀ f j i, f ≠ 3 → f ≠ 7 → f ≠ 10 → ¬ (58 ≤ f ∧ f ≤ 63) → MM f j i = M f j i) ∧ wR (M 57 0) (M 58 0) (M 61 0) (M 63 0) n a g r ∧ wUp (M 57 0) (M 58 0) (M 59 0) (M 60 0) (M 61 0) (M 63 0) n a g s r (MM 58 0) (MM 59 0) (MM 60 0) (MM 61 0) (MM 63 0) ∧ (r = 0 → MM 62 0 = wSt (M 62 0) a.toNat (wSm (M 57 0) (wf (M 57 0) n) (wu (M 57 0) n - wf (M 57 0) n))) ∧ (r ≠ 0 → MM 62 0 = M 62 0)
theorem b_tellName (hp : cPl tm tc tf EX) {M : SMem} {n : Nat} {a g s : Int} (hI : sI tg M) (hn : M 3 0 1 = (n : Int)) (h9 : n ≤ 1000) (hs : 0 ≤ s ∧ s ≤ 1) : cBG tm tf EX l dC dI cA ad scrS (d + 3) kX9_tellName [(2, 0, 0), (0, 0, a), (0, 0, g), (0, 0, s)] M (fun rr MM => ∃ r : Int, rr = [r] ∧ wNx M n a g s r MM) := by
  refine cMeth (v := [a, g, s]) (Fd := 60) hp (by decide) gX9_tellName_ok gX9_tellName_m0 (by simp [cAs, cE2, sev, svl, cen]) ?_
  refine cEnds_at gX9_tellName_m0 rfl ?_
  have hno : ¬ (0 ≤ a ∧ a < 8 ∧ 0 ≤ g ∧ g < 6) → wNx M n a g s (-1) M := fun q => ⟨hI, fun _ _ _ _ _ _ _ => rfl, Or.inl ⟨rfl, q⟩, ⟨fun z => by omega, fun _ => ⟨rfl, rfl, rfl, rfl, rfl⟩⟩, fun z => by omega, fun _ => rfl⟩
  refine d_call (b_isBelow hp (x := a) (y := 8)) (by simp [cAs, cE2, sev, svl, cen]) ?_
  rintro rr M' ⟨rfl, hb⟩
  rcases hb with ⟨rfl, ha⟩ | ⟨rfl, ha⟩
  · refine ⟨rfl, ?_⟩
    refine d_br (fun h => ?_) (fun h => ?_)
    · simp only [cCmp, cE2, sev, svl, cen, List.cons_append, List.nil_append] at h
      omega
    · refine d_call (b_isBelow hp (x := g) (y := 6)) (by simp [cAs, cE2, sev, svl, cen]) ?_
      rintro rr M' ⟨rfl, hb⟩
      rcases hb with ⟨rfl, hg⟩ | ⟨rfl, hg⟩
      · refine ⟨rfl, ?_⟩
        refine d_br (fun h => ?_) (fun h => ?_)
        · refine d_call (b_trim hp hn h9 hI) (by simp [cAs, cE2, sev, svl, cen]) ?_
          rintro rr M1 ⟨rfl, i1, f1, e2, e3⟩
          refine ⟨rfl, ?_⟩
          have e2 : M1 3 0 2 = (wf (M' 57 0) n : Int) := e2
          have e3 : M1 3 0 3 = (wu (M' 57 0) n : Int) := e3
          have hfu := wfu (M' 57 0) n
          have r1 : ∀ f, f ≠ 3 → M1 f = M' f := fun f q => by
            funext j i
            exact f1 f j i (fun z => q z.1)
          refine d_call (b_isText hp (s := 0) e2 e3 (by omega)) (by simp [cAs, cE2, sev, svl, cen]) ?_
          rintro rr M2 ⟨rfl, hb⟩
          rw [r1 57 (by decide)] at hb
          rcases hb with ⟨rfl, ht⟩ | ⟨rfl, ht⟩
          · refine ⟨rfl, ?_⟩
            refine d_br (fun h => ?_) (fun h => ?_)
            · obtain ⟨nm, rfl⟩ : ∃ nm : Nat, a = (nm : Int) := ⟨a.toNat, by omega⟩
              refine d_call (b_isOthers hp (nm := nm) i1 (by omega) e2 e3 (by omega)) (by simp [cAs, cE2, sev, svl, cen]) ?_
              rintro rr M3 ⟨rfl, hb⟩
              rw [r1 57 (by decide), r1 58 (by decide), r1 61 (by decide), r1 63 (by decide)] at hb
              rcases hb with ⟨rfl, ho⟩ | ⟨rfl, ho⟩
              · refine ⟨rfl, ?_⟩
                refine d_br (fun h => ?_) (fun h => ?_)
                · simp only [cCmp, cE2, sev, svl, cen, List.cons_append, List.nil_append] at h
                  omega
                · refine d_ret [2] rfl (by decide) ⟨2, rfl, i1, fun f j i q _ _ _ => f1 f j i (fun z => q z.1), Or.inr ⟨by omega, Or.inr ⟨ht, Or.inl ⟨rfl, ho⟩⟩⟩, ⟨fun z => by omega, fun _ => ⟨?_, ?_, ?_, ?_, ?_⟩⟩, fun z => by omega, fun _ => ?_⟩ <;> rw [r1 _ (by decide)]
              · refine ⟨rfl, ?_⟩
                refine d_br (fun h => ?_) (fun h => ?_)
                · refine d_call (b_tell hp (nm := nm) i1 (by omega) e2 e3 ⟨ht.1, ht.2.1, by omega⟩) (by simp [cAs, cE2, sev, svl, cen]) ?_
                  rintro rr M4 ⟨rfl, i4, f4, q58, q61, q62, q63⟩
                  refine ⟨rfl, ?_⟩
                  rw [r1 57 (by decide)] at q62 q63
                  rw [r1 58 (by decide)] at q58
                  rw [r1 61 (by decide)] at q61
                  rw [r1 62 (by decide)] at q62
                  rw [r1 63 (by decide)] at q63
                  have q59 : M4 59 0 = M' 59 0 := by
                    funext i
                    rw [f4 59 0 i (by decide) (by decide) (by decide) (by decide), r1 59 (by decide)]
                  have q60 : M4 60 0 = M' 60 0 := by
                    funext i
                    rw [f4 60 0 i (by decide) (by decide) (by decide) (by decide), r1 60 (by decide)]
                  refine d_set 0 nm g (by simp only [cE2, sev, svl, cen, List.cons_append, List.nil_append]; omega) (by simp only [cE2, sev, svl, cen, List.cons_append, List.nil_append]; omega) (by omega) (by simp only [cE2, sev, svl, cen, List.cons_append, List.nil_append]; omega) ?_
                  refine d_rng (by simp only [clo, chi, cE2, sev, svl, cen, List.cons_append, List.nil_append]; omega) ?_
                  refine d_set 0 nm s (by simp only [cE2, sev, svl, cen, List.cons_append, List.nil_append]; omega) (by simp only [cE2, sev, svl, cen, List.cons_append, List.nil_append]; omega) (by omega) (by simp only [cE2, sev, svl, cen, List.cons_append, List.nil_append]; omega) ?_
                  have i5 : sI tg (supd (supd M4 60 0 nm g) 59 0 nm s) := wI (lo := 0) (hi := 1) (wI (lo := 0) (hi := 5) i4 rfl ⟨by omega, by omega⟩) rfl hs
                  refine d_call (b_forgetF hp i5) (by simp [cAs, cE2, sev, svl, cen]) ?_
                  rintro rr M6 ⟨rfl, i6, f6⟩
                  refine ⟨rfl, ?_⟩
                  have r6 : ∀ f, f ≠ 7 → f ≠ 10 → M6 f 0 = supd (supd M4 60 0 nm g) 59 0 nm s f 0 := fun f z1 z2 => by
                    funext i
                    exact f6 f 0 i z1 z2
                  refine d_ret [0] rfl (by decide) ⟨0, rfl, i6, fun f j i z1 z2 z3 z4 => ?_, Or.inr ⟨by omega, Or.inr ⟨ht, Or.inr ⟨rfl, ho⟩⟩⟩, ⟨fun _ => ⟨?_, ?_, ?_, ?_, ?_⟩, fun z => absurd rfl z⟩, fun _ => ?_, fun z => absurd rfl z⟩
                  · rw [f6 f j i z2 z3, supd_f (by omega), supd_f (by omega), f4 f j i (by omega) (by omega) (by omega) (by omega), f1 f j i (fun z => z1 z.1)]
                  · rw [r6 58 (by decide) (by decide), supd_ff (by decide), supd_ff (by decide), q58]; rfl
                  · rw [r6 59 (by decide) (by decide), supd_row, supd_ff (by decide), q59]; rfl
                  · rw [r6 60 (by decide) (by decide), supd_ff (by decide), supd_row, q60]; rfl
                  · rw [r6 61 (by decide) (by decide), supd_ff (by decide), supd_ff (by decide), q61]
                    show wSt _ nm _ = wSt _ nm _
                    congr 1
                    omega
                  · rw [r6 63 (by decide) (by decide), supd_ff (by decide), supd_ff (by decide), q63]; rfl
                  · rw [r6 62 (by decide) (by decide), supd_ff (by decide), supd_ff (by decide), q62]; rfl
                · simp only [cCmp, cE2, sev, svl, cen, List.cons_append, List.nil_append] at h
                  omega
            · simp only [cCmp, cE2, sev, svl, cen, List.cons_append, List.nil_append] at h
              omega
          · refine ⟨rfl, ?_⟩
            refine d_br (fun h => ?_) (fun h => ?_)
            · simp only [cCmp, cE2, sev, svl, cen, List.cons_append, List.nil_append] at h
              omega
            · refine d_ret [1] rfl (by decide) ⟨1, rfl, i1, fun f j i q _ _ _ => f1 f j i (fun z => q z.1), Or.inr ⟨by omega, Or.inl ⟨rfl, ht⟩⟩, ⟨fun z => by omega, fun _ => ⟨?_, ?_, ?_, ?_, ?_⟩⟩, fun z => by omega, fun _ => ?_⟩ <;> rw [r1 _ (by decide)]
        · simp only [cCmp, cE2, sev, svl, cen, List.cons_append, List.nil_append] at h
          omega
      · refine ⟨rfl, ?_⟩
        refine d_br (fun h => ?_) (fun h => ?_)
        · simp only [cCmp, cE2, sev, svl, cen, List.cons_append, List.nil_append] at h
          omega
        · exact d_ret [-1] rfl (by decide) ⟨-1, rfl, hno (by omega)⟩
  · refine ⟨rfl, ?_⟩
    refine d_br (fun h => ?_) (fun h => ?_)
    · exact d_ret [-1] rfl (by decide) ⟨-1, rfl, hno (by omega)⟩
    · simp only [cCmp, cE2, sev, svl, cen, List.cons_append, List.nil_append] at h
      omega
theorem b_name (hp : cPl tm tc tf EX) {M : SMem} {n : Nat} {a g s : Int} (hI : sI tg M) (hn : M 3 0 1 = (n : Int)) (h9 : n ≤ 1000) (hs : 0 ≤ s ∧ s ≤ 1) : cBG tm tf EX l dC dI cA ad scrS (d + 4) kX9_name [(2, 0, 0), (0, 0, a), (0, 0, g), (0, 0, s)] M (fun rr MM => ∃ r : Int, rr = [r] ∧ wNx M n a g s r MM ∧ MM 3 0 1 = 0 ∧ -1 ≤ r ∧ r ≤ 2) := by
  refine cMeth (v := [a, g, s]) (Fd := 60) hp (by decide) gX9_name_ok gX9_name_m0 (by simp [cAs, cE2, sev, svl, cen]) ?_
  refine cEnds_at gX9_name_m0 rfl ?_
  refine d_call (b_tellName hp (a := a) (g := g) (s := s) hI hn h9 hs) (by simp [cAs, cE2, sev, svl, cen]) ?_
  rintro rr M1 ⟨r, rfl, i1, f1, h3, h4, h5, h6⟩
  refine ⟨rfl, ?_⟩
  have hb : -1 ≤ r ∧ r ≤ 2 := by
    rcases h3 with ⟨q, -⟩ | ⟨-, ⟨q, -⟩ | ⟨-, ⟨q, -⟩ | ⟨q, -⟩⟩⟩ <;> omega
  refine d_put 0 0 rfl rfl ?_
  refine d_ret [r] (by simp [cE2, sev, svl, cen]) (fun x hx => by rw [List.mem_singleton.mp hx]; simp only [clo, chi]; omega) ⟨r, rfl, ⟨wI (lo := 0) (hi := 1000) i1 rfl ⟨by omega, by omega⟩, fun f j i q1 q2 q3 q4 => by rw [supd_f q1, f1 f j i q1 q2 q3 q4], h3, ?_, ?_, ?_⟩, supd_at _ _ _ _ _, hb⟩
  · rw [supd_ff (by decide), supd_ff (by decide), supd_ff (by decide), supd_ff (by decide), supd_ff (by decide)]
    exact h4
  · rw [supd_ff (by decide)]
    exact h5
  · rw [supd_ff (by decide)]
    exact h6
end CX3
