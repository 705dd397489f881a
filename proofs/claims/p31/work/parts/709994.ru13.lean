/-! how many of each is told -/
theorem oOQ_u {T : Nat → Int} {L : Nat} {U : Nat → Int} {r r' : Int} (h : oOQ T L U [r]) (h' : oOQ T L U [r']) : r = r' := by
  rcases h with ⟨f, h1, h2, h3⟩ | ⟨a, h1, h2⟩ <;> rcases h' with ⟨f', h1', h2', h3'⟩ | ⟨a', h1', h2'⟩
  · have e := h1.symm.trans h1'
    cases e
    rw [List.cons.inj h3 |>.1, List.cons.inj h3' |>.1]
  · cases h1.symm.trans h1'
  · cases h1.symm.trans h1'
  · rw [List.cons.inj h2 |>.1, List.cons.inj h2' |>.1]
theorem sGa_m {M M' : SMem} (h : ∀ f i, 37 ≤ f → f ≤ 42 → M' f 0 i = M f 0 i) (hG : sGa M (-1)) : sGa M' (-1) := fun r h6 hn => oUn_sG (r := 6) h6 (by omega) (oUn_f (fun f i h1 h2 _ => h f i h1 h2)) (hG r h6 hn)
def oPoM (T : Nat → Int) (L : Nat) (U : Nat → Int) (x : Int) (M : SMem) (rr : List Int) (MM : SMem) : Prop := (¬ (0 ≤ x ∧ x ≤ 5) ∧ rr = [-1] ∧ MM = supd (supd M 1 0 0 0) 1 0 2 0) ∨ ((0 ≤ x ∧ x ≤ 5) ∧ sI tg MM ∧ oFm oFo M MM ∧ MM 1 0 2 = 0 ∧ (∃ r : Int, rr = [r] ∧ -2147483648 ≤ r ∧ r ≤ 2147483647) ∧ oQQ T L U x M MM rr)
theorem oPoM_fr {T : Nat → Int} {L : Nat} {U : Nat → Int} {x : Int} {M : SMem} {rr : List Int} {MM : SMem} (h : oPoM T L U x M rr MM) : ∀ f j i, (f = 3 ∨ f = 10 ∨ f = 12 ∨ f = 17 ∨ (18 ≤ f ∧ f ≤ 36) ∨ (43 ≤ f ∧ f ≤ 108) ∨ f = 16) → MM f j i = M f j i := by
  intro f j i hf
  rcases h with ⟨-, -, e⟩ | ⟨-, -, e, -⟩
  · rw [e, supd_f (by omega), supd_f (by omega)]
  · exact e f j i (by omega)
/-- the names, walls, orders' lines and blocks of both are alike, as far as they are counted -/
def Rc (M : SMem) : Prop := Rr M ∧ oWd M ∧ (∀ r, r < 6 → M 74 r 0 = M 37 0 r) ∧ M 86 0 = M 51 0
def lRc : List Nat := [12, 17, 18, 19, 20, 21, 57, 58, 59, 60, 61, 62, 63, 22, 23, 24, 25, 26, 27, 28, 29, 30, 31, 32, 64, 91, 92, 93, 94, 95, 16, 37, 74, 86, 51]
def lDC : List Nat := [1, 3, 7, 10, 12, 17, 18, 19, 20, 21, 57, 58, 59, 60, 61, 62, 63, 22, 23, 24, 25, 26, 27, 28, 29, 30, 31, 32, 64, 91, 92, 93, 94, 95, 11, 51, 52, 53, 54, 86, 87, 88, 89]
def Rqc (M M2 : SMem) : Prop := sI tg M2 ∧ Rc M2 ∧ sX M2 ∧ M2 3 0 1 = M2 1 0 2 ∧ ∀ f j i, f ∉ lDC → M2 f j i = M f j i
theorem Rc_congr {M M' : SMem} (h : ∀ f, f ∈ lRc → M' f = M f) (hr : Rc M) : Rc M' := by
  obtain ⟨r1, r2, r3, r4⟩ := hr
  refine ⟨Rr_congr (fun f hf => h f ?_) r1, oWd_m (fun i => by rw [h 16 (by decide)]) r2, fun r hr => by rw [h 74 (by decide), h 37 (by decide)]; exact r3 r hr, by rw [h 86 (by decide), h 51 (by decide)]; exact r4⟩
  simp only [lRow, lRc, List.mem_cons, List.not_mem_nil, or_false] at hf ⊢
  omega
theorem Rqc_of {M M2 : SMem} (hR : Rc M) (hq : Rq M M2) : Rqc M M2 := by
  obtain ⟨i2, q2, x2, l2, fr⟩ := hq
  obtain ⟨r1, r2, r3, r4⟩ := hR
  have row : ∀ f, f ∉ lDW → M2 f = M f := fun f hf => by
    funext j i
    exact fr f j i hf
  refine ⟨i2, ⟨q2, oWd_m (fun i => fr 16 0 i (by decide)) r2, fun r hr => by rw [row 74 (by decide), row 37 (by decide)]; exact r3 r hr, by rw [row 86 (by decide), row 51 (by decide)]; exact r4⟩, x2, l2, fun f j i hf => fr f j i ?_⟩
  simp only [lDW, lDC, List.mem_cons, List.not_mem_nil, or_false, not_or] at hf ⊢
  omega
/-- behind an order -/
def Rqo (M M2 : SMem) : Prop := sI tg M2 ∧ Rc M2 ∧ sX M2 ∧ M2 3 0 1 = M2 1 0 2 ∧ (∀ i, M2 107 0 i = M 107 0 i) ∧ M2 108 0 0 = M 108 0 0 ∧ sGa M2 (-1) ∧ sEa M2
theorem Rc_ord {x r : Int} {n : Nat} {M M1 M2 : SMem} {ad ad1 : SAd} {rr : List Int} (hR : Rc M) (hG : sGa M (-1)) (hO : oOV (M 57 0) n (M 58 0) x M ad r M1 ad1) (hm : oPoM (M 57 0) n (M 58 0) x M1 rr M2) : rr = [r] ∧ Rqo M M2 := by
  obtain ⟨⟨i1, x1, e1, f1, -, z1, hA⟩, hV⟩ := hO
  obtain ⟨g1, g2, g3, g4⟩ := hR
  have fr := oPoM_fr hm
  have row1 : ∀ f, f ∉ [75, 101, 102, 103, 104, 105, 9, 76, 10, 3, 74, 96, 97, 98, 99, 100, 106] → M1 f = M f := fun f y => by
    funext j i
    simp only [List.mem_cons, List.not_mem_nil, or_false, not_or] at y
    exact f1 f j i (by omega)
  have row : ∀ f, f ∉ [1, 75, 101, 102, 103, 104, 105, 9, 76, 10, 3, 74, 96, 97, 98, 99, 100, 106] → (f = 12 ∨ f = 17 ∨ (18 ≤ f ∧ f ≤ 36) ∨ (43 ≤ f ∧ f ≤ 108) ∨ f = 16) → M2 f = M f := fun f y hf => by
    simp only [List.mem_cons, List.not_mem_nil, or_false, not_or] at y
    rw [← row1 f (by simp only [List.mem_cons, List.not_mem_nil, or_false, not_or]; omega)]
    funext j i
    exact fr f j i (by omega)
  have hW : oWd M2 := oWd_m (fun k => by rw [row 16 (by decide) (by omega)]) g2
  have hRr : Rr M2 := Rr_congr (fun f hf => row f (fun y => by
    simp only [lRow, List.mem_cons, List.not_mem_nil, or_false] at hf y
    omega) (by
    simp only [lRow, List.mem_cons, List.not_mem_nil, or_false] at hf
    omega)) g1
  have hX2 : sX M2 := sX_m (fun f j k hf => fr f j k (by omega)) x1
  have hE2 : sEa M2 := sEa_m (fun f j k hf => fr f j k (by omega)) e1
  have hG1 : sGa M1 (-1) := sGa_m (fun f k q1 q2 => f1 f 0 k (by omega)) hG
  have e107 : ∀ i, M2 107 0 i = M 107 0 i := fun i => (fr 107 0 i (by omega)).trans (f1 107 0 i (by omega))
  have e108 : M2 108 0 0 = M 108 0 0 := (fr 108 0 0 (by omega)).trans (f1 108 0 0 (by omega))
  have e86 : M2 86 0 = M2 51 0 := by rw [row 86 (by decide) (by omega), row 51 (by decide) (by omega)]; exact g4
  have hb2 : M2 3 0 1 = 0 := (fr 3 0 1 (by omega)).trans z1
  have keep : r ≠ 0 → oUn 6 M1 M2 → Rc M2 := fun hr hu => by
    refine ⟨hRr, hW, fun r' h => ?_, e86⟩
    rcases hV with ⟨-, hV⟩ | ⟨z, -⟩
    · rw [fr 74 r' 0 (by omega), hV 74 r' 0 (by omega), g3 r' h, (hu r' h (by omega)).1]
      exact (f1 37 0 r' (by omega)).symm
    · exact absurd z hr
  rcases hm with ⟨q1, rfl, e2⟩ | ⟨q1, i2, f2, z2, ⟨r', rfl, -, -⟩, hQ⟩
  · have er : r = -1 := by
      rcases hA with ⟨-, z⟩ | ⟨z, -⟩
      · exact z
      · omega
    refine ⟨by rw [er], by rw [e2]; exact wI (wI i1 (lo := 0) (hi := 1) rfl ⟨by omega, by omega⟩) (lo := 0) (hi := 1000) rfl ⟨by omega, by omega⟩, keep (by omega) (oUn_f (fun f i h1 h2 _ => by rw [e2, supd_f (by omega), supd_f (by omega)])), hX2, ?_, e107, e108, sGa_m (fun f k h1 h2 => by rw [e2, supd_f (by omega), supd_f (by omega)]) hG1, hE2⟩
    rw [hb2, e2]
    exact (supd_at _ _ _ _ _).symm
  · have er : r = r' := by
      rcases hA with ⟨z, -⟩ | ⟨-, z⟩
      · omega
      · exact oOQ_u z (oQQ_O hQ)
    subst er
    refine ⟨rfl, i2, ?_, hX2, by rw [hb2, z2], e107, e108, oQQ_G hG1 hQ, hE2⟩
    rcases hQ with ⟨f, h1, h2, h3, h4⟩ | ⟨k, e, ls, h0, h1, h2, h3, h4, h5, h7, h8⟩
    · refine keep ?_ h4
      have := List.cons.inj h3
      omega
    · have hr0 : r = 0 := (List.cons.inj h2).1
      rcases hV with ⟨z, -⟩ | ⟨-, v1, k', ls', v2, v3, v4, v5, v6⟩
      · exact absurd hr0 z
      · have ek : k' = k := by omega
        subst ek
        cases h1.symm.trans v4
        refine ⟨hRr, hW, fun r' h => ?_, e86⟩
        by_cases z : r' = k'
        · subst z
          rw [fr 74 r' 0 (by omega), v5.1, h5]
        · rw [fr 74 r' 0 (by omega), v6 74 r' 0 z (by omega), g3 r' h, (h8 r' h z).1]
          exact (f1 37 0 r' (by omega)).symm
def bTell (M : SMem) (a : Nat) (x y z : Int) : SMem := supd (supd (supd (supd (supd M 86 0 a 1) 87 0 a x) 88 0 a y) 89 0 a z) 11 0 6 0
def bTellM (M : SMem) (a : Nat) (x y z : Int) : SMem := supd (supd (supd (supd M 51 0 a 1) 52 0 a x) 53 0 a y) 54 0 a z
section CR13
variable {EX : SEx} {l : Launch} {dC : Nat → ClassId} {dI : Nat → Nat → Nat} {cA : Nat → ClassId} {ad : SAd} {scrS d : Nat}
theorem b_btell (hp : cPl tm tc tf EX) {a : Nat} {x y z : Int} {M : SMem} (ha : a < 12) : cBG tm tf EX l dC dI cA ad scrS (d + 1) kX1_tell [(2, 11, 0), (0, 0, (a : Int)), (0, 0, x), (0, 0, y), (0, 0, z)] M (fun rr MM => rr = [] ∧ MM = supd (supd (supd (supd (supd M 86 0 a 1) 87 0 a x) 88 0 a y) 89 0 a z) 11 0 6 0) := by
  refine cMeth (v := [(a : Int), x, y, z]) (Fd := 90) hp (by decide) gX1_tell_ok gX1_tell_m0 (by simp [cAs, cE2, sev, svl, cen]) ?_
  refine cEnds_at gX1_tell_m0 rfl ?_
  refine d_rng (by simp only [clo, chi, cE2, sev, svl, cen, List.cons_append, List.nil_append]; omega) ?_
  refine d_set 0 a 1 (by simp only [cE2, sev, svl, cen, List.cons_append, List.nil_append]; omega) (by simp only [cE2, sev, svl, cen, List.cons_append, List.nil_append]; omega) (by omega) (by simp only [cE2, sev, svl, cen, List.cons_append, List.nil_append]; omega) ?_
  refine d_set 0 a x (by simp only [cE2, sev, svl, cen, List.cons_append, List.nil_append]; omega) (by simp only [cE2, sev, svl, cen, List.cons_append, List.nil_append]; omega) (by omega) (by simp only [cE2, sev, svl, cen, List.cons_append, List.nil_append]; omega) ?_
  refine d_set 0 a y (by simp only [cE2, sev, svl, cen, List.cons_append, List.nil_append]; omega) (by simp only [cE2, sev, svl, cen, List.cons_append, List.nil_append]; omega) (by omega) (by simp only [cE2, sev, svl, cen, List.cons_append, List.nil_append]; omega) ?_
  refine d_set 0 a z (by simp only [cE2, sev, svl, cen, List.cons_append, List.nil_append]; omega) (by simp only [cE2, sev, svl, cen, List.cons_append, List.nil_append]; omega) (by omega) (by simp only [cE2, sev, svl, cen, List.cons_append, List.nil_append]; omega) ?_
  refine d_rng (by simp only [clo, chi, cE2, sev, svl, cen, List.cons_append, List.nil_append]; omega) ?_
  refine d_put 0 0 (by simp only [cE2, sev, svl, cen, List.cons_append, List.nil_append]; omega) (by simp only [cE2, sev, svl, cen, List.cons_append, List.nil_append]; omega) ?_
  exact d_ret [] rfl (by decide) ⟨rfl, rfl⟩
theorem b_block (hp : cPl tm tc tf EX) {gp n x y z : Int} {M : SMem} : cBG tm tf EX l dC dI cA ad scrS (d + 2) kX9_block [(2, 0, 0), (0, 0, gp), (0, 0, n), (0, 0, x), (0, 0, y), (0, 0, z)] M (fun rr MM => (((0 ≤ n ∧ n < 6) ∧ (0 ≤ x ∧ x < 1000) ∧ (0 ≤ y ∧ y < 1000) ∧ (0 ≤ z ∧ z < 10) ∧ (gp = 0 ∨ (x ≠ 0 ∧ y ≠ 0))) ∧ rr = [1] ∧ MM = bTell M (if gp = 0 then n.toNat else n.toNat + 6) x y z) ∨ (¬ ((0 ≤ n ∧ n < 6) ∧ (0 ≤ x ∧ x < 1000) ∧ (0 ≤ y ∧ y < 1000) ∧ (0 ≤ z ∧ z < 10) ∧ (gp = 0 ∨ (x ≠ 0 ∧ y ≠ 0))) ∧ rr = [0] ∧ MM = M)) := by
  refine cMeth (v := [gp, n, x, y, z]) (Fd := 90) hp (by decide) gX9_block_ok gX9_block_m0 (by simp [cAs, cE2, sev, svl, cen]) ?_
  have s76 : ((0 ≤ n ∧ n < 6) ∧ (0 ≤ x ∧ x < 1000) ∧ (0 ≤ y ∧ y < 1000) ∧ (0 ≤ z ∧ z < 10) ∧ (gp = 0 ∨ (x ≠ 0 ∧ y ≠ 0))) → cEnds (cBG tm tf EX l dC dI cA ad scrS (d + 1)) (fun rr MM => (((0 ≤ n ∧ n < 6) ∧ (0 ≤ x ∧ x < 1000) ∧ (0 ≤ y ∧ y < 1000) ∧ (0 ≤ z ∧ z < 10) ∧ (gp = 0 ∨ (x ≠ 0 ∧ y ≠ 0))) ∧ rr = [1] ∧ MM = bTell M (if gp = 0 then n.toNat else n.toNat + 6) x y z) ∨ (¬ ((0 ≤ n ∧ n < 6) ∧ (0 ≤ x ∧ x < 1000) ∧ (0 ≤ y ∧ y < 1000) ∧ (0 ≤ z ∧ z < 10) ∧ (gp = 0 ∨ (x ≠ 0 ∧ y ≠ 0))) ∧ rr = [0] ∧ MM = M)) 90 gX9_block 76 [gp, n, x, y, z] M := by
    intro hB
    refine cEnds_at gX9_block_m76 rfl ?_
    refine d_br (fun h => ?_) (fun h => ?_)
    · simp only [cCmp, cE2, sev, svl, cen, List.cons_append, List.nil_append] at h
      refine d_call (b_btell hp (a := n.toNat) (x := x) (y := y) (z := z) (by omega)) (by simp [cAs, cE2, sev, svl, cen] <;> omega) ?_
      rintro rr M' ⟨rfl, hM'⟩
      rw [hM']
      refine ⟨rfl, ?_⟩
      exact d_ret [1] rfl (by decide) (Or.inl ⟨hB, rfl, by rw [if_pos (by omega)]; rfl⟩)
    · simp only [cCmp, cE2, sev, svl, cen, List.cons_append, List.nil_append] at h
      refine d_rng (by simp only [clo, chi, cE2, sev, svl, cen, List.cons_append, List.nil_append]; omega) ?_
      refine d_call (b_btell hp (a := n.toNat + 6) (x := x) (y := y) (z := z) (by omega)) (by simp [cAs, cE2, sev, svl, cen] <;> omega) ?_
      rintro rr M' ⟨rfl, hM'⟩
      rw [hM']
      refine ⟨rfl, ?_⟩
      exact d_ret [1] rfl (by decide) (Or.inl ⟨hB, rfl, by rw [if_neg (by omega)]; rfl⟩)
  refine cEnds_at gX9_block_m0 rfl ?_
  refine d_br (fun h => ?_) (fun h => ?_)
  · simp only [cCmp, cE2, sev, svl, cen, List.cons_append, List.nil_append] at h
    first
    | omega
    | skip
      refine d_call (b_isBelow hp (x := n) (y := 6)) (by simp [cAs, cE2, sev, svl, cen] <;> omega) ?_
      intro rr M' hq
      obtain ⟨hM', hq⟩ := hq
      rw [hM']
      rcases hq with ⟨rfl, q5⟩ | ⟨rfl, q5⟩
      · refine ⟨rfl, ?_⟩
        refine d_br (fun h => ?_) (fun h => ?_)
        · simp only [cCmp, cE2, sev, svl, cen, List.cons_append, List.nil_append] at h
          omega
        · clear h
          refine d_call (b_isBelow hp (x := x) (y := 1000)) (by simp [cAs, cE2, sev, svl, cen] <;> omega) ?_
          intro rr M' hq
          obtain ⟨hM', hq⟩ := hq
          rw [hM']
          rcases hq with ⟨rfl, q6⟩ | ⟨rfl, q6⟩
          · refine ⟨rfl, ?_⟩
            refine d_br (fun h => ?_) (fun h => ?_)
            · simp only [cCmp, cE2, sev, svl, cen, List.cons_append, List.nil_append] at h
              omega
            · clear h
              refine d_call (b_isBelow hp (x := y) (y := 1000)) (by simp [cAs, cE2, sev, svl, cen] <;> omega) ?_
              intro rr M' hq
              obtain ⟨hM', hq⟩ := hq
              rw [hM']
              rcases hq with ⟨rfl, q7⟩ | ⟨rfl, q7⟩
              · refine ⟨rfl, ?_⟩
                refine d_br (fun h => ?_) (fun h => ?_)
                · simp only [cCmp, cE2, sev, svl, cen, List.cons_append, List.nil_append] at h
                  omega
                · clear h
                  refine d_call (b_isBelow hp (x := z) (y := 10)) (by simp [cAs, cE2, sev, svl, cen] <;> omega) ?_
                  intro rr M' hq
                  obtain ⟨hM', hq⟩ := hq
                  rw [hM']
                  rcases hq with ⟨rfl, q8⟩ | ⟨rfl, q8⟩
                  · refine ⟨rfl, ?_⟩
                    refine d_br (fun h => ?_) (fun h => ?_)
                    · simp only [cCmp, cE2, sev, svl, cen, List.cons_append, List.nil_append] at h
                      omega
                    · clear h
                      refine d_br (fun h => ?_) (fun h => ?_)
                      · simp only [cCmp, cE2, sev, svl, cen, List.cons_append, List.nil_append] at h
                        first
                        | omega
                        | skip
                          exact d_cut [gp, n, x, y, z] (by simp [cE2, sev, svl, cen] <;> omega) (s76 (by omega))
                      · simp only [cCmp, cE2, sev, svl, cen, List.cons_append, List.nil_append] at h
                        first
                        | omega
                        | skip
                          refine d_br (fun h => ?_) (fun h => ?_)
                          · simp only [cCmp, cE2, sev, svl, cen, List.cons_append, List.nil_append] at h
                            first
                            | omega
                            | skip
                              exact d_ret [0] rfl (by decide) (Or.inr ⟨by omega, rfl, rfl⟩)
                          · simp only [cCmp, cE2, sev, svl, cen, List.cons_append, List.nil_append] at h
                            first
                            | omega
                            | skip
                              refine d_br (fun h => ?_) (fun h => ?_)
                              · simp only [cCmp, cE2, sev, svl, cen, List.cons_append, List.nil_append] at h
                                first
                                | omega
                                | skip
                                  exact d_cut [gp, n, x, y, z] (by simp [cE2, sev, svl, cen] <;> omega) (s76 (by omega))
                              · simp only [cCmp, cE2, sev, svl, cen, List.cons_append, List.nil_append] at h
                                first
                                | omega
                                | skip
                                  exact d_ret [0] rfl (by decide) (Or.inr ⟨by omega, rfl, rfl⟩)
                  · refine ⟨rfl, ?_⟩
                    refine d_br (fun h => ?_) (fun h => ?_)
                    · clear h
                      exact d_ret [0] rfl (by decide) (Or.inr ⟨by omega, rfl, rfl⟩)
                    · simp only [cCmp, cE2, sev, svl, cen, List.cons_append, List.nil_append] at h
                      omega
              · refine ⟨rfl, ?_⟩
                refine d_br (fun h => ?_) (fun h => ?_)
                · clear h
                  exact d_ret [0] rfl (by decide) (Or.inr ⟨by omega, rfl, rfl⟩)
                · simp only [cCmp, cE2, sev, svl, cen, List.cons_append, List.nil_append] at h
                  omega
          · refine ⟨rfl, ?_⟩
            refine d_br (fun h => ?_) (fun h => ?_)
            · clear h
              exact d_ret [0] rfl (by decide) (Or.inr ⟨by omega, rfl, rfl⟩)
            · simp only [cCmp, cE2, sev, svl, cen, List.cons_append, List.nil_append] at h
              omega
      · refine ⟨rfl, ?_⟩
        refine d_br (fun h => ?_) (fun h => ?_)
        · clear h
          exact d_ret [0] rfl (by decide) (Or.inr ⟨by omega, rfl, rfl⟩)
        · simp only [cCmp, cE2, sev, svl, cen, List.cons_append, List.nil_append] at h
          omega
  · simp only [cCmp, cE2, sev, svl, cen, List.cons_append, List.nil_append] at h
    first
    | omega
    | skip
      refine d_call (b_isBelow hp (x := n) (y := 6)) (by simp [cAs, cE2, sev, svl, cen] <;> omega) ?_
      intro rr M' hq
      obtain ⟨hM', hq⟩ := hq
      rw [hM']
      rcases hq with ⟨rfl, q5⟩ | ⟨rfl, q5⟩
      · refine ⟨rfl, ?_⟩
        refine d_br (fun h => ?_) (fun h => ?_)
        · simp only [cCmp, cE2, sev, svl, cen, List.cons_append, List.nil_append] at h
          omega
        · clear h
          refine d_call (b_isBelow hp (x := x) (y := 1000)) (by simp [cAs, cE2, sev, svl, cen] <;> omega) ?_
          intro rr M' hq
          obtain ⟨hM', hq⟩ := hq
          rw [hM']
          rcases hq with ⟨rfl, q6⟩ | ⟨rfl, q6⟩
          · refine ⟨rfl, ?_⟩
            refine d_br (fun h => ?_) (fun h => ?_)
            · simp only [cCmp, cE2, sev, svl, cen, List.cons_append, List.nil_append] at h
              omega
            · clear h
              refine d_call (b_isBelow hp (x := y) (y := 1000)) (by simp [cAs, cE2, sev, svl, cen] <;> omega) ?_
              intro rr M' hq
              obtain ⟨hM', hq⟩ := hq
              rw [hM']
              rcases hq with ⟨rfl, q7⟩ | ⟨rfl, q7⟩
              · refine ⟨rfl, ?_⟩
                refine d_br (fun h => ?_) (fun h => ?_)
                · simp only [cCmp, cE2, sev, svl, cen, List.cons_append, List.nil_append] at h
                  omega
                · clear h
                  refine d_call (b_isBelow hp (x := z) (y := 10)) (by simp [cAs, cE2, sev, svl, cen] <;> omega) ?_
                  intro rr M' hq
                  obtain ⟨hM', hq⟩ := hq
                  rw [hM']
                  rcases hq with ⟨rfl, q8⟩ | ⟨rfl, q8⟩
                  · refine ⟨rfl, ?_⟩
                    refine d_br (fun h => ?_) (fun h => ?_)
                    · simp only [cCmp, cE2, sev, svl, cen, List.cons_append, List.nil_append] at h
                      omega
                    · clear h
                      refine d_br (fun h => ?_) (fun h => ?_)
                      · simp only [cCmp, cE2, sev, svl, cen, List.cons_append, List.nil_append] at h
                        first
                        | omega
                        | skip
                          exact d_cut [gp, n, x, y, z] (by simp [cE2, sev, svl, cen] <;> omega) (s76 (by omega))
                      · simp only [cCmp, cE2, sev, svl, cen, List.cons_append, List.nil_append] at h
                        first
                        | omega
                        | skip
                          refine d_br (fun h => ?_) (fun h => ?_)
                          · simp only [cCmp, cE2, sev, svl, cen, List.cons_append, List.nil_append] at h
                            first
                            | omega
                            | skip
                              exact d_ret [0] rfl (by decide) (Or.inr ⟨by omega, rfl, rfl⟩)
                          · simp only [cCmp, cE2, sev, svl, cen, List.cons_append, List.nil_append] at h
                            first
                            | omega
                            | skip
                              refine d_br (fun h => ?_) (fun h => ?_)
                              · simp only [cCmp, cE2, sev, svl, cen, List.cons_append, List.nil_append] at h
                                first
                                | omega
                                | skip
                                  exact d_cut [gp, n, x, y, z] (by simp [cE2, sev, svl, cen] <;> omega) (s76 (by omega))
                              · simp only [cCmp, cE2, sev, svl, cen, List.cons_append, List.nil_append] at h
                                first
                                | omega
                                | skip
                                  exact d_ret [0] rfl (by decide) (Or.inr ⟨by omega, rfl, rfl⟩)
                  · refine ⟨rfl, ?_⟩
                    refine d_br (fun h => ?_) (fun h => ?_)
                    · clear h
                      exact d_ret [0] rfl (by decide) (Or.inr ⟨by omega, rfl, rfl⟩)
                    · simp only [cCmp, cE2, sev, svl, cen, List.cons_append, List.nil_append] at h
                      omega
              · refine ⟨rfl, ?_⟩
                refine d_br (fun h => ?_) (fun h => ?_)
                · clear h
                  exact d_ret [0] rfl (by decide) (Or.inr ⟨by omega, rfl, rfl⟩)
                · simp only [cCmp, cE2, sev, svl, cen, List.cons_append, List.nil_append] at h
                  omega
          · refine ⟨rfl, ?_⟩
            refine d_br (fun h => ?_) (fun h => ?_)
            · clear h
              exact d_ret [0] rfl (by decide) (Or.inr ⟨by omega, rfl, rfl⟩)
            · simp only [cCmp, cE2, sev, svl, cen, List.cons_append, List.nil_append] at h
              omega
      · refine ⟨rfl, ?_⟩
        refine d_br (fun h => ?_) (fun h => ?_)
        · clear h
          exact d_ret [0] rfl (by decide) (Or.inr ⟨by omega, rfl, rfl⟩)
        · simp only [cCmp, cE2, sev, svl, cen, List.cons_append, List.nil_append] at h
          omega
theorem m_block (hp : cPl tm tc tf EX) {gp n x y z : Int} {M : SMem} : cBG tm tf EX l dC dI cA ad scrS (d + 2) kX10_block [(2, 1, 0), (0, 0, gp), (0, 0, n), (0, 0, x), (0, 0, y), (0, 0, z)] M (fun rr MM => (((0 ≤ n ∧ n < 6) ∧ (0 ≤ x ∧ x < 1000) ∧ (0 ≤ y ∧ y < 1000) ∧ (0 ≤ z ∧ z < 10) ∧ (gp = 0 ∨ (x ≠ 0 ∧ y ≠ 0))) ∧ rr = [1] ∧ MM = bTellM (supd M 1 0 0 0) (if gp = 0 then n.toNat else n.toNat + 6) x y z) ∨ (¬ ((0 ≤ n ∧ n < 6) ∧ (0 ≤ x ∧ x < 1000) ∧ (0 ≤ y ∧ y < 1000) ∧ (0 ≤ z ∧ z < 10) ∧ (gp = 0 ∨ (x ≠ 0 ∧ y ≠ 0))) ∧ rr = [0] ∧ MM = supd M 1 0 0 0)) := by
  refine cMeth (v := [gp, n, x, y, z]) (Fd := 90) hp (by decide) gX10_block_ok gX10_block_m0 (by simp [cAs, cE2, sev, svl, cen]) ?_
  refine cEnds_at gX10_block_m0 rfl ?_
  refine d_put 0 0 (by simp only [cE2, sev, svl, cen, List.cons_append, List.nil_append]; omega) (by simp only [cE2, sev, svl, cen, List.cons_append, List.nil_append]; omega) ?_
  generalize supd M 1 0 0 0 = M0
  refine d_br (fun h => ?_) (fun h => ?_)
  · simp only [cCmp, cE2, sev, svl, cen, List.cons_append, List.nil_append] at h
    first
    | omega
    | skip
      refine d_call (m_within hp (x := n) (y := 0) (z := 5)) (by simp [cAs, cE2, sev, svl, cen] <;> omega) ?_
      intro rr M' hq
      obtain ⟨hM', hq⟩ := hq
      rw [hM']
      rcases hq with ⟨rfl, q5⟩ | ⟨rfl, q5⟩
      · refine ⟨rfl, ?_⟩
        refine d_br (fun h => ?_) (fun h => ?_)
        · simp only [cCmp, cE2, sev, svl, cen, List.cons_append, List.nil_append] at h
          omega
        · clear h
          refine d_call (m_within hp (x := x) (y := 0) (z := 999)) (by simp [cAs, cE2, sev, svl, cen] <;> omega) ?_
          intro rr M' hq
          obtain ⟨hM', hq⟩ := hq
          rw [hM']
          rcases hq with ⟨rfl, q6⟩ | ⟨rfl, q6⟩
          · refine ⟨rfl, ?_⟩
            refine d_br (fun h => ?_) (fun h => ?_)
            · simp only [cCmp, cE2, sev, svl, cen, List.cons_append, List.nil_append] at h
              omega
            · clear h
              refine d_call (m_within hp (x := y) (y := 0) (z := 999)) (by simp [cAs, cE2, sev, svl, cen] <;> omega) ?_
              intro rr M' hq
              obtain ⟨hM', hq⟩ := hq
              rw [hM']
              rcases hq with ⟨rfl, q7⟩ | ⟨rfl, q7⟩
              · refine ⟨rfl, ?_⟩
                refine d_br (fun h => ?_) (fun h => ?_)
                · simp only [cCmp, cE2, sev, svl, cen, List.cons_append, List.nil_append] at h
                  omega
                · clear h
                  refine d_call (m_within hp (x := z) (y := 0) (z := 9)) (by simp [cAs, cE2, sev, svl, cen] <;> omega) ?_
                  intro rr M' hq
                  obtain ⟨hM', hq⟩ := hq
                  rw [hM']
                  rcases hq with ⟨rfl, q8⟩ | ⟨rfl, q8⟩
                  · refine ⟨rfl, ?_⟩
                    refine d_br (fun h => ?_) (fun h => ?_)
                    · clear h
                      refine d_br (fun h => ?_) (fun h => ?_)
                      · simp only [cCmp, cE2, sev, svl, cen, List.cons_append, List.nil_append] at h
                        first
                        | omega
                        | skip
                          refine d_rng (by simp only [clo, chi, cE2, sev, svl, cen, List.cons_append, List.nil_append]; omega) ?_
                          refine d_set 0 n.toNat 1 (by simp only [cE2, sev, svl, cen, List.cons_append, List.nil_append]; omega) (by simp only [cE2, sev, svl, cen, List.cons_append, List.nil_append]; omega) (by omega) (by simp only [cE2, sev, svl, cen, List.cons_append, List.nil_append]; omega) ?_
                          refine d_set 0 n.toNat x (by simp only [cE2, sev, svl, cen, List.cons_append, List.nil_append]; omega) (by simp only [cE2, sev, svl, cen, List.cons_append, List.nil_append]; omega) (by omega) (by simp only [cE2, sev, svl, cen, List.cons_append, List.nil_append]; omega) ?_
                          refine d_set 0 n.toNat y (by simp only [cE2, sev, svl, cen, List.cons_append, List.nil_append]; omega) (by simp only [cE2, sev, svl, cen, List.cons_append, List.nil_append]; omega) (by omega) (by simp only [cE2, sev, svl, cen, List.cons_append, List.nil_append]; omega) ?_
                          refine d_set 0 n.toNat z (by simp only [cE2, sev, svl, cen, List.cons_append, List.nil_append]; omega) (by simp only [cE2, sev, svl, cen, List.cons_append, List.nil_append]; omega) (by omega) (by simp only [cE2, sev, svl, cen, List.cons_append, List.nil_append]; omega) ?_
                          exact d_ret [1] rfl (by decide) (Or.inl ⟨by omega, rfl, by first | (rw [if_pos (by omega)]; rfl) | (rw [if_neg (by omega)]; rfl)⟩)
                      · simp only [cCmp, cE2, sev, svl, cen, List.cons_append, List.nil_append] at h
                        first
                        | omega
                        | skip
                          refine d_rng (by simp only [clo, chi, cE2, sev, svl, cen, List.cons_append, List.nil_append]; omega) ?_
                          refine d_rng (by simp only [clo, chi, cE2, sev, svl, cen, List.cons_append, List.nil_append]; omega) ?_
                          refine d_set 0 (n.toNat + 6) 1 (by simp only [cE2, sev, svl, cen, List.cons_append, List.nil_append]; omega) (by simp only [cE2, sev, svl, cen, List.cons_append, List.nil_append]; omega) (by omega) (by simp only [cE2, sev, svl, cen, List.cons_append, List.nil_append]; omega) ?_
                          refine d_set 0 (n.toNat + 6) x (by simp only [cE2, sev, svl, cen, List.cons_append, List.nil_append]; omega) (by simp only [cE2, sev, svl, cen, List.cons_append, List.nil_append]; omega) (by omega) (by simp only [cE2, sev, svl, cen, List.cons_append, List.nil_append]; omega) ?_
                          refine d_set 0 (n.toNat + 6) y (by simp only [cE2, sev, svl, cen, List.cons_append, List.nil_append]; omega) (by simp only [cE2, sev, svl, cen, List.cons_append, List.nil_append]; omega) (by omega) (by simp only [cE2, sev, svl, cen, List.cons_append, List.nil_append]; omega) ?_
                          refine d_set 0 (n.toNat + 6) z (by simp only [cE2, sev, svl, cen, List.cons_append, List.nil_append]; omega) (by simp only [cE2, sev, svl, cen, List.cons_append, List.nil_append]; omega) (by omega) (by simp only [cE2, sev, svl, cen, List.cons_append, List.nil_append]; omega) ?_
                          exact d_ret [1] rfl (by decide) (Or.inl ⟨by omega, rfl, by first | (rw [if_pos (by omega)]; rfl) | (rw [if_neg (by omega)]; rfl)⟩)
                    · simp only [cCmp, cE2, sev, svl, cen, List.cons_append, List.nil_append] at h
                      omega
                  · refine ⟨rfl, ?_⟩
                    refine d_br (fun h => ?_) (fun h => ?_)
                    · simp only [cCmp, cE2, sev, svl, cen, List.cons_append, List.nil_append] at h
                      omega
                    · clear h
                      exact d_ret [0] rfl (by decide) (Or.inr ⟨by omega, rfl, rfl⟩)
              · refine ⟨rfl, ?_⟩
                refine d_br (fun h => ?_) (fun h => ?_)
                · clear h
                  exact d_ret [0] rfl (by decide) (Or.inr ⟨by omega, rfl, rfl⟩)
                · simp only [cCmp, cE2, sev, svl, cen, List.cons_append, List.nil_append] at h
                  omega
          · refine ⟨rfl, ?_⟩
            refine d_br (fun h => ?_) (fun h => ?_)
            · clear h
              exact d_ret [0] rfl (by decide) (Or.inr ⟨by omega, rfl, rfl⟩)
            · simp only [cCmp, cE2, sev, svl, cen, List.cons_append, List.nil_append] at h
              omega
      · refine ⟨rfl, ?_⟩
        refine d_br (fun h => ?_) (fun h => ?_)
        · clear h
          exact d_ret [0] rfl (by decide) (Or.inr ⟨by omega, rfl, rfl⟩)
        · simp only [cCmp, cE2, sev, svl, cen, List.cons_append, List.nil_append] at h
          omega
  · simp only [cCmp, cE2, sev, svl, cen, List.cons_append, List.nil_append] at h
    first
    | omega
    | skip
      refine d_call (m_within hp (x := n) (y := 0) (z := 5)) (by simp [cAs, cE2, sev, svl, cen] <;> omega) ?_
      intro rr M' hq
      obtain ⟨hM', hq⟩ := hq
      rw [hM']
      rcases hq with ⟨rfl, q5⟩ | ⟨rfl, q5⟩
      · refine ⟨rfl, ?_⟩
        refine d_br (fun h => ?_) (fun h => ?_)
        · simp only [cCmp, cE2, sev, svl, cen, List.cons_append, List.nil_append] at h
          omega
        · clear h
          refine d_call (m_within hp (x := x) (y := 1) (z := 999)) (by simp [cAs, cE2, sev, svl, cen] <;> omega) ?_
          intro rr M' hq
          obtain ⟨hM', hq⟩ := hq
          rw [hM']
          rcases hq with ⟨rfl, q6⟩ | ⟨rfl, q6⟩
          · refine ⟨rfl, ?_⟩
            refine d_br (fun h => ?_) (fun h => ?_)
            · simp only [cCmp, cE2, sev, svl, cen, List.cons_append, List.nil_append] at h
              omega
            · clear h
              refine d_call (m_within hp (x := y) (y := 1) (z := 999)) (by simp [cAs, cE2, sev, svl, cen] <;> omega) ?_
              intro rr M' hq
              obtain ⟨hM', hq⟩ := hq
              rw [hM']
              rcases hq with ⟨rfl, q7⟩ | ⟨rfl, q7⟩
              · refine ⟨rfl, ?_⟩
                refine d_br (fun h => ?_) (fun h => ?_)
                · simp only [cCmp, cE2, sev, svl, cen, List.cons_append, List.nil_append] at h
                  omega
                · clear h
                  refine d_call (m_within hp (x := z) (y := 0) (z := 9)) (by simp [cAs, cE2, sev, svl, cen] <;> omega) ?_
                  intro rr M' hq
                  obtain ⟨hM', hq⟩ := hq
                  rw [hM']
                  rcases hq with ⟨rfl, q8⟩ | ⟨rfl, q8⟩
                  · refine ⟨rfl, ?_⟩
                    refine d_br (fun h => ?_) (fun h => ?_)
                    · clear h
                      refine d_br (fun h => ?_) (fun h => ?_)
                      · simp only [cCmp, cE2, sev, svl, cen, List.cons_append, List.nil_append] at h
                        first
                        | omega
                        | skip
                          refine d_rng (by simp only [clo, chi, cE2, sev, svl, cen, List.cons_append, List.nil_append]; omega) ?_
                          refine d_set 0 n.toNat 1 (by simp only [cE2, sev, svl, cen, List.cons_append, List.nil_append]; omega) (by simp only [cE2, sev, svl, cen, List.cons_append, List.nil_append]; omega) (by omega) (by simp only [cE2, sev, svl, cen, List.cons_append, List.nil_append]; omega) ?_
                          refine d_set 0 n.toNat x (by simp only [cE2, sev, svl, cen, List.cons_append, List.nil_append]; omega) (by simp only [cE2, sev, svl, cen, List.cons_append, List.nil_append]; omega) (by omega) (by simp only [cE2, sev, svl, cen, List.cons_append, List.nil_append]; omega) ?_
                          refine d_set 0 n.toNat y (by simp only [cE2, sev, svl, cen, List.cons_append, List.nil_append]; omega) (by simp only [cE2, sev, svl, cen, List.cons_append, List.nil_append]; omega) (by omega) (by simp only [cE2, sev, svl, cen, List.cons_append, List.nil_append]; omega) ?_
                          refine d_set 0 n.toNat z (by simp only [cE2, sev, svl, cen, List.cons_append, List.nil_append]; omega) (by simp only [cE2, sev, svl, cen, List.cons_append, List.nil_append]; omega) (by omega) (by simp only [cE2, sev, svl, cen, List.cons_append, List.nil_append]; omega) ?_
                          exact d_ret [1] rfl (by decide) (Or.inl ⟨by omega, rfl, by first | (rw [if_pos (by omega)]; rfl) | (rw [if_neg (by omega)]; rfl)⟩)
                      · simp only [cCmp, cE2, sev, svl, cen, List.cons_append, List.nil_append] at h
                        first
                        | omega
                        | skip
                          refine d_rng (by simp only [clo, chi, cE2, sev, svl, cen, List.cons_append, List.nil_append]; omega) ?_
                          refine d_rng (by simp only [clo, chi, cE2, sev, svl, cen, List.cons_append, List.nil_append]; omega) ?_
                          refine d_set 0 (n.toNat + 6) 1 (by simp only [cE2, sev, svl, cen, List.cons_append, List.nil_append]; omega) (by simp only [cE2, sev, svl, cen, List.cons_append, List.nil_append]; omega) (by omega) (by simp only [cE2, sev, svl, cen, List.cons_append, List.nil_append]; omega) ?_
                          refine d_set 0 (n.toNat + 6) x (by simp only [cE2, sev, svl, cen, List.cons_append, List.nil_append]; omega) (by simp only [cE2, sev, svl, cen, List.cons_append, List.nil_append]; omega) (by omega) (by simp only [cE2, sev, svl, cen, List.cons_append, List.nil_append]; omega) ?_
                          refine d_set 0 (n.toNat + 6) y (by simp only [cE2, sev, svl, cen, List.cons_append, List.nil_append]; omega) (by simp only [cE2, sev, svl, cen, List.cons_append, List.nil_append]; omega) (by omega) (by simp only [cE2, sev, svl, cen, List.cons_append, List.nil_append]; omega) ?_
                          refine d_set 0 (n.toNat + 6) z (by simp only [cE2, sev, svl, cen, List.cons_append, List.nil_append]; omega) (by simp only [cE2, sev, svl, cen, List.cons_append, List.nil_append]; omega) (by omega) (by simp only [cE2, sev, svl, cen, List.cons_append, List.nil_append]; omega) ?_
                          exact d_ret [1] rfl (by decide) (Or.inl ⟨by omega, rfl, by first | (rw [if_pos (by omega)]; rfl) | (rw [if_neg (by omega)]; rfl)⟩)
                    · simp only [cCmp, cE2, sev, svl, cen, List.cons_append, List.nil_append] at h
                      omega
                  · refine ⟨rfl, ?_⟩
                    refine d_br (fun h => ?_) (fun h => ?_)
                    · simp only [cCmp, cE2, sev, svl, cen, List.cons_append, List.nil_append] at h
                      omega
                    · clear h
                      exact d_ret [0] rfl (by decide) (Or.inr ⟨by omega, rfl, rfl⟩)
              · refine ⟨rfl, ?_⟩
                refine d_br (fun h => ?_) (fun h => ?_)
                · clear h
                  exact d_ret [0] rfl (by decide) (Or.inr ⟨by omega, rfl, rfl⟩)
                · simp only [cCmp, cE2, sev, svl, cen, List.cons_append, List.nil_append] at h
                  omega
          · refine ⟨rfl, ?_⟩
            refine d_br (fun h => ?_) (fun h => ?_)
            · clear h
              exact d_ret [0] rfl (by decide) (Or.inr ⟨by omega, rfl, rfl⟩)
            · simp only [cCmp, cE2, sev, svl, cen, List.cons_append, List.nil_append] at h
              omega
      · refine ⟨rfl, ?_⟩
        refine d_br (fun h => ?_) (fun h => ?_)
        · clear h
          exact d_ret [0] rfl (by decide) (Or.inr ⟨by omega, rfl, rfl⟩)
        · simp only [cCmp, cE2, sev, svl, cen, List.cons_append, List.nil_append] at h
          omega
theorem bkX_fr {M MM : SMem} {gp n x y z : Int} {rr : List Int} (h : (((0 ≤ n ∧ n < 6) ∧ (0 ≤ x ∧ x < 1000) ∧ (0 ≤ y ∧ y < 1000) ∧ (0 ≤ z ∧ z < 10) ∧ (gp = 0 ∨ (x ≠ 0 ∧ y ≠ 0))) ∧ rr = [1] ∧ MM = bTell M (if gp = 0 then n.toNat else n.toNat + 6) x y z) ∨ (¬ ((0 ≤ n ∧ n < 6) ∧ (0 ≤ x ∧ x < 1000) ∧ (0 ≤ y ∧ y < 1000) ∧ (0 ≤ z ∧ z < 10) ∧ (gp = 0 ∨ (x ≠ 0 ∧ y ≠ 0))) ∧ rr = [0] ∧ MM = M)) : (∃ r : Int, rr = [r]) ∧ ∀ f j i, f ≠ 11 → f ≠ 86 → f ≠ 87 → f ≠ 88 → f ≠ 89 → MM f j i = M f j i := by
  rcases h with ⟨-, e1, e⟩ | ⟨-, e1, e⟩
  · exact ⟨⟨1, e1⟩, fun f j i y1 y2 y3 y4 y5 => by rw [e]; unfold bTell; rw [supd_f y1, supd_f y5, supd_f y4, supd_f y3, supd_f y2]⟩
  · exact ⟨⟨0, e1⟩, fun f j i _ _ _ _ _ => by rw [e]⟩
theorem bkM_fr {M MM : SMem} {gp n x y z : Int} {rr : List Int} (h : (((0 ≤ n ∧ n < 6) ∧ (0 ≤ x ∧ x < 1000) ∧ (0 ≤ y ∧ y < 1000) ∧ (0 ≤ z ∧ z < 10) ∧ (gp = 0 ∨ (x ≠ 0 ∧ y ≠ 0))) ∧ rr = [1] ∧ MM = bTellM (supd M 1 0 0 0) (if gp = 0 then n.toNat else n.toNat + 6) x y z) ∨ (¬ ((0 ≤ n ∧ n < 6) ∧ (0 ≤ x ∧ x < 1000) ∧ (0 ≤ y ∧ y < 1000) ∧ (0 ≤ z ∧ z < 10) ∧ (gp = 0 ∨ (x ≠ 0 ∧ y ≠ 0))) ∧ rr = [0] ∧ MM = supd M 1 0 0 0)) : (∃ r : Int, rr = [r]) ∧ ∀ f j i, f ≠ 51 → f ≠ 52 → f ≠ 53 → f ≠ 54 → ¬ (f = 1 ∧ i = 0) → MM f j i = M f j i := by
  rcases h with ⟨-, e1, e⟩ | ⟨-, e1, e⟩
  · exact ⟨⟨1, e1⟩, fun f j i y1 y2 y3 y4 y5 => by rw [e]; unfold bTellM; rw [supd_f y4, supd_f y3, supd_f y2, supd_f y1]; exact if_neg (fun q => y5 ⟨q.1, q.2.2⟩)⟩
  · exact ⟨⟨0, e1⟩, fun f j i _ _ _ _ y5 => by rw [e]; exact if_neg (fun q => y5 ⟨q.1, q.2.2⟩)⟩
/-- a block or a gap is told, for both -/
theorem fin_blockC {M M1 M2 : SMem} {gp n x y z : Int} {r1 r2 : List Int} (hI : sI tg M) (hX : sX M) (hl : M 3 0 1 = M 1 0 2) (hR : Rc M) (hx : (((0 ≤ n ∧ n < 6) ∧ (0 ≤ x ∧ x < 1000) ∧ (0 ≤ y ∧ y < 1000) ∧ (0 ≤ z ∧ z < 10) ∧ (gp = 0 ∨ (x ≠ 0 ∧ y ≠ 0))) ∧ r1 = [1] ∧ M1 = bTell M (if gp = 0 then n.toNat else n.toNat + 6) x y z) ∨ (¬ ((0 ≤ n ∧ n < 6) ∧ (0 ≤ x ∧ x < 1000) ∧ (0 ≤ y ∧ y < 1000) ∧ (0 ≤ z ∧ z < 10) ∧ (gp = 0 ∨ (x ≠ 0 ∧ y ≠ 0))) ∧ r1 = [0] ∧ M1 = M)) (hm : (((0 ≤ n ∧ n < 6) ∧ (0 ≤ x ∧ x < 1000) ∧ (0 ≤ y ∧ y < 1000) ∧ (0 ≤ z ∧ z < 10) ∧ (gp = 0 ∨ (x ≠ 0 ∧ y ≠ 0))) ∧ r2 = [1] ∧ M2 = bTellM (supd M1 1 0 0 0) (if gp = 0 then n.toNat else n.toNat + 6) x y z) ∨ (¬ ((0 ≤ n ∧ n < 6) ∧ (0 ≤ x ∧ x < 1000) ∧ (0 ≤ y ∧ y < 1000) ∧ (0 ≤ z ∧ z < 10) ∧ (gp = 0 ∨ (x ≠ 0 ∧ y ≠ 0))) ∧ r2 = [0] ∧ M2 = supd M1 1 0 0 0)) : Rqc M M2 := by
  have f1 := (bkX_fr hx).2
  have f2 := (bkM_fr hm).2
  have fr : ∀ f j i, f ∉ [11, 86, 87, 88, 89, 51, 52, 53, 54] → ¬ (f = 1 ∧ i = 0) → M2 f j i = M f j i := fun f j i y1 y2 => by
    simp only [List.mem_cons, List.not_mem_nil, or_false, not_or] at y1
    rw [f2 f j i (by omega) (by omega) (by omega) (by omega) y2, f1 f j i (by omega) (by omega) (by omega) (by omega) (by omega)]
  have row : ∀ f, f ∉ [1, 11, 86, 87, 88, 89, 51, 52, 53, 54] → M2 f = M f := fun f y => by
    funext j i
    simp only [List.mem_cons, List.not_mem_nil, or_false, not_or] at y
    exact fr f j i (by simp only [List.mem_cons, List.not_mem_nil, or_false, not_or]; omega) (by omega)
  obtain ⟨g1, g2, g3, g4⟩ := hR
  have hi : sI tg M2 ∧ M2 86 0 = M2 51 0 := by
    rcases hx with ⟨S, -, rfl⟩ | ⟨S, -, rfl⟩
    · rcases hm with ⟨-, -, rfl⟩ | ⟨S', -, -⟩
      · have i1 : sI tg (bTell M (if gp = 0 then n.toNat else n.toNat + 6) x y z) := wI (lo := 0) (hi := 1) (wI (lo := 0) (hi := 9) (wI (lo := 0) (hi := 999) (wI (lo := 0) (hi := 999) (wI (lo := 0) (hi := 1) hI rfl ⟨by omega, by omega⟩) rfl ⟨by omega, by omega⟩) rfl ⟨by omega, by omega⟩) rfl ⟨by omega, by omega⟩) rfl ⟨by omega, by omega⟩
        refine ⟨wI (lo := 0) (hi := 9) (wI (lo := 0) (hi := 999) (wI (lo := 0) (hi := 999) (wI (lo := 0) (hi := 1) (wI (lo := 0) (hi := 1) i1 rfl ⟨by omega, by omega⟩) rfl ⟨by omega, by omega⟩) rfl ⟨by omega, by omega⟩) rfl ⟨by omega, by omega⟩) rfl ⟨by omega, by omega⟩, ?_⟩
        generalize (if gp = 0 then n.toNat else n.toNat + 6) = a
        funext k
        have := congrFun g4 k
        by_cases e : k = a <;> simp [bTellM, bTell, supd, e, this]
      · exact absurd S S'
    · rcases hm with ⟨S', -, -⟩ | ⟨-, -, rfl⟩
      · exact absurd S' S
      · exact ⟨wI (lo := 0) (hi := 1) hI rfl ⟨by omega, by omega⟩, by rw [supd_ff (by decide), supd_ff (by decide)]; exact g4⟩
  refine ⟨hi.1, ⟨Rr_congr (fun f hf => row f (fun y => ?_)) g1, oWd_m (fun i => by rw [row 16 (by decide)]) g2, fun r hr => by rw [row 74 (by decide), row 37 (by decide)]; exact g3 r hr, hi.2⟩, sX_congr (row 29 (by decide)) (row 27 (by decide)) (row 50 (by decide)) hX, by rw [row 3 (by decide), fr 1 0 2 (by decide) (by omega), hl], fun f j i hf => fr f j i (fun y => ?_) (fun y => ?_)⟩
  · simp only [lRow, List.mem_cons, List.not_mem_nil, or_false] at hf y
    omega
  · simp only [lDC, List.mem_cons, List.not_mem_nil, or_false, not_or] at hf y
    omega
  · simp only [lDC, List.mem_cons, List.not_mem_nil, or_false, not_or] at hf
    omega
/-- how many are told, and sums -/
def cCt (D : Nat → Int) : Nat → Int
  | 0 => 0
  | k + 1 => cCt D k + (if D k = 0 then 0 else 1)
def cSm (S : Nat → Int) : Nat → Int
  | 0 => 0
  | k + 1 => cSm S k + S k
theorem cCt_b (D : Nat → Int) : ∀ k, 0 ≤ cCt D k ∧ cCt D k ≤ k := by
  intro k
  induction k with
  | zero => exact ⟨Int.le_refl _, Int.le_refl _⟩
  | succ k ih =>
    show 0 ≤ cCt D k + (if D k = 0 then 0 else 1) ∧ cCt D k + (if D k = 0 then 0 else 1) ≤ ((k + 1 : Nat) : Int)
    split <;> omega
theorem cSm_b {S : Nat → Int} (h : ∀ k, 0 ≤ S k ∧ S k ≤ 12) : ∀ k, 0 ≤ cSm S k ∧ cSm S k ≤ 12 * k := by
  intro k
  induction k with
  | zero => exact ⟨Int.le_refl _, Int.le_refl _⟩
  | succ k ih =>
    have := h k
    show 0 ≤ cSm S k + S k ∧ cSm S k + S k ≤ 12 * ((k + 1 : Nat) : Int)
    omega
theorem cCt_cg {D D' : Nat → Int} : ∀ k, (∀ i, i < k → D i = D' i) → cCt D k = cCt D' k := by
  intro k
  induction k with
  | zero => intro _; rfl
  | succ k ih =>
    intro h
    show cCt D k + (if D k = 0 then 0 else 1) = cCt D' k + (if D' k = 0 then 0 else 1)
    rw [ih (fun i hi => h i (by omega)), h k (by omega)]
theorem cSm_cg {D D' : Nat → Int} : ∀ k, (∀ i, i < k → D i = D' i) → cSm D k = cSm D' k := by
  intro k
  induction k with
  | zero => intro _; rfl
  | succ k ih =>
    intro h
    show cSm D k + D k = cSm D' k + D' k
    rw [ih (fun i hi => h i (by omega)), h k (by omega)]
def cAn (n0 n1 n2 n3 n4 n5 n6 a : Int) : Int := if a = 0 then n0 else if a = 1 then n1 else if a = 2 then n2 else if a = 3 then n3 else if a = 4 then n4 else if a = 5 then n5 else if a = 6 then n6 else -1
theorem b_namesTold (hp : cPl tm tc tf EX) {M : SMem} : cBG tm tf EX l dC dI cA ad scrS (d + 1) kX2_toldNumber [(2, 4, 0)] M (fun rr MM => MM = M ∧ rr = [cCt (M 58 0) 8]) := by
  refine cMeth (v := []) (Fd := 90) hp (by decide) gX2_toldNumber_ok gX2_toldNumber_m0 (by simp [cAs, cE2, sev, svl, cen]) ?_
  have loop : ∀ (m k : Nat), k + m = 8 → cEnds (cBG tm tf EX l dC dI cA ad scrS d) (fun rr MM => MM = M ∧ rr = [cCt (M 58 0) 8]) 90 gX2_toldNumber 4 [cCt (M 58 0) k, ((k : Nat) : Int)] M := by
    intro m
    induction m with
    | zero =>
      intro k hk
      have hk : k = 8 := hk
      subst hk
      have b := cCt_b (M 58 0) 8
      refine cEnds_at gX2_toldNumber_m4 rfl ?_
      refine d_br (fun h => ?_) (fun h => ?_)
      · simp only [cCmp, cE2, sev, svl, cen, List.cons_append, List.nil_append] at h
        first
        | omega
        | skip
          exact wret1 (cCt (M 58 0) 8) (by simp only [cE2, sev, svl, cen, List.cons_append, List.nil_append]; omega) (by omega) ⟨rfl, rfl⟩
      · simp only [cCmp, cE2, sev, svl, cen, List.cons_append, List.nil_append] at h
        first
        | omega
        | skip
          refine d_row 0 (8) (by simp only [cE2, sev, svl, cen, List.cons_append, List.nil_append]; omega) (by simp only [cE2, sev, svl, cen, List.cons_append, List.nil_append]; omega) (by omega) ?_
          refine d_br (fun h => ?_) (fun h => ?_)
          · simp only [cCmp, cE2, sev, svl, cen, List.cons_append, List.nil_append] at h
            first
            | omega
            | skip
              refine d_rng (by simp only [clo, chi, cE2, sev, svl, cen, List.cons_append, List.nil_append]; omega) ?_
              refine d_cut [(cCt (M 58 0) 8), (((8 : Nat) : Int) + 1)] (by simp [cE2, sev, svl, cen] <;> omega) ?_
              exact (by omega)
          · simp only [cCmp, cE2, sev, svl, cen, List.cons_append, List.nil_append] at h
            first
            | omega
            | skip
              refine d_rng (by simp only [clo, chi, cE2, sev, svl, cen, List.cons_append, List.nil_append]; omega) ?_
              refine d_rng (by simp only [clo, chi, cE2, sev, svl, cen, List.cons_append, List.nil_append]; omega) ?_
              refine d_cut [((cCt (M 58 0) 8) + 1), (((8 : Nat) : Int) + 1)] (by simp [cE2, sev, svl, cen] <;> omega) ?_
              exact (by omega)
    | succ m ih =>
      intro k hk
      have ih := ih (k + 1) (by omega)
      have b := cCt_b (M 58 0) k
      have e : cCt (M 58 0) (k + 1) = cCt (M 58 0) k + (if M 58 0 k = 0 then 0 else 1) := rfl
      rw [e] at ih
      obtain ⟨X, hX⟩ : ∃ X, X = cCt (M 58 0) k := ⟨_, rfl⟩
      rw [← hX] at ih b ⊢
      refine cEnds_at gX2_toldNumber_m4 rfl ?_
      refine d_br (fun h => ?_) (fun h => ?_)
      · simp only [cCmp, cE2, sev, svl, cen, List.cons_append, List.nil_append] at h
        first
        | omega
        | skip
          exact wret1 X (by simp only [cE2, sev, svl, cen, List.cons_append, List.nil_append]; omega) (by omega) (by omega)
      · simp only [cCmp, cE2, sev, svl, cen, List.cons_append, List.nil_append] at h
        first
        | omega
        | skip
          refine d_row 0 (k) (by simp only [cE2, sev, svl, cen, List.cons_append, List.nil_append]; omega) (by simp only [cE2, sev, svl, cen, List.cons_append, List.nil_append]; omega) (by omega) ?_
          refine d_br (fun h => ?_) (fun h => ?_)
          · simp only [cCmp, cE2, sev, svl, cen, List.cons_append, List.nil_append] at h
            first
            | omega
            | skip
              refine d_rng (by simp only [clo, chi, cE2, sev, svl, cen, List.cons_append, List.nil_append]; omega) ?_
              rw [if_pos (by omega)] at ih
              refine d_cut [X + 0, ((k + 1 : Nat) : Int)] (by simp [cE2, sev, svl, cen] <;> omega) ?_
              exact ih
          · simp only [cCmp, cE2, sev, svl, cen, List.cons_append, List.nil_append] at h
            first
            | omega
            | skip
              refine d_rng (by simp only [clo, chi, cE2, sev, svl, cen, List.cons_append, List.nil_append]; omega) ?_
              refine d_rng (by simp only [clo, chi, cE2, sev, svl, cen, List.cons_append, List.nil_append]; omega) ?_
              rw [if_neg (by omega)] at ih
              refine d_cut [X + 1, ((k + 1 : Nat) : Int)] (by simp [cE2, sev, svl, cen] <;> omega) ?_
              exact ih
  refine cEnds_at gX2_toldNumber_m0 rfl ?_
  refine d_cut [0, ((0 : Nat) : Int)] (by simp [cE2, sev, svl, cen] <;> omega) ?_
  exact loop 8 0 (by omega)
theorem b_placesTold (hp : cPl tm tc tf EX) {M : SMem} : cBG tm tf EX l dC dI cA ad scrS (d + 1) kX9_placesTold [(2, 0, 0)] M (fun rr MM => MM = M ∧ rr = [cCt (fun p => M 64 p 0) 12]) := by
  refine cMeth (v := []) (Fd := 90) hp (by decide) gX9_placesTold_ok gX9_placesTold_m0 (by simp [cAs, cE2, sev, svl, cen]) ?_
  have loop : ∀ (m k : Nat), k + m = 12 → cEnds (cBG tm tf EX l dC dI cA ad scrS d) (fun rr MM => MM = M ∧ rr = [cCt (fun p => M 64 p 0) 12]) 90 gX9_placesTold 4 [cCt (fun p => M 64 p 0) k, ((k : Nat) : Int)] M := by
    intro m
    induction m with
    | zero =>
      intro k hk
      have hk : k = 12 := hk
      subst hk
      have b := cCt_b (fun p => M 64 p 0) 12
      refine cEnds_at gX9_placesTold_m4 rfl ?_
      refine d_br (fun h => ?_) (fun h => ?_)
      · simp only [cCmp, cE2, sev, svl, cen, List.cons_append, List.nil_append] at h
        first
        | omega
        | skip
          exact wret1 (cCt (fun p => M 64 p 0) 12) (by simp only [cE2, sev, svl, cen, List.cons_append, List.nil_append]; omega) (by omega) ⟨rfl, rfl⟩
      · simp only [cCmp, cE2, sev, svl, cen, List.cons_append, List.nil_append] at h
        first
        | omega
        | skip
          refine d_idx (by simp only [cE2, sev, svl, cen, List.cons_append, List.nil_append]; omega) ?_
          refine d_fld (12) (by simp only [cE2, sev, svl, cen, List.cons_append, List.nil_append]; omega) ?_
          refine d_br (fun h => ?_) (fun h => ?_)
          · simp only [cCmp, cE2, sev, svl, cen, List.cons_append, List.nil_append] at h
            first
            | omega
            | skip
              refine d_rng (by simp only [clo, chi, cE2, sev, svl, cen, List.cons_append, List.nil_append]; omega) ?_
              refine d_cut [(cCt (fun p => M 64 p 0) 12), (((12 : Nat) : Int) + 1)] (by simp [cE2, sev, svl, cen] <;> omega) ?_
              exact (by omega)
          · simp only [cCmp, cE2, sev, svl, cen, List.cons_append, List.nil_append] at h
            first
            | omega
            | skip
              refine d_rng (by simp only [clo, chi, cE2, sev, svl, cen, List.cons_append, List.nil_append]; omega) ?_
              refine d_rng (by simp only [clo, chi, cE2, sev, svl, cen, List.cons_append, List.nil_append]; omega) ?_
              refine d_cut [((cCt (fun p => M 64 p 0) 12) + 1), (((12 : Nat) : Int) + 1)] (by simp [cE2, sev, svl, cen] <;> omega) ?_
              exact (by omega)
    | succ m ih =>
      intro k hk
      have ih := ih (k + 1) (by omega)
      have b := cCt_b (fun p => M 64 p 0) k
      have e : cCt (fun p => M 64 p 0) (k + 1) = cCt (fun p => M 64 p 0) k + (if M 64 k 0 = 0 then 0 else 1) := rfl
      rw [e] at ih
      obtain ⟨X, hX⟩ : ∃ X, X = cCt (fun p => M 64 p 0) k := ⟨_, rfl⟩
      rw [← hX] at ih b ⊢
      refine cEnds_at gX9_placesTold_m4 rfl ?_
      refine d_br (fun h => ?_) (fun h => ?_)
      · simp only [cCmp, cE2, sev, svl, cen, List.cons_append, List.nil_append] at h
        first
        | omega
        | skip
          exact wret1 X (by simp only [cE2, sev, svl, cen, List.cons_append, List.nil_append]; omega) (by omega) (by omega)
      · simp only [cCmp, cE2, sev, svl, cen, List.cons_append, List.nil_append] at h
        first
        | omega
        | skip
          refine d_idx (by simp only [cE2, sev, svl, cen, List.cons_append, List.nil_append]; omega) ?_
          refine d_fld (k) (by simp only [cE2, sev, svl, cen, List.cons_append, List.nil_append]; omega) ?_
          refine d_br (fun h => ?_) (fun h => ?_)
          · simp only [cCmp, cE2, sev, svl, cen, List.cons_append, List.nil_append] at h
            first
            | omega
            | skip
              refine d_rng (by simp only [clo, chi, cE2, sev, svl, cen, List.cons_append, List.nil_append]; omega) ?_
              rw [if_pos (by omega)] at ih
              refine d_cut [X + 0, ((k + 1 : Nat) : Int)] (by simp [cE2, sev, svl, cen] <;> omega) ?_
              exact ih
          · simp only [cCmp, cE2, sev, svl, cen, List.cons_append, List.nil_append] at h
            first
            | omega
            | skip
              refine d_rng (by simp only [clo, chi, cE2, sev, svl, cen, List.cons_append, List.nil_append]; omega) ?_
              refine d_rng (by simp only [clo, chi, cE2, sev, svl, cen, List.cons_append, List.nil_append]; omega) ?_
              rw [if_neg (by omega)] at ih
              refine d_cut [X + 1, ((k + 1 : Nat) : Int)] (by simp [cE2, sev, svl, cen] <;> omega) ?_
              exact ih
  refine cEnds_at gX9_placesTold_m0 rfl ?_
  refine d_cut [0, ((0 : Nat) : Int)] (by simp [cE2, sev, svl, cen] <;> omega) ?_
  exact loop 12 0 (by omega)
theorem b_cutsTold (hp : cPl tm tc tf EX) {M : SMem} (hI : sI tg M) : cBG tm tf EX l dC dI cA ad scrS (d + 1) kX9_cutsTold [(2, 0, 0)] M (fun rr MM => MM = M ∧ rr = [cSm (fun p => M 64 p 5) 12]) := by
  refine cMeth (v := []) (Fd := 90) hp (by decide) gX9_cutsTold_ok gX9_cutsTold_m0 (by simp [cAs, cE2, sev, svl, cen]) ?_
  have hb : ∀ k, 0 ≤ (fun p => M 64 p 5) k ∧ (fun p => M 64 p 5) k ≤ 12 := fun k => by
    have b := wIb (f := 64) (i := 5) (lo := 0) (hi := 6) hI k rfl
    dsimp only
    omega
  have loop : ∀ (m k : Nat), k + m = 12 → cEnds (cBG tm tf EX l dC dI cA ad scrS d) (fun rr MM => MM = M ∧ rr = [cSm (fun p => M 64 p 5) 12]) 90 gX9_cutsTold 4 [cSm (fun p => M 64 p 5) k, (k : Int)] M := by
    intro m
    induction m with
    | zero =>
      intro k hk
      have hk : k = 12 := hk
      subst hk
      have b := cSm_b hb 12
      refine cEnds_at gX9_cutsTold_m4 rfl ?_
      refine d_br (fun h => ?_) (fun h => ?_)
      · simp only [cCmp, cE2, sev, svl, cen, List.cons_append, List.nil_append] at h
        first
        | omega
        | skip
          exact wret1 (cSm (fun p => M 64 p 5) 12) (by simp only [cE2, sev, svl, cen, List.cons_append, List.nil_append]; omega) (by omega) ⟨rfl, rfl⟩
      · simp only [cCmp, cE2, sev, svl, cen, List.cons_append, List.nil_append] at h
        first
        | omega
        | skip
          refine d_idx (by simp only [cE2, sev, svl, cen, List.cons_append, List.nil_append]; omega) ?_
          refine d_fld (12) (by simp only [cE2, sev, svl, cen, List.cons_append, List.nil_append]; omega) ?_
          refine d_rng (by simp only [clo, chi, cE2, sev, svl, cen, List.cons_append, List.nil_append]; omega) ?_
          refine d_rng (by simp only [clo, chi, cE2, sev, svl, cen, List.cons_append, List.nil_append]; omega) ?_
          refine d_cut [((cSm (fun p => M 64 p 5) 12) + (M 64 (12) 5)), (((12 : Nat) : Int) + 1)] (by simp [cE2, sev, svl, cen] <;> omega) ?_
          exact (by omega)
    | succ m ih =>
      intro k hk
      have ih := ih (k + 1) (by omega)
      have b := cSm_b hb k
      have b1 : 0 ≤ M 64 k 5 ∧ M 64 k 5 ≤ 12 := hb k
      have e : cSm (fun p => M 64 p 5) (k + 1) = cSm (fun p => M 64 p 5) k + M 64 k 5 := rfl
      rw [e] at ih
      obtain ⟨X, hX⟩ : ∃ X, X = cSm (fun p => M 64 p 5) k := ⟨_, rfl⟩
      rw [← hX] at ih b ⊢
      refine cEnds_at gX9_cutsTold_m4 rfl ?_
      refine d_br (fun h => ?_) (fun h => ?_)
      · simp only [cCmp, cE2, sev, svl, cen, List.cons_append, List.nil_append] at h
        first
        | omega
        | skip
          exact wret1 X (by simp only [cE2, sev, svl, cen, List.cons_append, List.nil_append]; omega) (by omega) (by omega)
      · simp only [cCmp, cE2, sev, svl, cen, List.cons_append, List.nil_append] at h
        first
        | omega
        | skip
          refine d_idx (by simp only [cE2, sev, svl, cen, List.cons_append, List.nil_append]; omega) ?_
          refine d_fld k (by simp only [cE2, sev, svl, cen, List.cons_append, List.nil_append]; omega) ?_
          refine d_rng (by simp only [clo, chi, cE2, sev, svl, cen, List.cons_append, List.nil_append]; omega) ?_
          refine d_rng (by simp only [clo, chi, cE2, sev, svl, cen, List.cons_append, List.nil_append]; omega) ?_
          refine d_cut [X + M 64 k 5, ((k + 1 : Nat) : Int)] (by simp [cE2, sev, svl, cen] <;> omega) ?_
          exact ih
  refine cEnds_at gX9_cutsTold_m0 rfl ?_
  refine d_cut [0, ((0 : Nat) : Int)] (by simp [cE2, sev, svl, cen] <;> omega) ?_
  exact loop 12 0 (by omega)
theorem b_linesTold (hp : cPl tm tc tf EX) {M : SMem} (hI : sI tg M) : cBG tm tf EX l dC dI cA ad scrS (d + 1) kX9_linesTold [(2, 0, 0)] M (fun rr MM => MM = M ∧ rr = [cSm (fun r => M 74 r 0) 6]) := by
  refine cMeth (v := []) (Fd := 90) hp (by decide) gX9_linesTold_ok gX9_linesTold_m0 (by simp [cAs, cE2, sev, svl, cen]) ?_
  have hb : ∀ k, 0 ≤ (fun r => M 74 r 0) k ∧ (fun r => M 74 r 0) k ≤ 12 := fun k => by
    have b := wIb (f := 74) (i := 0) (lo := 0) (hi := 12) hI k rfl
    dsimp only
    omega
  have loop : ∀ (m k : Nat), k + m = 6 → cEnds (cBG tm tf EX l dC dI cA ad scrS d) (fun rr MM => MM = M ∧ rr = [cSm (fun r => M 74 r 0) 6]) 90 gX9_linesTold 4 [cSm (fun r => M 74 r 0) k, (k : Int)] M := by
    intro m
    induction m with
    | zero =>
      intro k hk
      have hk : k = 6 := hk
      subst hk
      have b := cSm_b hb 6
      refine cEnds_at gX9_linesTold_m4 rfl ?_
      refine d_br (fun h => ?_) (fun h => ?_)
      · simp only [cCmp, cE2, sev, svl, cen, List.cons_append, List.nil_append] at h
        first
        | omega
        | skip
          exact wret1 (cSm (fun r => M 74 r 0) 6) (by simp only [cE2, sev, svl, cen, List.cons_append, List.nil_append]; omega) (by omega) ⟨rfl, rfl⟩
      · simp only [cCmp, cE2, sev, svl, cen, List.cons_append, List.nil_append] at h
        first
        | omega
        | skip
          refine d_idx (by simp only [cE2, sev, svl, cen, List.cons_append, List.nil_append]; omega) ?_
          refine d_fld (6) (by simp only [cE2, sev, svl, cen, List.cons_append, List.nil_append]; omega) ?_
          refine d_rng (by simp only [clo, chi, cE2, sev, svl, cen, List.cons_append, List.nil_append]; omega) ?_
          refine d_rng (by simp only [clo, chi, cE2, sev, svl, cen, List.cons_append, List.nil_append]; omega) ?_
          refine d_cut [((cSm (fun r => M 74 r 0) 6) + (M 74 (6) 0)), (((6 : Nat) : Int) + 1)] (by simp [cE2, sev, svl, cen] <;> omega) ?_
          exact (by omega)
    | succ m ih =>
      intro k hk
      have ih := ih (k + 1) (by omega)
      have b := cSm_b hb k
      have b1 : 0 ≤ M 74 k 0 ∧ M 74 k 0 ≤ 12 := hb k
      have e : cSm (fun r => M 74 r 0) (k + 1) = cSm (fun r => M 74 r 0) k + M 74 k 0 := rfl
      rw [e] at ih
      obtain ⟨X, hX⟩ : ∃ X, X = cSm (fun r => M 74 r 0) k := ⟨_, rfl⟩
      rw [← hX] at ih b ⊢
      refine cEnds_at gX9_linesTold_m4 rfl ?_
      refine d_br (fun h => ?_) (fun h => ?_)
      · simp only [cCmp, cE2, sev, svl, cen, List.cons_append, List.nil_append] at h
        first
        | omega
        | skip
          exact wret1 X (by simp only [cE2, sev, svl, cen, List.cons_append, List.nil_append]; omega) (by omega) (by omega)
      · simp only [cCmp, cE2, sev, svl, cen, List.cons_append, List.nil_append] at h
        first
        | omega
        | skip
          refine d_idx (by simp only [cE2, sev, svl, cen, List.cons_append, List.nil_append]; omega) ?_
          refine d_fld k (by simp only [cE2, sev, svl, cen, List.cons_append, List.nil_append]; omega) ?_
          refine d_rng (by simp only [clo, chi, cE2, sev, svl, cen, List.cons_append, List.nil_append]; omega) ?_
          refine d_rng (by simp only [clo, chi, cE2, sev, svl, cen, List.cons_append, List.nil_append]; omega) ?_
          refine d_cut [X + M 74 k 0, ((k + 1 : Nat) : Int)] (by simp [cE2, sev, svl, cen] <;> omega) ?_
          exact ih
  refine cEnds_at gX9_linesTold_m0 rfl ?_
  refine d_cut [0, ((0 : Nat) : Int)] (by simp [cE2, sev, svl, cen] <;> omega) ?_
  exact loop 6 0 (by omega)
theorem b_blocksTold (hp : cPl tm tc tf EX) {a : Nat} {M : SMem} (ha : a = 0 ∨ a = 6) : cBG tm tf EX l dC dI cA ad scrS (d + 1) kX1_toldNumber [(2, 11, 0), (0, 0, (a : Int)), (0, 0, 6)] M (fun rr MM => MM = M ∧ rr = [cCt (fun i => M 86 0 (a + i)) 6]) := by
  refine cMeth (v := [(a : Int), 6]) (Fd := 90) hp (by decide) gX1_toldNumber_ok gX1_toldNumber_m0 (by simp [cAs, cE2, sev, svl, cen]) ?_
  have loop : ∀ (m k : Nat), k + m = 6 → cEnds (cBG tm tf EX l dC dI cA ad scrS d) (fun rr MM => MM = M ∧ rr = [cCt (fun i => M 86 0 (a + i)) 6]) 90 gX1_toldNumber 5 [(a : Int), 6, cCt (fun i => M 86 0 (a + i)) k, ((a + k : Nat) : Int)] M := by
    intro m
    induction m with
    | zero =>
      intro k hk
      have hk : k = 6 := hk
      subst hk
      have b := cCt_b (fun i => M 86 0 (a + i)) 6
      refine cEnds_at gX1_toldNumber_m5 rfl ?_
      refine d_rng (by simp only [clo, chi, cE2, sev, svl, cen, List.cons_append, List.nil_append]; omega) ?_
      refine d_br (fun h => ?_) (fun h => ?_)
      · simp only [cCmp, cE2, sev, svl, cen, List.cons_append, List.nil_append] at h
        first
        | omega
        | skip
          exact wret1 (cCt (fun i => M 86 0 (a + i)) 6) (by simp only [cE2, sev, svl, cen, List.cons_append, List.nil_append]; omega) (by omega) ⟨rfl, rfl⟩
      · simp only [cCmp, cE2, sev, svl, cen, List.cons_append, List.nil_append] at h
        first
        | omega
        | skip
          refine d_row 0 ((a + 6)) (by simp only [cE2, sev, svl, cen, List.cons_append, List.nil_append]; omega) (by simp only [cE2, sev, svl, cen, List.cons_append, List.nil_append]; omega) (by omega) ?_
          refine d_br (fun h => ?_) (fun h => ?_)
          · simp only [cCmp, cE2, sev, svl, cen, List.cons_append, List.nil_append] at h
            first
            | omega
            | skip
              refine d_rng (by simp only [clo, chi, cE2, sev, svl, cen, List.cons_append, List.nil_append]; omega) ?_
              refine d_cut [(a : Int), 6, (cCt (fun i => M 86 0 (a + i)) 6), (((a + 6 : Nat) : Int) + 1)] (by simp [cE2, sev, svl, cen] <;> omega) ?_
              exact (by omega)
          · simp only [cCmp, cE2, sev, svl, cen, List.cons_append, List.nil_append] at h
            first
            | omega
            | skip
              refine d_rng (by simp only [clo, chi, cE2, sev, svl, cen, List.cons_append, List.nil_append]; omega) ?_
              refine d_rng (by simp only [clo, chi, cE2, sev, svl, cen, List.cons_append, List.nil_append]; omega) ?_
              refine d_cut [(a : Int), 6, ((cCt (fun i => M 86 0 (a + i)) 6) + 1), (((a + 6 : Nat) : Int) + 1)] (by simp [cE2, sev, svl, cen] <;> omega) ?_
              exact (by omega)
    | succ m ih =>
      intro k hk
      have ih := ih (k + 1) (by omega)
      have b := cCt_b (fun i => M 86 0 (a + i)) k
      have e : cCt (fun i => M 86 0 (a + i)) (k + 1) = cCt (fun i => M 86 0 (a + i)) k + (if M 86 0 (a + k) = 0 then 0 else 1) := rfl
      rw [e] at ih
      obtain ⟨X, hX⟩ : ∃ X, X = cCt (fun i => M 86 0 (a + i)) k := ⟨_, rfl⟩
      rw [← hX] at ih b ⊢
      refine cEnds_at gX1_toldNumber_m5 rfl ?_
      refine d_rng (by simp only [clo, chi, cE2, sev, svl, cen, List.cons_append, List.nil_append]; omega) ?_
      refine d_br (fun h => ?_) (fun h => ?_)
      · simp only [cCmp, cE2, sev, svl, cen, List.cons_append, List.nil_append] at h
        first
        | omega
        | skip
          exact wret1 X (by simp only [cE2, sev, svl, cen, List.cons_append, List.nil_append]; omega) (by omega) (by omega)
      · simp only [cCmp, cE2, sev, svl, cen, List.cons_append, List.nil_append] at h
        first
        | omega
        | skip
          refine d_row 0 ((a + k)) (by simp only [cE2, sev, svl, cen, List.cons_append, List.nil_append]; omega) (by simp only [cE2, sev, svl, cen, List.cons_append, List.nil_append]; omega) (by omega) ?_
          refine d_br (fun h => ?_) (fun h => ?_)
          · simp only [cCmp, cE2, sev, svl, cen, List.cons_append, List.nil_append] at h
            first
            | omega
            | skip
              refine d_rng (by simp only [clo, chi, cE2, sev, svl, cen, List.cons_append, List.nil_append]; omega) ?_
              rw [if_pos (by omega)] at ih
              refine d_cut [(a : Int), 6, X + 0, ((a + (k + 1) : Nat) : Int)] (by simp [cE2, sev, svl, cen] <;> omega) ?_
              exact ih
          · simp only [cCmp, cE2, sev, svl, cen, List.cons_append, List.nil_append] at h
            first
            | omega
            | skip
              refine d_rng (by simp only [clo, chi, cE2, sev, svl, cen, List.cons_append, List.nil_append]; omega) ?_
              refine d_rng (by simp only [clo, chi, cE2, sev, svl, cen, List.cons_append, List.nil_append]; omega) ?_
              rw [if_neg (by omega)] at ih
              refine d_cut [(a : Int), 6, X + 1, ((a + (k + 1) : Nat) : Int)] (by simp [cE2, sev, svl, cen] <;> omega) ?_
              exact ih
  refine cEnds_at gX1_toldNumber_m0 rfl ?_
  refine d_cut [(a : Int), 6, 0, ((a + 0 : Nat) : Int)] (by simp [cE2, sev, svl, cen] <;> omega) ?_
  exact loop 6 0 (by omega)
theorem b_count (hp : cPl tm tc tf EX) {a : Int} {M : SMem} (hI : sI tg M) : cBG tm tf EX l dC dI cA ad scrS (d + 2) kX9_count [(2, 0, 0), (0, 0, a)] M (fun rr MM => MM = M ∧ rr = [cAn (cCt (M 58 0) 8) (cCt (fun p => M 64 p 0) 12) (cSm (fun p => M 64 p 5) 12) (cSm (fun r => M 74 r 0) 6) (cCt (fun i => M 86 0 (0 + i)) 6) (cCt (fun i => M 86 0 (6 + i)) 6) (M 3 0 1) a]) := by
  have s1 := cSm_b (S := fun p => M 64 p 5) (fun k => by have b := wIb (f := 64) (i := 5) (lo := 0) (hi := 6) hI k rfl; omega) 12
  have s2 := cSm_b (S := fun r => M 74 r 0) (fun k => by have b := wIb (f := 74) (i := 0) (lo := 0) (hi := 12) hI k rfl; omega) 6
  have c1 := cCt_b (M 58 0) 8
  have c2 := cCt_b (fun p => M 64 p 0) 12
  have c3 := cCt_b (fun i => M 86 0 (0 + i)) 6
  have c4 := cCt_b (fun i => M 86 0 (6 + i)) 6
  have b3 := wIb (f := 3) (i := 1) (lo := 0) (hi := 1000) hI 0 rfl
  obtain ⟨n0, hn0⟩ : ∃ n0, n0 = cCt (M 58 0) 8 := ⟨_, rfl⟩
  obtain ⟨n1, hn1⟩ : ∃ n1, n1 = cCt (fun p => M 64 p 0) 12 := ⟨_, rfl⟩
  obtain ⟨n2, hn2⟩ : ∃ n2, n2 = cSm (fun p => M 64 p 5) 12 := ⟨_, rfl⟩
  obtain ⟨n3, hn3⟩ : ∃ n3, n3 = cSm (fun r => M 74 r 0) 6 := ⟨_, rfl⟩
  obtain ⟨n4, hn4⟩ : ∃ n4, n4 = cCt (fun i => M 86 0 (0 + i)) 6 := ⟨_, rfl⟩
  obtain ⟨n5, hn5⟩ : ∃ n5, n5 = cCt (fun i => M 86 0 (6 + i)) 6 := ⟨_, rfl⟩
  have w0 := b_namesTold (EX := EX) (l := l) (dC := dC) (dI := dI) (cA := cA) (ad := ad) (scrS := scrS) (d := d) hp (M := M)
  have w1 := b_placesTold (EX := EX) (l := l) (dC := dC) (dI := dI) (cA := cA) (ad := ad) (scrS := scrS) (d := d) hp (M := M)
  have w2 := b_cutsTold (EX := EX) (l := l) (dC := dC) (dI := dI) (cA := cA) (ad := ad) (scrS := scrS) (d := d) hp hI
  have w3 := b_linesTold (EX := EX) (l := l) (dC := dC) (dI := dI) (cA := cA) (ad := ad) (scrS := scrS) (d := d) hp hI
  have w4 := b_blocksTold (EX := EX) (l := l) (dC := dC) (dI := dI) (cA := cA) (ad := ad) (scrS := scrS) (d := d) hp (a := 0) (M := M) (Or.inl rfl)
  have w5 := b_blocksTold (EX := EX) (l := l) (dC := dC) (dI := dI) (cA := cA) (ad := ad) (scrS := scrS) (d := d) hp (a := 6) (M := M) (Or.inr rfl)
  rw [← hn0] at c1 w0 ⊢
  rw [← hn1] at c2 w1 ⊢
  rw [← hn2] at s1 w2 ⊢
  rw [← hn3] at s2 w3 ⊢
  rw [← hn4] at c3 w4 ⊢
  rw [← hn5] at c4 w5 ⊢
  refine cMeth (v := [a]) (Fd := 90) hp (by decide) gX9_count_ok gX9_count_m0 (by simp [cAs, cE2, sev, svl, cen]) ?_
  refine cEnds_at gX9_count_m0 rfl ?_
  refine d_br (fun h => ?_) (fun h => ?_)
  · simp only [cCmp, cE2, sev, svl, cen, List.cons_append, List.nil_append] at h
    first
    | omega
    | skip
      exact d_ret [(-1)] rfl (by decide) ⟨rfl, by unfold cAn; (repeat' split) <;> first | rfl | omega⟩
  · simp only [cCmp, cE2, sev, svl, cen, List.cons_append, List.nil_append] at h
    first
    | omega
    | skip
      refine d_br (fun h => ?_) (fun h => ?_)
      · simp only [cCmp, cE2, sev, svl, cen, List.cons_append, List.nil_append] at h
        first
        | omega
        | skip
          exact d_ret [(-1)] rfl (by decide) ⟨rfl, by unfold cAn; (repeat' split) <;> first | rfl | omega⟩
      · simp only [cCmp, cE2, sev, svl, cen, List.cons_append, List.nil_append] at h
        first
        | omega
        | skip
          refine d_br (fun h => ?_) (fun h => ?_)
          · simp only [cCmp, cE2, sev, svl, cen, List.cons_append, List.nil_append] at h
            first
            | omega
            | skip
              refine d_call (w0) (by simp [cAs, cE2, sev, svl, cen] <;> omega) ?_
              intro rr M' hq
              obtain ⟨hM', rfl⟩ := hq
              rw [hM']
              refine ⟨rfl, ?_⟩
              exact wret1 n0 (by simp only [cE2, sev, svl, cen, List.cons_append, List.nil_append]; omega) (by omega) ⟨rfl, by unfold cAn; (repeat' split) <;> first | rfl | omega⟩
          · simp only [cCmp, cE2, sev, svl, cen, List.cons_append, List.nil_append] at h
            first
            | omega
            | skip
              refine d_br (fun h => ?_) (fun h => ?_)
              · simp only [cCmp, cE2, sev, svl, cen, List.cons_append, List.nil_append] at h
                first
                | omega
                | skip
                  refine d_call (w1) (by simp [cAs, cE2, sev, svl, cen] <;> omega) ?_
                  intro rr M' hq
                  obtain ⟨hM', rfl⟩ := hq
                  rw [hM']
                  refine ⟨rfl, ?_⟩
                  exact wret1 n1 (by simp only [cE2, sev, svl, cen, List.cons_append, List.nil_append]; omega) (by omega) ⟨rfl, by unfold cAn; (repeat' split) <;> first | rfl | omega⟩
              · simp only [cCmp, cE2, sev, svl, cen, List.cons_append, List.nil_append] at h
                first
                | omega
                | skip
                  refine d_br (fun h => ?_) (fun h => ?_)
                  · simp only [cCmp, cE2, sev, svl, cen, List.cons_append, List.nil_append] at h
                    first
                    | omega
                    | skip
                      refine d_call (w2) (by simp [cAs, cE2, sev, svl, cen] <;> omega) ?_
                      intro rr M' hq
                      obtain ⟨hM', rfl⟩ := hq
                      rw [hM']
                      refine ⟨rfl, ?_⟩
                      exact wret1 n2 (by simp only [cE2, sev, svl, cen, List.cons_append, List.nil_append]; omega) (by omega) ⟨rfl, by unfold cAn; (repeat' split) <;> first | rfl | omega⟩
                  · simp only [cCmp, cE2, sev, svl, cen, List.cons_append, List.nil_append] at h
                    first
                    | omega
                    | skip
                      refine d_br (fun h => ?_) (fun h => ?_)
                      · simp only [cCmp, cE2, sev, svl, cen, List.cons_append, List.nil_append] at h
                        first
                        | omega
                        | skip
                          refine d_call (w3) (by simp [cAs, cE2, sev, svl, cen] <;> omega) ?_
                          intro rr M' hq
                          obtain ⟨hM', rfl⟩ := hq
                          rw [hM']
                          refine ⟨rfl, ?_⟩
                          exact wret1 n3 (by simp only [cE2, sev, svl, cen, List.cons_append, List.nil_append]; omega) (by omega) ⟨rfl, by unfold cAn; (repeat' split) <;> first | rfl | omega⟩
                      · simp only [cCmp, cE2, sev, svl, cen, List.cons_append, List.nil_append] at h
                        first
                        | omega
                        | skip
                          refine d_br (fun h => ?_) (fun h => ?_)
                          · simp only [cCmp, cE2, sev, svl, cen, List.cons_append, List.nil_append] at h
                            first
                            | omega
                            | skip
                              refine d_call (w4) (by simp [cAs, cE2, sev, svl, cen] <;> omega) ?_
                              intro rr M' hq
                              obtain ⟨hM', rfl⟩ := hq
                              rw [hM']
                              refine ⟨rfl, ?_⟩
                              exact wret1 n4 (by simp only [cE2, sev, svl, cen, List.cons_append, List.nil_append]; omega) (by omega) ⟨rfl, by unfold cAn; (repeat' split) <;> first | rfl | omega⟩
                          · simp only [cCmp, cE2, sev, svl, cen, List.cons_append, List.nil_append] at h
                            first
                            | omega
                            | skip
                              refine d_br (fun h => ?_) (fun h => ?_)
                              · simp only [cCmp, cE2, sev, svl, cen, List.cons_append, List.nil_append] at h
                                first
                                | omega
                                | skip
                                  refine d_call (w5) (by simp [cAs, cE2, sev, svl, cen] <;> omega) ?_
                                  intro rr M' hq
                                  obtain ⟨hM', rfl⟩ := hq
                                  rw [hM']
                                  refine ⟨rfl, ?_⟩
                                  exact wret1 n5 (by simp only [cE2, sev, svl, cen, List.cons_append, List.nil_append]; omega) (by omega) ⟨rfl, by unfold cAn; (repeat' split) <;> first | rfl | omega⟩
                              · simp only [cCmp, cE2, sev, svl, cen, List.cons_append, List.nil_append] at h
                                first
                                | omega
                                | skip
                                  refine d_br (fun h => ?_) (fun h => ?_)
                                  · simp only [cCmp, cE2, sev, svl, cen, List.cons_append, List.nil_append] at h
                                    first
                                    | omega
                                    | skip
                                      refine d_fld 0 (by simp only [cE2, sev, svl, cen, List.cons_append, List.nil_append]; omega) ?_
                                      exact wret1 (M 3 0 1) (by simp only [cE2, sev, svl, cen, List.cons_append, List.nil_append]; omega) (by omega) ⟨rfl, by unfold cAn; (repeat' split) <;> first | rfl | omega⟩
                                  · simp only [cCmp, cE2, sev, svl, cen, List.cons_append, List.nil_append] at h
                                    first
                                    | omega
                                    | skip
                                      omega
theorem m_count (hp : cPl tm tc tf EX) {a : Int} {M : SMem} (hI : sI tg M) : cBG tm tf EX l dC dI cA ad scrS (d + 2) kX10_count [(2, 1, 0), (0, 0, a)] M (fun rr MM => MM = supd M 1 0 0 0 ∧ rr = [cAn (cCt (M 17 0) 8) (cCt (M 22 0) 12) (cSm (fun p => if M 22 0 p = 0 then 0 else M 27 0 p) 12) (cSm (M 37 0) 6) (cCt (fun i => M 51 0 (0 + i)) 6) (cCt (fun i => M 51 0 (6 + i)) 6) (M 1 0 2) a]) := by
  have i0 : sI tg (supd M 1 0 0 0) := wI hI (lo := 0) (hi := 1) rfl ⟨by omega, by omega⟩
  have q17 : supd M 1 0 0 0 17 0 = M 17 0 := by funext i; exact supd_f (by decide)
  have q22 : supd M 1 0 0 0 22 0 = M 22 0 := by funext i; exact supd_f (by decide)
  have q27 : supd M 1 0 0 0 27 0 = M 27 0 := by funext i; exact supd_f (by decide)
  have q37 : supd M 1 0 0 0 37 0 = M 37 0 := by funext i; exact supd_f (by decide)
  have q51 : supd M 1 0 0 0 51 0 = M 51 0 := by funext i; exact supd_f (by decide)
  have q2 : supd M 1 0 0 0 1 0 2 = M 1 0 2 := supd_i (by decide)
  rw [← q17, ← q22, ← q27, ← q37, ← q51, ← q2]
  refine cMeth (v := [a]) (Fd := 90) hp (by decide) gX10_count_ok gX10_count_m0 (by simp [cAs, cE2, sev, svl, cen]) ?_
  refine cEnds_at gX10_count_m0 rfl ?_
  refine d_put 0 0 (by simp only [cE2, sev, svl, cen, List.cons_append, List.nil_append]; omega) (by simp only [cE2, sev, svl, cen, List.cons_append, List.nil_append]; omega) ?_
  obtain ⟨M0, hM0⟩ : ∃ M0, M0 = supd M 1 0 0 0 := ⟨_, rfl⟩
  rw [← hM0] at i0 ⊢
  have b27 : ∀ k, 0 ≤ (fun p => if M0 22 0 p = 0 then 0 else M0 27 0 p) k ∧ (fun p => if M0 22 0 p = 0 then 0 else M0 27 0 p) k ≤ 12 := fun k => by
    have b := wIb (f := 27) (i := k) (lo := 0) (hi := 6) i0 0 rfl
    dsimp only
    split <;> omega
  have b37 : ∀ k, 0 ≤ M0 37 0 k ∧ M0 37 0 k ≤ 12 := fun k => wIb (f := 37) (i := k) (lo := 0) (hi := 12) i0 0 rfl
  have b2 := wIb (f := 1) (i := 2) (lo := 0) (hi := 1000) i0 0 rfl
  have l54 : ∀ (m k : Nat), k + m = 8 → cEnds (cBG tm tf EX l dC dI cA ad scrS (d + 1)) (fun rr MM => MM = M0 ∧ rr = [cCt (M0 17 0) 8]) 90 gX10_count 54 [cCt (M0 17 0) k, (k : Int)] M0 := by
    intro m
    induction m with
    | zero =>
      intro k hk
      have hk : k = 8 := hk
      subst hk
      have b := cCt_b (M0 17 0) 8
      refine cEnds_at gX10_count_m54 rfl ?_
      refine d_br (fun h => ?_) (fun h => ?_)
      · simp only [cCmp, cE2, sev, svl, cen, List.cons_append, List.nil_append] at h
        first
        | omega
        | skip
          exact wret1 (cCt (M0 17 0) 8) (by simp only [cE2, sev, svl, cen, List.cons_append, List.nil_append]; omega) (by omega) ⟨rfl, rfl⟩
      · simp only [cCmp, cE2, sev, svl, cen, List.cons_append, List.nil_append] at h
        first
        | omega
        | skip
          refine d_row 0 (8) (by simp only [cE2, sev, svl, cen, List.cons_append, List.nil_append]; omega) (by simp only [cE2, sev, svl, cen, List.cons_append, List.nil_append]; omega) (by omega) ?_
          refine d_br (fun h => ?_) (fun h => ?_)
          · simp only [cCmp, cE2, sev, svl, cen, List.cons_append, List.nil_append] at h
            first
            | omega
            | skip
              refine d_rng (by simp only [clo, chi, cE2, sev, svl, cen, List.cons_append, List.nil_append]; omega) ?_
              refine d_rng (by simp only [clo, chi, cE2, sev, svl, cen, List.cons_append, List.nil_append]; omega) ?_
              refine d_cut [(cCt (M0 17 0) 8), (((8 : Nat) : Int) + 1)] (by simp [cE2, sev, svl, cen] <;> omega) ?_
              exact (by omega)
          · simp only [cCmp, cE2, sev, svl, cen, List.cons_append, List.nil_append] at h
            first
            | omega
            | skip
              refine d_rng (by simp only [clo, chi, cE2, sev, svl, cen, List.cons_append, List.nil_append]; omega) ?_
              refine d_rng (by simp only [clo, chi, cE2, sev, svl, cen, List.cons_append, List.nil_append]; omega) ?_
              refine d_cut [((cCt (M0 17 0) 8) + 1), (((8 : Nat) : Int) + 1)] (by simp [cE2, sev, svl, cen] <;> omega) ?_
              exact (by omega)
    | succ m ih =>
      intro k hk
      have ih := ih (k + 1) (by omega)
      have b := cCt_b (M0 17 0) k
      have e : cCt (M0 17 0) (k + 1) = cCt (M0 17 0) k + (if M0 17 0 k = 0 then 0 else 1) := rfl
      rw [e] at ih
      obtain ⟨X, hX⟩ : ∃ X, X = cCt (M0 17 0) k := ⟨_, rfl⟩
      rw [← hX] at ih b ⊢
      refine cEnds_at gX10_count_m54 rfl ?_
      refine d_br (fun h => ?_) (fun h => ?_)
      · simp only [cCmp, cE2, sev, svl, cen, List.cons_append, List.nil_append] at h
        first
        | omega
        | skip
          exact wret1 X (by simp only [cE2, sev, svl, cen, List.cons_append, List.nil_append]; omega) (by omega) (by omega)
      · simp only [cCmp, cE2, sev, svl, cen, List.cons_append, List.nil_append] at h
        first
        | omega
        | skip
          refine d_row 0 k (by simp only [cE2, sev, svl, cen, List.cons_append, List.nil_append]; omega) (by simp only [cE2, sev, svl, cen, List.cons_append, List.nil_append]; omega) (by omega) ?_
          refine d_br (fun h => ?_) (fun h => ?_)
          · simp only [cCmp, cE2, sev, svl, cen, List.cons_append, List.nil_append] at h
            first
            | omega
            | skip
              refine d_rng (by simp only [clo, chi, cE2, sev, svl, cen, List.cons_append, List.nil_append]; omega) ?_
              refine d_rng (by simp only [clo, chi, cE2, sev, svl, cen, List.cons_append, List.nil_append]; omega) ?_
              rw [if_pos (by omega)] at ih
              refine d_cut [X + 0, ((k + 1 : Nat) : Int)] (by simp [cE2, sev, svl, cen] <;> omega) ?_
              exact ih
          · simp only [cCmp, cE2, sev, svl, cen, List.cons_append, List.nil_append] at h
            first
            | omega
            | skip
              refine d_rng (by simp only [clo, chi, cE2, sev, svl, cen, List.cons_append, List.nil_append]; omega) ?_
              refine d_rng (by simp only [clo, chi, cE2, sev, svl, cen, List.cons_append, List.nil_append]; omega) ?_
              rw [if_neg (by omega)] at ih
              refine d_cut [X + 1, ((k + 1 : Nat) : Int)] (by simp [cE2, sev, svl, cen] <;> omega) ?_
              exact ih
  have l87 : ∀ (m k : Nat), k + m = 12 → cEnds (cBG tm tf EX l dC dI cA ad scrS (d + 1)) (fun rr MM => MM = M0 ∧ rr = [cCt (M0 22 0) 12]) 90 gX10_count 87 [cCt (M0 22 0) k, (k : Int)] M0 := by
    intro m
    induction m with
    | zero =>
      intro k hk
      have hk : k = 12 := hk
      subst hk
      have b := cCt_b (M0 22 0) 12
      refine cEnds_at gX10_count_m87 rfl ?_
      refine d_br (fun h => ?_) (fun h => ?_)
      · simp only [cCmp, cE2, sev, svl, cen, List.cons_append, List.nil_append] at h
        first
        | omega
        | skip
          exact wret1 (cCt (M0 22 0) 12) (by simp only [cE2, sev, svl, cen, List.cons_append, List.nil_append]; omega) (by omega) ⟨rfl, rfl⟩
      · simp only [cCmp, cE2, sev, svl, cen, List.cons_append, List.nil_append] at h
        first
        | omega
        | skip
          refine d_row 0 (12) (by simp only [cE2, sev, svl, cen, List.cons_append, List.nil_append]; omega) (by simp only [cE2, sev, svl, cen, List.cons_append, List.nil_append]; omega) (by omega) ?_
          refine d_br (fun h => ?_) (fun h => ?_)
          · simp only [cCmp, cE2, sev, svl, cen, List.cons_append, List.nil_append] at h
            first
            | omega
            | skip
              refine d_rng (by simp only [clo, chi, cE2, sev, svl, cen, List.cons_append, List.nil_append]; omega) ?_
              refine d_rng (by simp only [clo, chi, cE2, sev, svl, cen, List.cons_append, List.nil_append]; omega) ?_
              refine d_cut [(cCt (M0 22 0) 12), (((12 : Nat) : Int) + 1)] (by simp [cE2, sev, svl, cen] <;> omega) ?_
              exact (by omega)
          · simp only [cCmp, cE2, sev, svl, cen, List.cons_append, List.nil_append] at h
            first
            | omega
            | skip
              refine d_rng (by simp only [clo, chi, cE2, sev, svl, cen, List.cons_append, List.nil_append]; omega) ?_
              refine d_rng (by simp only [clo, chi, cE2, sev, svl, cen, List.cons_append, List.nil_append]; omega) ?_
              refine d_cut [((cCt (M0 22 0) 12) + 1), (((12 : Nat) : Int) + 1)] (by simp [cE2, sev, svl, cen] <;> omega) ?_
              exact (by omega)
    | succ m ih =>
      intro k hk
      have ih := ih (k + 1) (by omega)
      have b := cCt_b (M0 22 0) k
      have e : cCt (M0 22 0) (k + 1) = cCt (M0 22 0) k + (if M0 22 0 k = 0 then 0 else 1) := rfl
      rw [e] at ih
      obtain ⟨X, hX⟩ : ∃ X, X = cCt (M0 22 0) k := ⟨_, rfl⟩
      rw [← hX] at ih b ⊢
      refine cEnds_at gX10_count_m87 rfl ?_
      refine d_br (fun h => ?_) (fun h => ?_)
      · simp only [cCmp, cE2, sev, svl, cen, List.cons_append, List.nil_append] at h
        first
        | omega
        | skip
          exact wret1 X (by simp only [cE2, sev, svl, cen, List.cons_append, List.nil_append]; omega) (by omega) (by omega)
      · simp only [cCmp, cE2, sev, svl, cen, List.cons_append, List.nil_append] at h
        first
        | omega
        | skip
          refine d_row 0 k (by simp only [cE2, sev, svl, cen, List.cons_append, List.nil_append]; omega) (by simp only [cE2, sev, svl, cen, List.cons_append, List.nil_append]; omega) (by omega) ?_
          refine d_br (fun h => ?_) (fun h => ?_)
          · simp only [cCmp, cE2, sev, svl, cen, List.cons_append, List.nil_append] at h
            first
            | omega
            | skip
              refine d_rng (by simp only [clo, chi, cE2, sev, svl, cen, List.cons_append, List.nil_append]; omega) ?_
              refine d_rng (by simp only [clo, chi, cE2, sev, svl, cen, List.cons_append, List.nil_append]; omega) ?_
              rw [if_pos (by omega)] at ih
              refine d_cut [X + 0, ((k + 1 : Nat) : Int)] (by simp [cE2, sev, svl, cen] <;> omega) ?_
              exact ih
          · simp only [cCmp, cE2, sev, svl, cen, List.cons_append, List.nil_append] at h
            first
            | omega
            | skip
              refine d_rng (by simp only [clo, chi, cE2, sev, svl, cen, List.cons_append, List.nil_append]; omega) ?_
              refine d_rng (by simp only [clo, chi, cE2, sev, svl, cen, List.cons_append, List.nil_append]; omega) ?_
              rw [if_neg (by omega)] at ih
              refine d_cut [X + 1, ((k + 1 : Nat) : Int)] (by simp [cE2, sev, svl, cen] <;> omega) ?_
              exact ih
  have l120 : ∀ (m k : Nat), k + m = 12 → cEnds (cBG tm tf EX l dC dI cA ad scrS (d + 1)) (fun rr MM => MM = M0 ∧ rr = [cSm (fun p => if M0 22 0 p = 0 then 0 else M0 27 0 p) 12]) 90 gX10_count 120 [cSm (fun p => if M0 22 0 p = 0 then 0 else M0 27 0 p) k, (k : Int)] M0 := by
    intro m
    induction m with
    | zero =>
      intro k hk
      have hk : k = 12 := hk
      subst hk
      have b := cSm_b b27 12
      refine cEnds_at gX10_count_m120 rfl ?_
      refine d_br (fun h => ?_) (fun h => ?_)
      · simp only [cCmp, cE2, sev, svl, cen, List.cons_append, List.nil_append] at h
        first
        | omega
        | skip
          exact wret1 (cSm (fun p => if M0 22 0 p = 0 then 0 else M0 27 0 p) 12) (by simp only [cE2, sev, svl, cen, List.cons_append, List.nil_append]; omega) (by omega) ⟨rfl, rfl⟩
      · simp only [cCmp, cE2, sev, svl, cen, List.cons_append, List.nil_append] at h
        first
        | omega
        | skip
          refine d_row 0 (12) (by simp only [cE2, sev, svl, cen, List.cons_append, List.nil_append]; omega) (by simp only [cE2, sev, svl, cen, List.cons_append, List.nil_append]; omega) (by omega) ?_
          refine d_br (fun h => ?_) (fun h => ?_)
          · simp only [cCmp, cE2, sev, svl, cen, List.cons_append, List.nil_append] at h
            first
            | omega
            | skip
              refine d_rng (by simp only [clo, chi, cE2, sev, svl, cen, List.cons_append, List.nil_append]; omega) ?_
              refine d_rng (by simp only [clo, chi, cE2, sev, svl, cen, List.cons_append, List.nil_append]; omega) ?_
              refine d_cut [(cSm (fun p => if M0 22 0 p = 0 then 0 else M0 27 0 p) 12), (((12 : Nat) : Int) + 1)] (by simp [cE2, sev, svl, cen] <;> omega) ?_
              exact (by omega)
          · simp only [cCmp, cE2, sev, svl, cen, List.cons_append, List.nil_append] at h
            first
            | omega
            | skip
              refine d_row 0 (12) (by simp only [cE2, sev, svl, cen, List.cons_append, List.nil_append]; omega) (by simp only [cE2, sev, svl, cen, List.cons_append, List.nil_append]; omega) (by omega) ?_
              refine d_rng (by simp only [clo, chi, cE2, sev, svl, cen, List.cons_append, List.nil_append]; omega) ?_
              refine d_rng (by simp only [clo, chi, cE2, sev, svl, cen, List.cons_append, List.nil_append]; omega) ?_
              refine d_cut [((cSm (fun p => if M0 22 0 p = 0 then 0 else M0 27 0 p) 12) + (M0 27 0 (12))), (((12 : Nat) : Int) + 1)] (by simp [cE2, sev, svl, cen] <;> omega) ?_
              exact (by omega)
    | succ m ih =>
      intro k hk
      have ih := ih (k + 1) (by omega)
      have b := cSm_b b27 k
      have e : cSm (fun p => if M0 22 0 p = 0 then 0 else M0 27 0 p) (k + 1) = cSm (fun p => if M0 22 0 p = 0 then 0 else M0 27 0 p) k + (if M0 22 0 k = 0 then 0 else M0 27 0 k) := rfl
      rw [e] at ih
      have b9 := wIb (f := 27) (i := k) (lo := 0) (hi := 6) i0 0 rfl
      obtain ⟨X, hX⟩ : ∃ X, X = cSm (fun p => if M0 22 0 p = 0 then 0 else M0 27 0 p) k := ⟨_, rfl⟩
      rw [← hX] at ih b ⊢
      refine cEnds_at gX10_count_m120 rfl ?_
      refine d_br (fun h => ?_) (fun h => ?_)
      · simp only [cCmp, cE2, sev, svl, cen, List.cons_append, List.nil_append] at h
        first
        | omega
        | skip
          exact wret1 X (by simp only [cE2, sev, svl, cen, List.cons_append, List.nil_append]; omega) (by omega) (by omega)
      · simp only [cCmp, cE2, sev, svl, cen, List.cons_append, List.nil_append] at h
        first
        | omega
        | skip
          refine d_row 0 k (by simp only [cE2, sev, svl, cen, List.cons_append, List.nil_append]; omega) (by simp only [cE2, sev, svl, cen, List.cons_append, List.nil_append]; omega) (by omega) ?_
          refine d_br (fun h => ?_) (fun h => ?_)
          · simp only [cCmp, cE2, sev, svl, cen, List.cons_append, List.nil_append] at h
            first
            | omega
            | skip
              refine d_rng (by simp only [clo, chi, cE2, sev, svl, cen, List.cons_append, List.nil_append]; omega) ?_
              refine d_rng (by simp only [clo, chi, cE2, sev, svl, cen, List.cons_append, List.nil_append]; omega) ?_
              rw [if_pos (by omega)] at ih
              refine d_cut [X + 0, ((k + 1 : Nat) : Int)] (by simp [cE2, sev, svl, cen] <;> omega) ?_
              exact ih
          · simp only [cCmp, cE2, sev, svl, cen, List.cons_append, List.nil_append] at h
            first
            | omega
            | skip
              refine d_row 0 k (by simp only [cE2, sev, svl, cen, List.cons_append, List.nil_append]; omega) (by simp only [cE2, sev, svl, cen, List.cons_append, List.nil_append]; omega) (by omega) ?_
              refine d_rng (by simp only [clo, chi, cE2, sev, svl, cen, List.cons_append, List.nil_append]; omega) ?_
              refine d_rng (by simp only [clo, chi, cE2, sev, svl, cen, List.cons_append, List.nil_append]; omega) ?_
              rw [if_neg (by omega)] at ih
              refine d_cut [X + M0 27 0 k, ((k + 1 : Nat) : Int)] (by simp [cE2, sev, svl, cen] <;> omega) ?_
              exact ih
  have l158 : ∀ (m k : Nat), k + m = 6 → cEnds (cBG tm tf EX l dC dI cA ad scrS (d + 1)) (fun rr MM => MM = M0 ∧ rr = [cSm (M0 37 0) 6]) 90 gX10_count 158 [cSm (M0 37 0) k, (k : Int)] M0 := by
    intro m
    induction m with
    | zero =>
      intro k hk
      have hk : k = 6 := hk
      subst hk
      have b := cSm_b b37 6
      refine cEnds_at gX10_count_m158 rfl ?_
      refine d_br (fun h => ?_) (fun h => ?_)
      · simp only [cCmp, cE2, sev, svl, cen, List.cons_append, List.nil_append] at h
        first
        | omega
        | skip
          exact wret1 (cSm (M0 37 0) 6) (by simp only [cE2, sev, svl, cen, List.cons_append, List.nil_append]; omega) (by omega) ⟨rfl, rfl⟩
      · simp only [cCmp, cE2, sev, svl, cen, List.cons_append, List.nil_append] at h
        first
        | omega
        | skip
          refine d_row 0 (6) (by simp only [cE2, sev, svl, cen, List.cons_append, List.nil_append]; omega) (by simp only [cE2, sev, svl, cen, List.cons_append, List.nil_append]; omega) (by omega) ?_
          refine d_rng (by simp only [clo, chi, cE2, sev, svl, cen, List.cons_append, List.nil_append]; omega) ?_
          refine d_rng (by simp only [clo, chi, cE2, sev, svl, cen, List.cons_append, List.nil_append]; omega) ?_
          refine d_cut [((cSm (M0 37 0) 6) + (M0 37 0 (6))), (((6 : Nat) : Int) + 1)] (by simp [cE2, sev, svl, cen] <;> omega) ?_
          exact (by omega)
    | succ m ih =>
      intro k hk
      have ih := ih (k + 1) (by omega)
      have b := cSm_b b37 k
      have e : cSm (M0 37 0) (k + 1) = cSm (M0 37 0) k + M0 37 0 k := rfl
      rw [e] at ih
      have b9 := b37 k
      obtain ⟨X, hX⟩ : ∃ X, X = cSm (M0 37 0) k := ⟨_, rfl⟩
      rw [← hX] at ih b ⊢
      refine cEnds_at gX10_count_m158 rfl ?_
      refine d_br (fun h => ?_) (fun h => ?_)
      · simp only [cCmp, cE2, sev, svl, cen, List.cons_append, List.nil_append] at h
        first
        | omega
        | skip
          exact wret1 X (by simp only [cE2, sev, svl, cen, List.cons_append, List.nil_append]; omega) (by omega) (by omega)
      · simp only [cCmp, cE2, sev, svl, cen, List.cons_append, List.nil_append] at h
        first
        | omega
        | skip
          refine d_row 0 k (by simp only [cE2, sev, svl, cen, List.cons_append, List.nil_append]; omega) (by simp only [cE2, sev, svl, cen, List.cons_append, List.nil_append]; omega) (by omega) ?_
          refine d_rng (by simp only [clo, chi, cE2, sev, svl, cen, List.cons_append, List.nil_append]; omega) ?_
          refine d_rng (by simp only [clo, chi, cE2, sev, svl, cen, List.cons_append, List.nil_append]; omega) ?_
          refine d_cut [X + M0 37 0 k, ((k + 1 : Nat) : Int)] (by simp [cE2, sev, svl, cen] <;> omega) ?_
          exact ih
  have l183_4 : ∀ (m k : Nat), k + m = 6 → cEnds (cBG tm tf EX l dC dI cA ad scrS (d + 1)) (fun rr MM => MM = M0 ∧ rr = [cCt (fun i => M0 51 0 (0 + i)) 6]) 90 gX10_count 183 [4, cCt (fun i => M0 51 0 (0 + i)) k, (k : Int)] M0 := by
    intro m
    induction m with
    | zero =>
      intro k hk
      have hk : k = 6 := hk
      subst hk
      have b := cCt_b (fun i => M0 51 0 (0 + i)) 6
      refine cEnds_at gX10_count_m183 rfl ?_
      refine d_br (fun h => ?_) (fun h => ?_)
      · simp only [cCmp, cE2, sev, svl, cen, List.cons_append, List.nil_append] at h
        first
        | omega
        | skip
          exact wret1 (cCt (fun i => M0 51 0 (0 + i)) 6) (by simp only [cE2, sev, svl, cen, List.cons_append, List.nil_append]; omega) (by omega) ⟨rfl, rfl⟩
      · simp only [cCmp, cE2, sev, svl, cen, List.cons_append, List.nil_append] at h
        first
        | omega
        | skip
          refine d_br (fun h => ?_) (fun h => ?_)
          · simp only [cCmp, cE2, sev, svl, cen, List.cons_append, List.nil_append] at h
            omega
          · clear h
            refine d_row 0 (6) (by simp only [cE2, sev, svl, cen, List.cons_append, List.nil_append]; omega) (by simp only [cE2, sev, svl, cen, List.cons_append, List.nil_append]; omega) (by omega) ?_
            refine d_br (fun h => ?_) (fun h => ?_)
            · simp only [cCmp, cE2, sev, svl, cen, List.cons_append, List.nil_append] at h
              first
              | omega
              | skip
                refine d_rng (by simp only [clo, chi, cE2, sev, svl, cen, List.cons_append, List.nil_append]; omega) ?_
                refine d_rng (by simp only [clo, chi, cE2, sev, svl, cen, List.cons_append, List.nil_append]; omega) ?_
                refine d_cut [4, (cCt (fun i => M0 51 0 (0 + i)) 6), (((6 : Nat) : Int) + 1)] (by simp [cE2, sev, svl, cen] <;> omega) ?_
                exact (by omega)
            · simp only [cCmp, cE2, sev, svl, cen, List.cons_append, List.nil_append] at h
              first
              | omega
              | skip
                refine d_rng (by simp only [clo, chi, cE2, sev, svl, cen, List.cons_append, List.nil_append]; omega) ?_
                refine d_rng (by simp only [clo, chi, cE2, sev, svl, cen, List.cons_append, List.nil_append]; omega) ?_
                refine d_cut [4, ((cCt (fun i => M0 51 0 (0 + i)) 6) + 1), (((6 : Nat) : Int) + 1)] (by simp [cE2, sev, svl, cen] <;> omega) ?_
                exact (by omega)
    | succ m ih =>
      intro k hk
      have ih := ih (k + 1) (by omega)
      have b := cCt_b (fun i => M0 51 0 (0 + i)) k
      have e : cCt (fun i => M0 51 0 (0 + i)) (k + 1) = cCt (fun i => M0 51 0 (0 + i)) k + (if M0 51 0 k = 0 then 0 else 1) := by
        show cCt (fun i => M0 51 0 (0 + i)) k + (if M0 51 0 (0 + k) = 0 then 0 else 1) = _
        rw [Nat.zero_add]
      rw [e] at ih
      obtain ⟨X, hX⟩ : ∃ X, X = cCt (fun i => M0 51 0 (0 + i)) k := ⟨_, rfl⟩
      rw [← hX] at ih b ⊢
      refine cEnds_at gX10_count_m183 rfl ?_
      refine d_br (fun h => ?_) (fun h => ?_)
      · simp only [cCmp, cE2, sev, svl, cen, List.cons_append, List.nil_append] at h
        first
        | omega
        | skip
          exact wret1 X (by simp only [cE2, sev, svl, cen, List.cons_append, List.nil_append]; omega) (by omega) (by omega)
      · simp only [cCmp, cE2, sev, svl, cen, List.cons_append, List.nil_append] at h
        first
        | omega
        | skip
          refine d_br (fun h => ?_) (fun h => ?_)
          · simp only [cCmp, cE2, sev, svl, cen, List.cons_append, List.nil_append] at h
            omega
          · clear h
            refine d_row 0 k (by simp only [cE2, sev, svl, cen, List.cons_append, List.nil_append]; omega) (by simp only [cE2, sev, svl, cen, List.cons_append, List.nil_append]; omega) (by omega) ?_
            refine d_br (fun h => ?_) (fun h => ?_)
            · simp only [cCmp, cE2, sev, svl, cen, List.cons_append, List.nil_append] at h
              first
              | omega
              | skip
                refine d_rng (by simp only [clo, chi, cE2, sev, svl, cen, List.cons_append, List.nil_append]; omega) ?_
                refine d_rng (by simp only [clo, chi, cE2, sev, svl, cen, List.cons_append, List.nil_append]; omega) ?_
                rw [if_pos (by omega)] at ih
                refine d_cut [4, X + 0, ((k + 1 : Nat) : Int)] (by simp [cE2, sev, svl, cen] <;> omega) ?_
                exact ih
            · simp only [cCmp, cE2, sev, svl, cen, List.cons_append, List.nil_append] at h
              first
              | omega
              | skip
                refine d_rng (by simp only [clo, chi, cE2, sev, svl, cen, List.cons_append, List.nil_append]; omega) ?_
                refine d_rng (by simp only [clo, chi, cE2, sev, svl, cen, List.cons_append, List.nil_append]; omega) ?_
                rw [if_neg (by omega)] at ih
                refine d_cut [4, X + 1, ((k + 1 : Nat) : Int)] (by simp [cE2, sev, svl, cen] <;> omega) ?_
                exact ih
  have l183_5 : ∀ (m k : Nat), k + m = 6 → cEnds (cBG tm tf EX l dC dI cA ad scrS (d + 1)) (fun rr MM => MM = M0 ∧ rr = [cCt (fun i => M0 51 0 (6 + i)) 6]) 90 gX10_count 183 [5, cCt (fun i => M0 51 0 (6 + i)) k, (k : Int)] M0 := by
    intro m
    induction m with
    | zero =>
      intro k hk
      have hk : k = 6 := hk
      subst hk
      have b := cCt_b (fun i => M0 51 0 (6 + i)) 6
      refine cEnds_at gX10_count_m183 rfl ?_
      refine d_br (fun h => ?_) (fun h => ?_)
      · simp only [cCmp, cE2, sev, svl, cen, List.cons_append, List.nil_append] at h
        first
        | omega
        | skip
          exact wret1 (cCt (fun i => M0 51 0 (6 + i)) 6) (by simp only [cE2, sev, svl, cen, List.cons_append, List.nil_append]; omega) (by omega) ⟨rfl, rfl⟩
      · simp only [cCmp, cE2, sev, svl, cen, List.cons_append, List.nil_append] at h
        first
        | omega
        | skip
          refine d_br (fun h => ?_) (fun h => ?_)
          · clear h
            refine d_rng (by simp only [clo, chi, cE2, sev, svl, cen, List.cons_append, List.nil_append]; omega) ?_
            refine d_row 0 ((6) + 6) (by simp only [cE2, sev, svl, cen, List.cons_append, List.nil_append]; omega) (by simp only [cE2, sev, svl, cen, List.cons_append, List.nil_append]; omega) (by omega) ?_
            refine d_br (fun h => ?_) (fun h => ?_)
            · simp only [cCmp, cE2, sev, svl, cen, List.cons_append, List.nil_append] at h
              first
              | omega
              | skip
                refine d_rng (by simp only [clo, chi, cE2, sev, svl, cen, List.cons_append, List.nil_append]; omega) ?_
                refine d_rng (by simp only [clo, chi, cE2, sev, svl, cen, List.cons_append, List.nil_append]; omega) ?_
                refine d_cut [5, (cCt (fun i => M0 51 0 (6 + i)) 6), (((6 : Nat) : Int) + 1)] (by simp [cE2, sev, svl, cen] <;> omega) ?_
                exact (by omega)
            · simp only [cCmp, cE2, sev, svl, cen, List.cons_append, List.nil_append] at h
              first
              | omega
              | skip
                refine d_rng (by simp only [clo, chi, cE2, sev, svl, cen, List.cons_append, List.nil_append]; omega) ?_
                refine d_rng (by simp only [clo, chi, cE2, sev, svl, cen, List.cons_append, List.nil_append]; omega) ?_
                refine d_cut [5, ((cCt (fun i => M0 51 0 (6 + i)) 6) + 1), (((6 : Nat) : Int) + 1)] (by simp [cE2, sev, svl, cen] <;> omega) ?_
                exact (by omega)
          · simp only [cCmp, cE2, sev, svl, cen, List.cons_append, List.nil_append] at h
            omega
    | succ m ih =>
      intro k hk
      have ih := ih (k + 1) (by omega)
      have b := cCt_b (fun i => M0 51 0 (6 + i)) k
      have e : cCt (fun i => M0 51 0 (6 + i)) (k + 1) = cCt (fun i => M0 51 0 (6 + i)) k + (if M0 51 0 (k + 6) = 0 then 0 else 1) := by
        show cCt (fun i => M0 51 0 (6 + i)) k + (if M0 51 0 (6 + k) = 0 then 0 else 1) = _
        rw [Nat.add_comm 6 k]
      rw [e] at ih
      obtain ⟨X, hX⟩ : ∃ X, X = cCt (fun i => M0 51 0 (6 + i)) k := ⟨_, rfl⟩
      rw [← hX] at ih b ⊢
      refine cEnds_at gX10_count_m183 rfl ?_
      refine d_br (fun h => ?_) (fun h => ?_)
      · simp only [cCmp, cE2, sev, svl, cen, List.cons_append, List.nil_append] at h
        first
        | omega
        | skip
          exact wret1 X (by simp only [cE2, sev, svl, cen, List.cons_append, List.nil_append]; omega) (by omega) (by omega)
      · simp only [cCmp, cE2, sev, svl, cen, List.cons_append, List.nil_append] at h
        first
        | omega
        | skip
          refine d_br (fun h => ?_) (fun h => ?_)
          · clear h
            refine d_rng (by simp only [clo, chi, cE2, sev, svl, cen, List.cons_append, List.nil_append]; omega) ?_
            refine d_row 0 (k + 6) (by simp only [cE2, sev, svl, cen, List.cons_append, List.nil_append]; omega) (by simp only [cE2, sev, svl, cen, List.cons_append, List.nil_append]; omega) (by omega) ?_
            refine d_br (fun h => ?_) (fun h => ?_)
            · simp only [cCmp, cE2, sev, svl, cen, List.cons_append, List.nil_append] at h
              first
              | omega
              | skip
                refine d_rng (by simp only [clo, chi, cE2, sev, svl, cen, List.cons_append, List.nil_append]; omega) ?_
                refine d_rng (by simp only [clo, chi, cE2, sev, svl, cen, List.cons_append, List.nil_append]; omega) ?_
                rw [if_pos (by omega)] at ih
                refine d_cut [5, X + 0, ((k + 1 : Nat) : Int)] (by simp [cE2, sev, svl, cen] <;> omega) ?_
                exact ih
            · simp only [cCmp, cE2, sev, svl, cen, List.cons_append, List.nil_append] at h
              first
              | omega
              | skip
                refine d_rng (by simp only [clo, chi, cE2, sev, svl, cen, List.cons_append, List.nil_append]; omega) ?_
                refine d_rng (by simp only [clo, chi, cE2, sev, svl, cen, List.cons_append, List.nil_append]; omega) ?_
                rw [if_neg (by omega)] at ih
                refine d_cut [5, X + 1, ((k + 1 : Nat) : Int)] (by simp [cE2, sev, svl, cen] <;> omega) ?_
                exact ih
          · simp only [cCmp, cE2, sev, svl, cen, List.cons_append, List.nil_append] at h
            omega
  have mo : ∀ {pc : Nat} {v : List Int} {X : Int}, cEnds (cBG tm tf EX l dC dI cA ad scrS (d + 1)) (fun rr MM => MM = M0 ∧ rr = [X]) 90 gX10_count pc v M0 → X = cAn (cCt (M0 17 0) 8) (cCt (M0 22 0) 12) (cSm (fun p => if M0 22 0 p = 0 then 0 else M0 27 0 p) 12) (cSm (M0 37 0) 6) (cCt (fun i => M0 51 0 (0 + i)) 6) (cCt (fun i => M0 51 0 (6 + i)) 6) (M0 1 0 2) a → cEnds (cBG tm tf EX l dC dI cA ad scrS (d + 1)) (fun rr MM => MM = M0 ∧ rr = [cAn (cCt (M0 17 0) 8) (cCt (M0 22 0) 12) (cSm (fun p => if M0 22 0 p = 0 then 0 else M0 27 0 p) 12) (cSm (M0 37 0) 6) (cCt (fun i => M0 51 0 (0 + i)) 6) (cCt (fun i => M0 51 0 (6 + i)) 6) (M0 1 0 2) a]) 90 gX10_count pc v M0 := fun h e => by rw [← e]; exact h
  refine d_br (fun h => ?_) (fun h => ?_)
  · simp only [cCmp, cE2, sev, svl, cen, List.cons_append, List.nil_append] at h
    first
    | omega
    | skip
      exact d_ret [(-1)] rfl (by decide) ⟨rfl, by unfold cAn; (repeat' split) <;> first | rfl | omega⟩
  · simp only [cCmp, cE2, sev, svl, cen, List.cons_append, List.nil_append] at h
    first
    | omega
    | skip
      refine d_br (fun h => ?_) (fun h => ?_)
      · simp only [cCmp, cE2, sev, svl, cen, List.cons_append, List.nil_append] at h
        first
        | omega
        | skip
          exact d_ret [(-1)] rfl (by decide) ⟨rfl, by unfold cAn; (repeat' split) <;> first | rfl | omega⟩
      · simp only [cCmp, cE2, sev, svl, cen, List.cons_append, List.nil_append] at h
        first
        | omega
        | skip
          refine d_br (fun h => ?_) (fun h => ?_)
          · simp only [cCmp, cE2, sev, svl, cen, List.cons_append, List.nil_append] at h
            first
            | omega
            | skip
              refine d_cut [0, ((0 : Nat) : Int)] (by simp [cE2, sev, svl, cen] <;> omega) ?_
              exact mo (l54 8 0 (by omega)) (by unfold cAn; (repeat' split) <;> first | rfl | omega)
          · simp only [cCmp, cE2, sev, svl, cen, List.cons_append, List.nil_append] at h
            first
            | omega
            | skip
              refine d_br (fun h => ?_) (fun h => ?_)
              · simp only [cCmp, cE2, sev, svl, cen, List.cons_append, List.nil_append] at h
                first
                | omega
                | skip
                  refine d_cut [0, ((0 : Nat) : Int)] (by simp [cE2, sev, svl, cen] <;> omega) ?_
                  exact mo (l87 12 0 (by omega)) (by unfold cAn; (repeat' split) <;> first | rfl | omega)
              · simp only [cCmp, cE2, sev, svl, cen, List.cons_append, List.nil_append] at h
                first
                | omega
                | skip
                  refine d_br (fun h => ?_) (fun h => ?_)
                  · simp only [cCmp, cE2, sev, svl, cen, List.cons_append, List.nil_append] at h
                    first
                    | omega
                    | skip
                      refine d_cut [0, ((0 : Nat) : Int)] (by simp [cE2, sev, svl, cen] <;> omega) ?_
                      exact mo (l120 12 0 (by omega)) (by unfold cAn; (repeat' split) <;> first | rfl | omega)
                  · simp only [cCmp, cE2, sev, svl, cen, List.cons_append, List.nil_append] at h
                    first
                    | omega
                    | skip
                      refine d_br (fun h => ?_) (fun h => ?_)
                      · simp only [cCmp, cE2, sev, svl, cen, List.cons_append, List.nil_append] at h
                        first
                        | omega
                        | skip
                          refine d_cut [0, ((0 : Nat) : Int)] (by simp [cE2, sev, svl, cen] <;> omega) ?_
                          exact mo (l158 6 0 (by omega)) (by unfold cAn; (repeat' split) <;> first | rfl | omega)
                      · simp only [cCmp, cE2, sev, svl, cen, List.cons_append, List.nil_append] at h
                        first
                        | omega
                        | skip
                          refine d_br (fun h => ?_) (fun h => ?_)
                          · simp only [cCmp, cE2, sev, svl, cen, List.cons_append, List.nil_append] at h
                            first
                            | omega
                            | skip
                              refine d_cut [4, 0, ((0 : Nat) : Int)] (by simp [cE2, sev, svl, cen] <;> omega) ?_
                              exact mo (l183_4 6 0 (by omega)) (by unfold cAn; (repeat' split) <;> first | rfl | omega)
                          · simp only [cCmp, cE2, sev, svl, cen, List.cons_append, List.nil_append] at h
                            first
                            | omega
                            | skip
                              refine d_br (fun h => ?_) (fun h => ?_)
                              · simp only [cCmp, cE2, sev, svl, cen, List.cons_append, List.nil_append] at h
                                first
                                | omega
                                | skip
                                  refine d_cut [5, 0, ((0 : Nat) : Int)] (by simp [cE2, sev, svl, cen] <;> omega) ?_
                                  exact mo (l183_5 6 0 (by omega)) (by unfold cAn; (repeat' split) <;> first | rfl | omega)
                              · simp only [cCmp, cE2, sev, svl, cen, List.cons_append, List.nil_append] at h
                                first
                                | omega
                                | skip
                                  refine d_br (fun h => ?_) (fun h => ?_)
                                  · simp only [cCmp, cE2, sev, svl, cen, List.cons_append, List.nil_append] at h
                                    first
                                    | omega
                                    | skip
                                      refine d_fld 0 (by simp only [cE2, sev, svl, cen, List.cons_append, List.nil_append]; omega) ?_
                                      exact wret1 (M0 1 0 2) (by simp only [cE2, sev, svl, cen, List.cons_append, List.nil_append]; omega) (by omega) ⟨rfl, by unfold cAn; (repeat' split) <;> first | rfl | omega⟩
                                  · simp only [cCmp, cE2, sev, svl, cen, List.cons_append, List.nil_append] at h
                                    first
                                    | omega
                                    | skip
                                      omega
end CR13
/-- both count the same -/
theorem cAn_both {M : SMem} {a : Int} (hI : sI tg M) (hR : Rc M) (hl : M 3 0 1 = M 1 0 2) : cAn (cCt (M 58 0) 8) (cCt (fun p => M 64 p 0) 12) (cSm (fun p => M 64 p 5) 12) (cSm (fun r => M 74 r 0) 6) (cCt (fun i => M 86 0 (0 + i)) 6) (cCt (fun i => M 86 0 (6 + i)) 6) (M 3 0 1) a = cAn (cCt (M 17 0) 8) (cCt (M 22 0) 12) (cSm (fun p => if M 22 0 p = 0 then 0 else M 27 0 p) 12) (cSm (M 37 0) 6) (cCt (fun i => M 51 0 (0 + i)) 6) (cCt (fun i => M 51 0 (6 + i)) 6) (M 1 0 2) a := by
  obtain ⟨⟨g, w1, w2, w3, w4, -⟩, -, h3, h4⟩ := hR
  have e0 : M 58 0 = M 17 0 := g.2.1
  have e1 : cCt (fun p => M 64 p 0) 12 = cCt (M 22 0) 12 := cCt_cg 12 (fun p hp => (w1 p hp).1)
  have e2 : cSm (fun p => M 64 p 5) 12 = cSm (fun p => if M 22 0 p = 0 then 0 else M 27 0 p) 12 := cSm_cg 12 (fun p hp => by
    have e5 := (w1 p hp).2.2.2.2.2
    rw [e5]
    split
    · rename_i z
      exact w4 p hp z
    · rfl)
  have e3 : cSm (fun r => M 74 r 0) 6 = cSm (M 37 0) 6 := cSm_cg 6 h3
  rw [e0, e1, e2, e3, h4, hl]
/-- behind count -/
theorem Rqc_ask {M : SMem} (hI : sI tg M) (hX : sX M) (hl : M 3 0 1 = M 1 0 2) (hR : Rc M) : Rqc M (supd M 1 0 0 0) := by
  have row : ∀ f, f ≠ 1 → supd M 1 0 0 0 f = M f := fun f y => supd_ff y
  refine ⟨wI hI (lo := 0) (hi := 1) rfl ⟨by omega, by omega⟩, Rc_congr (fun f hf => row f (fun z => ?_)) hR, sX_congr (row 29 (by decide)) (row 27 (by decide)) (row 50 (by decide)) hX, by rw [supd_f (by decide), supd_i (by decide), hl], fun f j i hf => supd_f (fun z => hf (by rw [z]; decide))⟩
  rw [z] at hf
  revert hf
  decide
