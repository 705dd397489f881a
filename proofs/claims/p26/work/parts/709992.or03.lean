/-! the class reads what a line asks: signs held back and let go -/
abbrev oPm (f i : Nat) : Prop := f = 76 ∨ f = 105 ∨ (f = 9 ∧ (i = 7 ∨ i = 9 ∨ i = 10 ∨ i = 11)) ∨ (f = 75 ∧ i = 1)
def oHd (H : Nat → Int) : List Nat → Prop
  | [] => True
  | a :: st => H st.length = (a : Int) ∧ oHd H st
theorem oHd_c {H H' : Nat → Int} : ∀ {st : List Nat}, (∀ i, i < st.length → H' i = H i) → oHd H st → oHd H' st := by
  intro st
  induction st with
  | nil => intro _ _; trivial
  | cons a st ih =>
    intro h g
    exact ⟨(h st.length (Nat.lt_succ_self _)).trans g.1, ih (fun i hi => h i (Nat.lt_succ_of_lt hi)) g.2⟩
abbrev oCd (H : Nat → Int) (c : List Int) : Prop := ∀ (k : Nat) (x : Int), c[k]? = some x → H k = x
theorem oCd_c {H H' : Nat → Int} {c : List Int} (h : ∀ i, i < c.length → H' i = H i) (g : oCd H c) : oCd H' c := fun k x hk => (h k (List.getElem?_eq_some_iff.mp hk).1).trans (g k x hk)
theorem oCd_s {H H' : Nat → Int} {c : List Int} {z : Int} (h : ∀ i, i < c.length → H' i = H i) (hz : H' c.length = z) (g : oCd H c) : oCd H' (c ++ [z]) := by
  intro k x hk
  rcases Nat.lt_or_ge k c.length with q | q
  · rw [List.getElem?_append_left q] at hk
    exact (h k q).trans (g k x hk)
  · rw [List.getElem?_append_right q] at hk
    have hk2 := (List.getElem?_eq_some_iff.mp hk).1
    have e : k = c.length := by
      have : k - c.length < 1 := hk2
      omega
    subst e
    rw [Nat.sub_self] at hk
    cases hk
    exact hz
/-- what waits, how deep, whether a part is next, the codes so far -/
abbrev oCS (M : SMem) (st : List Nat) (dd : Nat) (pn : Bool) (c : List Int) : Prop := M 9 0 9 = (st.length : Int) ∧ oHd (M 76 0) st ∧ M 9 0 10 = (dd : Int) ∧ M 9 0 11 = (cond pn 1 0 : Int) ∧ M 75 0 1 = (c.length : Int) ∧ oCd (M 105 0) c
def oMc (M : SMem) (n : Nat) (z : Int) : SMem := supd (supd M 105 0 n z) 75 0 1 ((n : Int) + 1)
theorem oMc_n {M : SMem} {n : Nat} {z : Int} {f j i : Nat} (h1 : f ≠ 105) (h2 : f ≠ 75) : oMc M n z f j i = M f j i := by
  unfold oMc
  rw [supd_f h2, supd_f h1]
theorem oMc_I {M : SMem} {n : Nat} {z : Int} (hI : sI tg M) (hn : n < 1000) (hz : -2147483648 ≤ z ∧ z ≤ 2147483647) : sI tg (oMc M n z) := wI (wI hI (lo := -2147483648) (hi := 2147483647) rfl hz) (lo := 0) (hi := 1000) rfl ⟨by omega, by omega⟩
theorem oMc_F {M0 M : SMem} {n : Nat} {z : Int} (h : oFm oPm M0 M) : oFm oPm M0 (oMc M n z) := oFm_p (Or.inr (Or.inr (Or.inr ⟨rfl, rfl⟩))) (oFm_p (Or.inr (Or.inl rfl)) h)
theorem oMc_S {M : SMem} {st : List Nat} {dd : Nat} {pn : Bool} {c : List Int} {z : Int} (g : oCS M st dd pn c) : oCS (oMc M c.length z) st dd pn (c ++ [z]) := by
  obtain ⟨g1, g2, g3, g4, g5, g6⟩ := g
  refine ⟨by rw [oMc_n (by decide) (by decide)]; exact g1, oHd_c (fun i _ => oMc_n (by decide) (by decide)) g2, by rw [oMc_n (by decide) (by decide)]; exact g3, by rw [oMc_n (by decide) (by decide)]; exact g4, ?_, oCd_s (fun i hi => ?_) ?_ g6⟩
  · unfold oMc
    rw [supd_at, List.length_append]
    rfl
  · unfold oMc
    rw [supd_f (by decide), supd_i (by omega)]
  · unfold oMc
    rw [supd_f (by decide), supd_at]
theorem oCS_w {M : SMem} {a : Nat} {st : List Nat} {dd : Nat} {pn : Bool} {c : List Int} {x : Int} (g : oCS M (a :: st) dd pn c) (hx : x = (st.length : Int)) : oCS (supd M 9 0 9 x) st dd pn c := by
  obtain ⟨g1, g2, g3, g4, g5, g6⟩ := g
  exact ⟨by rw [supd_at]; exact hx, oHd_c (fun i _ => supd_f (by decide)) g2.2, by rw [supd_i (by decide)]; exact g3, by rw [supd_i (by decide)]; exact g4, by rw [supd_f (by decide)]; exact g5, oCd_c (fun i _ => supd_f (by decide)) g6⟩
theorem oCS_d {M : SMem} {st : List Nat} {dd dd' : Nat} {pn : Bool} {c : List Int} {x : Int} (g : oCS M st dd pn c) (hx : x = (dd' : Int)) : oCS (supd M 9 0 10 x) st dd' pn c := by
  obtain ⟨g1, g2, g3, g4, g5, g6⟩ := g
  exact ⟨by rw [supd_i (by decide)]; exact g1, oHd_c (fun i _ => supd_f (by decide)) g2, by rw [supd_at]; exact hx, by rw [supd_i (by decide)]; exact g4, by rw [supd_f (by decide)]; exact g5, oCd_c (fun i _ => supd_f (by decide)) g6⟩
theorem oCS_p {M : SMem} {st : List Nat} {dd : Nat} {pn pn' : Bool} {c : List Int} {x : Int} (g : oCS M st dd pn c) (hx : x = (cond pn' 1 0 : Int)) : oCS (supd M 9 0 11 x) st dd pn' c := by
  obtain ⟨g1, g2, g3, g4, g5, g6⟩ := g
  exact ⟨by rw [supd_i (by decide)]; exact g1, oHd_c (fun i _ => supd_f (by decide)) g2, by rw [supd_i (by decide)]; exact g3, by rw [supd_at]; exact hx, by rw [supd_f (by decide)]; exact g5, oCd_c (fun i _ => supd_f (by decide)) g6⟩
def oMh (M : SMem) (n : Nat) (z : Int) : SMem := supd (supd M 76 0 n z) 9 0 9 ((n : Int) + 1)
theorem oMh_I {M : SMem} {n : Nat} {z : Int} (hI : sI tg M) (hn : n < 64) (hz : 0 ≤ z ∧ z ≤ 23) : sI tg (oMh M n z) := wI (wI hI (lo := 0) (hi := 23) rfl hz) (lo := 0) (hi := 64) rfl ⟨by omega, by omega⟩
theorem oMh_F {M0 M : SMem} {n : Nat} {z : Int} (h : oFm oPm M0 M) : oFm oPm M0 (oMh M n z) := oFm_p (Or.inr (Or.inr (Or.inl ⟨rfl, Or.inr (Or.inl rfl)⟩))) (oFm_p (Or.inl rfl) h)
theorem oMh_S {M : SMem} {st : List Nat} {dd a : Nat} {pn : Bool} {c : List Int} (g : oCS M st dd pn c) : oCS (oMh M st.length (a : Int)) (a :: st) dd pn c := by
  obtain ⟨g1, g2, g3, g4, g5, g6⟩ := g
  unfold oMh
  refine ⟨by rw [supd_at]; rfl, ⟨?_, oHd_c (fun i hi => ?_) g2⟩, by rw [supd_i (by decide), supd_f (by decide)]; exact g3, by rw [supd_i (by decide), supd_f (by decide)]; exact g4, by rw [supd_f (by decide), supd_f (by decide)]; exact g5, oCd_c (fun i _ => by rw [supd_f (by decide), supd_f (by decide)]) g6⟩
  · rw [supd_f (by decide), supd_at]
  · rw [supd_f (by decide), supd_i (by omega)]
section CO3
variable {EX : SEx} {l : Launch} {dC : Nat → ClassId} {dI : Nat → Nat → Nat} {cA : Nat → ClassId} {ad : SAd} {scrS d : Nat}
theorem b_rankOf (hp : cPl tm tc tf EX) {a : Nat} {M : SMem} : cBG tm tf EX l dC dI cA ad scrS (d + 1) kX4_rankOf [(0, 0, (a : Int))] M (fun rr MM => MM = M ∧ rr = [((oRk a : Nat) : Int)]) := by
  have g1 : a = 5 ∨ a = 6 → oRk a = 1 := fun h => if_pos h
  have g2 : a = 18 ∨ a = 19 → oRk a = 2 := fun h => by
    unfold oRk
    rw [if_neg (by omega), if_pos h]
  have g3 : a = 20 ∨ a = 21 → oRk a = 3 := fun h => by
    unfold oRk
    rw [if_neg (by omega), if_neg (by omega), if_pos h]
  have g4 : a = 22 → oRk a = 4 := fun h => by
    unfold oRk
    rw [if_neg (by omega), if_neg (by omega), if_neg (by omega), if_pos h]
  have g0 : ¬ (a = 5 ∨ a = 6 ∨ a = 18 ∨ a = 19 ∨ a = 20 ∨ a = 21 ∨ a = 22) → oRk a = 0 := fun h => by
    unfold oRk
    rw [if_neg (by omega), if_neg (by omega), if_neg (by omega), if_neg (by omega)]
  refine cMeth (v := [(a : Int)]) (Fd := 90) hp (by decide) gX4_rankOf_ok gX4_rankOf_m0 (by simp [cAs, cE2, sev, svl, cen]) ?_
  refine cEnds_at gX4_rankOf_m0 rfl ?_
  refine d_br (fun h => ?_) (fun h => ?_)
  · simp only [cCmp, cE2, sev, svl, cen, List.cons_append, List.nil_append] at h
    first
    | omega
    | skip
      exact d_ret [0] rfl (by decide) ⟨rfl, by rw [g0 (by omega)]; rfl⟩
  · simp only [cCmp, cE2, sev, svl, cen, List.cons_append, List.nil_append] at h
    first
    | omega
    | skip
      refine d_br (fun h => ?_) (fun h => ?_)
      · simp only [cCmp, cE2, sev, svl, cen, List.cons_append, List.nil_append] at h
        first
        | omega
        | skip
          exact d_ret [0] rfl (by decide) ⟨rfl, by rw [g0 (by omega)]; rfl⟩
      · simp only [cCmp, cE2, sev, svl, cen, List.cons_append, List.nil_append] at h
        first
        | omega
        | skip
          refine d_br (fun h => ?_) (fun h => ?_)
          · simp only [cCmp, cE2, sev, svl, cen, List.cons_append, List.nil_append] at h
            first
            | omega
            | skip
              exact d_ret [1] rfl (by decide) ⟨rfl, by rw [g1 (by omega)]; rfl⟩
          · simp only [cCmp, cE2, sev, svl, cen, List.cons_append, List.nil_append] at h
            first
            | omega
            | skip
              refine d_br (fun h => ?_) (fun h => ?_)
              · simp only [cCmp, cE2, sev, svl, cen, List.cons_append, List.nil_append] at h
                first
                | omega
                | skip
                  exact d_ret [1] rfl (by decide) ⟨rfl, by rw [g1 (by omega)]; rfl⟩
              · simp only [cCmp, cE2, sev, svl, cen, List.cons_append, List.nil_append] at h
                first
                | omega
                | skip
                  refine d_br (fun h => ?_) (fun h => ?_)
                  · simp only [cCmp, cE2, sev, svl, cen, List.cons_append, List.nil_append] at h
                    first
                    | omega
                    | skip
                      exact d_ret [0] rfl (by decide) ⟨rfl, by rw [g0 (by omega)]; rfl⟩
                  · simp only [cCmp, cE2, sev, svl, cen, List.cons_append, List.nil_append] at h
                    first
                    | omega
                    | skip
                      refine d_br (fun h => ?_) (fun h => ?_)
                      · simp only [cCmp, cE2, sev, svl, cen, List.cons_append, List.nil_append] at h
                        first
                        | omega
                        | skip
                          exact d_ret [0] rfl (by decide) ⟨rfl, by rw [g0 (by omega)]; rfl⟩
                      · simp only [cCmp, cE2, sev, svl, cen, List.cons_append, List.nil_append] at h
                        first
                        | omega
                        | skip
                          refine d_br (fun h => ?_) (fun h => ?_)
                          · simp only [cCmp, cE2, sev, svl, cen, List.cons_append, List.nil_append] at h
                            first
                            | omega
                            | skip
                              exact d_ret [0] rfl (by decide) ⟨rfl, by rw [g0 (by omega)]; rfl⟩
                          · simp only [cCmp, cE2, sev, svl, cen, List.cons_append, List.nil_append] at h
                            first
                            | omega
                            | skip
                              refine d_br (fun h => ?_) (fun h => ?_)
                              · simp only [cCmp, cE2, sev, svl, cen, List.cons_append, List.nil_append] at h
                                first
                                | omega
                                | skip
                                  exact d_ret [0] rfl (by decide) ⟨rfl, by rw [g0 (by omega)]; rfl⟩
                              · simp only [cCmp, cE2, sev, svl, cen, List.cons_append, List.nil_append] at h
                                first
                                | omega
                                | skip
                                  refine d_br (fun h => ?_) (fun h => ?_)
                                  · simp only [cCmp, cE2, sev, svl, cen, List.cons_append, List.nil_append] at h
                                    first
                                    | omega
                                    | skip
                                      exact d_ret [0] rfl (by decide) ⟨rfl, by rw [g0 (by omega)]; rfl⟩
                                  · simp only [cCmp, cE2, sev, svl, cen, List.cons_append, List.nil_append] at h
                                    first
                                    | omega
                                    | skip
                                      refine d_br (fun h => ?_) (fun h => ?_)
                                      · simp only [cCmp, cE2, sev, svl, cen, List.cons_append, List.nil_append] at h
                                        first
                                        | omega
                                        | skip
                                          exact d_ret [0] rfl (by decide) ⟨rfl, by rw [g0 (by omega)]; rfl⟩
                                      · simp only [cCmp, cE2, sev, svl, cen, List.cons_append, List.nil_append] at h
                                        first
                                        | omega
                                        | skip
                                          refine d_br (fun h => ?_) (fun h => ?_)
                                          · simp only [cCmp, cE2, sev, svl, cen, List.cons_append, List.nil_append] at h
                                            first
                                            | omega
                                            | skip
                                              exact d_ret [0] rfl (by decide) ⟨rfl, by rw [g0 (by omega)]; rfl⟩
                                          · simp only [cCmp, cE2, sev, svl, cen, List.cons_append, List.nil_append] at h
                                            first
                                            | omega
                                            | skip
                                              refine d_br (fun h => ?_) (fun h => ?_)
                                              · simp only [cCmp, cE2, sev, svl, cen, List.cons_append, List.nil_append] at h
                                                first
                                                | omega
                                                | skip
                                                  exact d_ret [0] rfl (by decide) ⟨rfl, by rw [g0 (by omega)]; rfl⟩
                                              · simp only [cCmp, cE2, sev, svl, cen, List.cons_append, List.nil_append] at h
                                                first
                                                | omega
                                                | skip
                                                  refine d_br (fun h => ?_) (fun h => ?_)
                                                  · simp only [cCmp, cE2, sev, svl, cen, List.cons_append, List.nil_append] at h
                                                    first
                                                    | omega
                                                    | skip
                                                      exact d_ret [0] rfl (by decide) ⟨rfl, by rw [g0 (by omega)]; rfl⟩
                                                  · simp only [cCmp, cE2, sev, svl, cen, List.cons_append, List.nil_append] at h
                                                    first
                                                    | omega
                                                    | skip
                                                      refine d_br (fun h => ?_) (fun h => ?_)
                                                      · simp only [cCmp, cE2, sev, svl, cen, List.cons_append, List.nil_append] at h
                                                        first
                                                        | omega
                                                        | skip
                                                          exact d_ret [0] rfl (by decide) ⟨rfl, by rw [g0 (by omega)]; rfl⟩
                                                      · simp only [cCmp, cE2, sev, svl, cen, List.cons_append, List.nil_append] at h
                                                        first
                                                        | omega
                                                        | skip
                                                          refine d_br (fun h => ?_) (fun h => ?_)
                                                          · simp only [cCmp, cE2, sev, svl, cen, List.cons_append, List.nil_append] at h
                                                            first
                                                            | omega
                                                            | skip
                                                              exact d_ret [0] rfl (by decide) ⟨rfl, by rw [g0 (by omega)]; rfl⟩
                                                          · simp only [cCmp, cE2, sev, svl, cen, List.cons_append, List.nil_append] at h
                                                            first
                                                            | omega
                                                            | skip
                                                              refine d_br (fun h => ?_) (fun h => ?_)
                                                              · simp only [cCmp, cE2, sev, svl, cen, List.cons_append, List.nil_append] at h
                                                                first
                                                                | omega
                                                                | skip
                                                                  exact d_ret [2] rfl (by decide) ⟨rfl, by rw [g2 (by omega)]; rfl⟩
                                                              · simp only [cCmp, cE2, sev, svl, cen, List.cons_append, List.nil_append] at h
                                                                first
                                                                | omega
                                                                | skip
                                                                  refine d_br (fun h => ?_) (fun h => ?_)
                                                                  · simp only [cCmp, cE2, sev, svl, cen, List.cons_append, List.nil_append] at h
                                                                    first
                                                                    | omega
                                                                    | skip
                                                                      exact d_ret [2] rfl (by decide) ⟨rfl, by rw [g2 (by omega)]; rfl⟩
                                                                  · simp only [cCmp, cE2, sev, svl, cen, List.cons_append, List.nil_append] at h
                                                                    first
                                                                    | omega
                                                                    | skip
                                                                      refine d_br (fun h => ?_) (fun h => ?_)
                                                                      · simp only [cCmp, cE2, sev, svl, cen, List.cons_append, List.nil_append] at h
                                                                        first
                                                                        | omega
                                                                        | skip
                                                                          exact d_ret [3] rfl (by decide) ⟨rfl, by rw [g3 (by omega)]; rfl⟩
                                                                      · simp only [cCmp, cE2, sev, svl, cen, List.cons_append, List.nil_append] at h
                                                                        first
                                                                        | omega
                                                                        | skip
                                                                          refine d_br (fun h => ?_) (fun h => ?_)
                                                                          · simp only [cCmp, cE2, sev, svl, cen, List.cons_append, List.nil_append] at h
                                                                            first
                                                                            | omega
                                                                            | skip
                                                                              exact d_ret [3] rfl (by decide) ⟨rfl, by rw [g3 (by omega)]; rfl⟩
                                                                          · simp only [cCmp, cE2, sev, svl, cen, List.cons_append, List.nil_append] at h
                                                                            first
                                                                            | omega
                                                                            | skip
                                                                              refine d_br (fun h => ?_) (fun h => ?_)
                                                                              · simp only [cCmp, cE2, sev, svl, cen, List.cons_append, List.nil_append] at h
                                                                                first
                                                                                | omega
                                                                                | skip
                                                                                  exact d_ret [4] rfl (by decide) ⟨rfl, by rw [g4 (by omega)]; rfl⟩
                                                                              · simp only [cCmp, cE2, sev, svl, cen, List.cons_append, List.nil_append] at h
                                                                                first
                                                                                | omega
                                                                                | skip
                                                                                  omega
theorem b_addCode (hp : cPl tm tc tf EX) {n : Nat} {z : Int} {M : SMem} (hn : M 75 0 1 = (n : Int)) (h9 : n < 1000) : cBG tm tf EX l dC dI cA ad scrS (d + 1) kX3_addCode [(2, 75, 0), (0, 0, z)] M (fun rr MM => rr = [] ∧ MM = oMc M n z) := by
  refine cMeth (v := [z]) (Fd := 90) hp (by decide) gX3_addCode_ok gX3_addCode_m0 (by simp [cAs, cE2, sev, svl, cen]) ?_
  refine cEnds_at gX3_addCode_m0 rfl ?_
  refine d_fld 0 (by simp only [cE2, sev, svl, cen, List.cons_append, List.nil_append]; omega) ?_
  rw [hn]
  refine d_br (fun h => ?_) (fun h => ?_)
  · simp only [cCmp, cE2, sev, svl, cen, List.cons_append, List.nil_append] at h
    first
    | omega
    | skip
      exact d_ret [] rfl (by decide) (by omega)
  · simp only [cCmp, cE2, sev, svl, cen, List.cons_append, List.nil_append] at h
    first
    | omega
    | skip
      refine d_fld 0 (by simp only [cE2, sev, svl, cen, List.cons_append, List.nil_append]; omega) ?_
      rw [hn]
      refine d_set 0 n z (by simp only [cE2, sev, svl, cen, List.cons_append, List.nil_append]; omega) (by simp only [cE2, sev, svl, cen, List.cons_append, List.nil_append]; omega) (by omega) (by simp only [cE2, sev, svl, cen, List.cons_append, List.nil_append]; omega) ?_
      refine d_fld 0 (by simp only [cE2, sev, svl, cen, List.cons_append, List.nil_append]; omega) ?_
      rw [supd_f (by decide)]
      rw [hn]
      refine d_rng (by simp only [clo, chi, cE2, sev, svl, cen, List.cons_append, List.nil_append]; omega) ?_
      refine d_put 0 ((n : Int) + 1) (by simp only [cE2, sev, svl, cen, List.cons_append, List.nil_append]; omega) (by simp only [cE2, sev, svl, cen, List.cons_append, List.nil_append]; omega) ?_
      exact d_ret [] rfl (by decide) ⟨rfl, rfl⟩
theorem b_hold (hp : cPl tm tc tf EX) {n : Nat} {z : Int} {M : SMem} (hn : M 9 0 9 = (n : Int)) (h9 : n < 64) : cBG tm tf EX l dC dI cA ad scrS (d + 1) kX4_hold [(2, 9, 0), (0, 0, z)] M (fun rr MM => rr = [] ∧ MM = oMh M n z) := by
  refine cMeth (v := [z]) (Fd := 90) hp (by decide) gX4_hold_ok gX4_hold_m0 (by simp [cAs, cE2, sev, svl, cen]) ?_
  refine cEnds_at gX4_hold_m0 rfl ?_
  refine d_fld 0 (by simp only [cE2, sev, svl, cen, List.cons_append, List.nil_append]; omega) ?_
  rw [hn]
  refine d_br (fun h => ?_) (fun h => ?_)
  · simp only [cCmp, cE2, sev, svl, cen, List.cons_append, List.nil_append] at h
    first
    | omega
    | skip
      exact d_ret [] rfl (by decide) (by omega)
  · simp only [cCmp, cE2, sev, svl, cen, List.cons_append, List.nil_append] at h
    first
    | omega
    | skip
      refine d_fld 0 (by simp only [cE2, sev, svl, cen, List.cons_append, List.nil_append]; omega) ?_
      rw [hn]
      refine d_set 0 n z (by simp only [cE2, sev, svl, cen, List.cons_append, List.nil_append]; omega) (by simp only [cE2, sev, svl, cen, List.cons_append, List.nil_append]; omega) (by omega) (by simp only [cE2, sev, svl, cen, List.cons_append, List.nil_append]; omega) ?_
      refine d_fld 0 (by simp only [cE2, sev, svl, cen, List.cons_append, List.nil_append]; omega) ?_
      rw [supd_f (by decide)]
      rw [hn]
      refine d_rng (by simp only [clo, chi, cE2, sev, svl, cen, List.cons_append, List.nil_append]; omega) ?_
      refine d_put 0 ((n : Int) + 1) (by simp only [cE2, sev, svl, cen, List.cons_append, List.nil_append]; omega) (by simp only [cE2, sev, svl, cen, List.cons_append, List.nil_append]; omega) ?_
      exact d_ret [] rfl (by decide) ⟨rfl, rfl⟩
theorem b_refuse (hp : cPl tm tc tf EX) {k : Int} {s : Nat} {M : SMem} (h5 : M 9 0 5 = (s : Int)) (h9 : s ≤ 1000) (hk : 0 ≤ k ∧ k ≤ 5) : cBG tm tf EX l dC dI cA ad scrS (d + 1) kX4_refuse [(2, 9, 0), (0, 0, k)] M (fun rr MM => rr = [0] ∧ MM = supd M 9 0 7 (k + 16 * (s : Int))) := by
  refine cMeth (v := [k]) (Fd := 90) hp (by decide) gX4_refuse_ok gX4_refuse_m0 (by simp [cAs, cE2, sev, svl, cen]) ?_
  refine cEnds_at gX4_refuse_m0 rfl ?_
  refine d_fld 0 (by simp only [cE2, sev, svl, cen, List.cons_append, List.nil_append]; omega) ?_
  rw [h5]
  refine d_rng (by simp only [clo, chi, cE2, sev, svl, cen, List.cons_append, List.nil_append]; omega) ?_
  refine d_rng (by simp only [clo, chi, cE2, sev, svl, cen, List.cons_append, List.nil_append]; omega) ?_
  refine d_put 0 (k + 16 * (s : Int)) (by simp only [cE2, sev, svl, cen, List.cons_append, List.nil_append]; omega) (by simp only [cE2, sev, svl, cen, List.cons_append, List.nil_append]; omega) ?_
  exact d_ret [0] rfl (by decide) ⟨rfl, rfl⟩
theorem b_release (hp : cPl tm tc tf EX) {r dd : Nat} {pn : Bool} {st0 : List Nat} {c0 : List Int} {M : SMem} (hr : 1 ≤ r) (hr4 : r ≤ 4) (hI : sI tg M) (hS : oCS M st0 dd pn c0) (hW : oWf st0) (hl : st0.length ≤ 64) (hc : c0.length + st0.length ≤ 1000) : cBG tm tf EX l dC dI cA ad scrS (d + 2) kX4_release [(2, 9, 0), (0, 0, (r : Int))] M (fun rr MM => rr = [] ∧ sI tg MM ∧ oFm oPm M MM ∧ oCS MM (oRl r st0 c0).1 dd pn (oRl r st0 c0).2) := by
  refine cMeth (v := [(r : Int)]) (Fd := 90) hp (by decide) gX4_release_ok gX4_release_m0 (by simp [cAs, cE2, sev, svl, cen]) ?_
  have loop : ∀ (st : List Nat) (c : List Int) (w : Nat) (MW : SMem), w = st.length → sI tg MW → oFm oPm M MW → oCS MW st dd pn c → oWf st → st.length ≤ 64 → c.length + st.length ≤ 1000 → oRl r st c = oRl r st0 c0 → cEnds (cBG tm tf EX l dC dI cA ad scrS (d + 1)) (fun rr MM => rr = [] ∧ sI tg MM ∧ oFm oPm M MM ∧ oCS MM (oRl r st0 c0).1 dd pn (oRl r st0 c0).2) 90 gX4_release 5 [(r : Int), (w : Int)] MW := by
    intro st
    induction st with
    | nil =>
      intro c w MW hw g1 g2 g3 g4 g5 g6 g7
      have hw : w = 0 := hw
      refine cEnds_at gX4_release_m5 rfl ?_
      refine d_br (fun h => ?_) (fun h => ?_)
      · refine d_ret [] rfl (by decide) ⟨rfl, g1, g2, ?_⟩
        rw [← g7]
        exact g3
      · simp only [cCmp, cE2, sev, svl, cen, List.cons_append, List.nil_append] at h
        omega
    | cons a st ih =>
      intro c w MW hw g1 g2 g3 g4 g5 g6 g7
      have hw : w = st.length + 1 := hw
      have g5 : st.length + 1 ≤ 64 := g5
      have g6 : c.length + (st.length + 1) ≤ 1000 := g6
      have a22 : a ≤ 22 := g4.2.1
      have e76 : MW 76 0 (w - 1) = (a : Int) := by
        rw [show w - 1 = st.length by omega]
        exact g3.2.1.1
      refine cEnds_at gX4_release_m5 rfl ?_
      refine d_br (fun h => ?_) (fun h => ?_)
      · simp only [cCmp, cE2, sev, svl, cen, List.cons_append, List.nil_append] at h
        first
        | omega
        | skip
          exact d_ret [] rfl (by decide) (by omega)
      · simp only [cCmp, cE2, sev, svl, cen, List.cons_append, List.nil_append] at h
        first
        | omega
        | skip
          refine d_rng (by simp only [clo, chi, cE2, sev, svl, cen, List.cons_append, List.nil_append]; omega) ?_
          refine d_row 0 (w - 1) (by simp only [cE2, sev, svl, cen, List.cons_append, List.nil_append]; omega) (by simp only [cE2, sev, svl, cen, List.cons_append, List.nil_append]; omega) (by omega) ?_
          rw [e76]
          refine d_call (b_rankOf hp (a := a)) (by simp [cAs, cE2, sev, svl, cen] <;> omega) ?_
          intro rr M' hq
          obtain ⟨hM', rfl⟩ := hq
          rw [hM']
          refine ⟨rfl, ?_⟩
          refine d_br (fun h => ?_) (fun h => ?_)
          · simp only [cCmp, cE2, sev, svl, cen, List.cons_append, List.nil_append] at h
            first
            | omega
            | skip
              exact d_ret [] rfl (by decide) ⟨rfl, g1, g2, by rw [← g7, oRl_keep (by omega)]; exact g3⟩
          · simp only [cCmp, cE2, sev, svl, cen, List.cons_append, List.nil_append] at h
            first
            | omega
            | skip
              refine d_rng (by simp only [clo, chi, cE2, sev, svl, cen, List.cons_append, List.nil_append]; omega) ?_
              refine d_row 0 (w - 1) (by simp only [cE2, sev, svl, cen, List.cons_append, List.nil_append]; omega) (by simp only [cE2, sev, svl, cen, List.cons_append, List.nil_append]; omega) (by omega) ?_
              rw [e76]
              refine d_call (b_addCode hp (n := c.length) (z := (a : Int)) g3.2.2.2.2.1 (by omega)) (by simp [cAs, cE2, sev, svl, cen] <;> omega) ?_
              intro rr M' hq
              obtain ⟨rfl, hM'⟩ := hq
              have k9 : M' 9 0 9 = (w : Int) := by rw [hM', oMc_n (by decide) (by decide), hw]; exact g3.1
              refine ⟨rfl, ?_⟩
              refine d_fld 0 (by simp only [cE2, sev, svl, cen, List.cons_append, List.nil_append]; omega) ?_
              rw [k9]
              refine d_rng (by simp only [clo, chi, cE2, sev, svl, cen, List.cons_append, List.nil_append]; omega) ?_
              refine d_put 0 ((w : Int) - 1) (by simp only [cE2, sev, svl, cen, List.cons_append, List.nil_append]; omega) (by simp only [cE2, sev, svl, cen, List.cons_append, List.nil_append]; omega) ?_
              refine d_rng (by simp only [clo, chi, cE2, sev, svl, cen, List.cons_append, List.nil_append]; omega) ?_
              refine d_cut [(r : Int), ((w - 1 : Nat) : Int)] (by simp [cE2, sev, svl, cen] <;> omega) ?_
              rw [hM']
              exact ih (c ++ [(a : Int)]) (w - 1) _ (by omega) (wI (oMc_I g1 (by omega) ⟨by omega, by omega⟩) (lo := 0) (hi := 64) rfl ⟨by omega, by omega⟩) (oFm_p (Or.inr (Or.inr (Or.inl ⟨rfl, Or.inr (Or.inl rfl)⟩))) (oMc_F g2)) (oCS_w (oMc_S g3) (by omega)) g4.2.2 (by omega) (by rw [List.length_append]; show _ + 1 + _ ≤ _; omega) (by rw [← g7, oRl_pop (by omega)])
  refine cEnds_at gX4_release_m0 rfl ?_
  refine d_fld 0 (by simp only [cE2, sev, svl, cen, List.cons_append, List.nil_append]; omega) ?_
  rw [hS.1]
  refine d_cut [(r : Int), ((st0.length : Nat) : Int)] (by simp [cE2, sev, svl, cen] <;> omega) ?_
  exact loop st0 c0 _ M rfl hI oFm_r hS hW hl hc rfl
theorem b_endPart (hp : cPl tm tc tf EX) {d0 : Nat} {pn : Bool} {st0 : List Nat} {c0 : List Int} {M : SMem} (hI : sI tg M) (hS : oCS M st0 d0 pn c0) (hW : oWf st0) (hO : oOp st0 = d0) (hd5 : d0 ≤ 6) (hl : st0.length ≤ 64) (hc : c0.length + st0.length ≤ 1000) : cBG tm tf EX l dC dI cA ad scrS (d + 2) kX4_endPart [(2, 9, 0)] M (fun rr MM => rr = [] ∧ sI tg MM ∧ oFm oPm M MM ∧ oCS MM (oEp st0 d0 c0).1 (oEp st0 d0 c0).2.1 false (oEp st0 d0 c0).2.2) := by
  refine cMeth (v := []) (Fd := 90) hp (by decide) gX4_endPart_ok gX4_endPart_m0 (by simp [cAs, cE2, sev, svl, cen]) ?_
  have loop : ∀ (st : List Nat) (c : List Int) (w dd : Nat) (MW : SMem), w = st.length → sI tg MW → oFm oPm M MW → oCS MW st dd false c → oWf st → oOp st = dd → dd ≤ 6 → st.length ≤ 64 → c.length + st.length ≤ 1000 → oEp st dd c = oEp st0 d0 c0 → cEnds (cBG tm tf EX l dC dI cA ad scrS (d + 1)) (fun rr MM => rr = [] ∧ sI tg MM ∧ oFm oPm M MM ∧ oCS MM (oEp st0 d0 c0).1 (oEp st0 d0 c0).2.1 false (oEp st0 d0 c0).2.2) 90 gX4_endPart 10 [(w : Int)] MW := by
    intro st
    induction st with
    | nil =>
      intro c w dd MW hw g1 g2 g3 g4 gO g8 g5 g6 g7
      have hw : w = 0 := hw
      refine cEnds_at gX4_endPart_m10 rfl ?_
      refine d_br (fun h => ?_) (fun h => ?_)
      · refine d_ret [] rfl (by decide) ⟨rfl, g1, g2, ?_⟩
        rw [← g7]
        exact g3
      · simp only [cCmp, cE2, sev, svl, cen, List.cons_append, List.nil_append] at h
        omega
    | cons a st ih =>
      intro c w dd MW hw g1 g2 g3 g4 gO g8 g5 g6 g7
      have hw : w = st.length + 1 := hw
      have g5 : st.length + 1 ≤ 64 := g5
      have g6 : c.length + (st.length + 1) ≤ 1000 := g6
      have e76 : MW 76 0 (w - 1) = (a : Int) := by
        rw [show w - 1 = st.length by omega]
        exact g3.2.1.1
      have hd1 : a = 7 → dd = oOp st + 1 := fun q => by
        have gO : (if oRk a = 0 then 1 else 0) + oOp st = dd := gO
        rw [q, if_pos (by rfl)] at gO
        omega
      refine cEnds_at gX4_endPart_m10 rfl ?_
      refine d_br (fun h => ?_) (fun h => ?_)
      · simp only [cCmp, cE2, sev, svl, cen, List.cons_append, List.nil_append] at h
        first
        | omega
        | skip
          exact d_ret [] rfl (by decide) (by omega)
      · simp only [cCmp, cE2, sev, svl, cen, List.cons_append, List.nil_append] at h
        first
        | omega
        | skip
          refine d_rng (by simp only [clo, chi, cE2, sev, svl, cen, List.cons_append, List.nil_append]; omega) ?_
          refine d_row 0 (w - 1) (by simp only [cE2, sev, svl, cen, List.cons_append, List.nil_append]; omega) (by simp only [cE2, sev, svl, cen, List.cons_append, List.nil_append]; omega) (by omega) ?_
          rw [e76]
          refine d_br (fun h => ?_) (fun h => ?_)
          · simp only [cCmp, cE2, sev, svl, cen, List.cons_append, List.nil_append] at h
            first
            | omega
            | skip
              exact d_ret [] rfl (by decide) ⟨rfl, g1, g2, by rw [← g7, oEp_keep (by omega)]; exact g3⟩
          · simp only [cCmp, cE2, sev, svl, cen, List.cons_append, List.nil_append] at h
            first
            | omega
            | skip
              refine d_call (b_addCode hp (n := c.length) (z := 7) g3.2.2.2.2.1 (by omega)) (by simp [cAs, cE2, sev, svl, cen] <;> omega) ?_
              intro rr M' hq
              obtain ⟨rfl, hM'⟩ := hq
              have k9 : M' 9 0 9 = (w : Int) := by rw [hM', oMc_n (by decide) (by decide), hw]; exact g3.1
              have k10 : M' 9 0 10 = (dd : Int) := by rw [hM', oMc_n (by decide) (by decide)]; exact g3.2.2.1
              have a7 : a = 7 := by omega
              have hd2 := hd1 a7
              refine ⟨rfl, ?_⟩
              refine d_fld 0 (by simp only [cE2, sev, svl, cen, List.cons_append, List.nil_append]; omega) ?_
              rw [k9]
              refine d_rng (by simp only [clo, chi, cE2, sev, svl, cen, List.cons_append, List.nil_append]; omega) ?_
              refine d_put 0 ((w : Int) - 1) (by simp only [cE2, sev, svl, cen, List.cons_append, List.nil_append]; omega) (by simp only [cE2, sev, svl, cen, List.cons_append, List.nil_append]; omega) ?_
              refine d_fld 0 (by simp only [cE2, sev, svl, cen, List.cons_append, List.nil_append]; omega) ?_
              rw [supd_i (by decide)]
              rw [k10]
              refine d_rng (by simp only [clo, chi, cE2, sev, svl, cen, List.cons_append, List.nil_append]; omega) ?_
              refine d_put 0 ((dd : Int) - 1) (by simp only [cE2, sev, svl, cen, List.cons_append, List.nil_append]; omega) (by simp only [cE2, sev, svl, cen, List.cons_append, List.nil_append]; omega) ?_
              refine d_rng (by simp only [clo, chi, cE2, sev, svl, cen, List.cons_append, List.nil_append]; omega) ?_
              refine d_cut [((w - 1 : Nat) : Int)] (by simp [cE2, sev, svl, cen] <;> omega) ?_
              rw [hM']
              exact ih (c ++ [7]) (w - 1) (dd - 1) _ (by omega) (wI (wI (oMc_I g1 (by omega) ⟨by omega, by omega⟩) (lo := 0) (hi := 64) rfl ⟨by omega, by omega⟩) (lo := -2147483648) (hi := 2147483647) rfl ⟨by omega, by omega⟩) (oFm_p (Or.inr (Or.inr (Or.inl ⟨rfl, Or.inr (Or.inr (Or.inl rfl))⟩))) (oFm_p (Or.inr (Or.inr (Or.inl ⟨rfl, Or.inr (Or.inl rfl)⟩))) (oMc_F g2))) (oCS_d (oCS_w (oMc_S g3) (by omega)) (by omega)) g4.2.2 (by omega) (by omega) (by omega) (by rw [List.length_append]; show _ + 1 + _ ≤ _; omega) (by rw [← g7, a7, hd2]; exact oEp_not.symm)
  refine cEnds_at gX4_endPart_m0 rfl ?_
  refine d_rng (by simp only [clo, chi, cE2, sev, svl, cen, List.cons_append, List.nil_append]; omega) ?_
  refine d_put 0 0 (by simp only [cE2, sev, svl, cen, List.cons_append, List.nil_append]; omega) (by simp only [cE2, sev, svl, cen, List.cons_append, List.nil_append]; omega) ?_
  refine d_fld 0 (by simp only [cE2, sev, svl, cen, List.cons_append, List.nil_append]; omega) ?_
  rw [supd_i (by decide), hS.1]
  refine d_cut [((st0.length : Nat) : Int)] (by simp [cE2, sev, svl, cen] <;> omega) ?_
  exact loop st0 c0 _ d0 _ rfl (wI hI (lo := 0) (hi := 1) rfl ⟨by omega, by omega⟩) (oFm_p (Or.inr (Or.inr (Or.inl ⟨rfl, Or.inr (Or.inr (Or.inr rfl))⟩))) oFm_r) (oCS_p hS rfl) hW hO hd5 hl hc rfl
end CO3
