/-! the class reads what a line asks: to the stop behind it -/
abbrev oPw (f i : Nat) : Prop := oPm f i ∨ oPa f i
def oWQ (T : Nat → Int) (L : Nat) (r : ORs) (rr : List Int) (MM : SMem) : Prop := (∃ f, r = .error f ∧ rr = [0] ∧ MM 9 0 7 = f) ∨ ∃ (s' : Nat) (c' : List Int), r = .ok (s', c') ∧ rr = [1] ∧ oTS T L s' MM ∧ oK T L s' = 23 ∧ s' < L ∧ MM 75 0 1 = (c'.length : Int) ∧ oCd (MM 105 0) c' ∧ c'.length ≤ s'
abbrev oWP (T : Nat → Int) (L : Nat) (r : ORs) (M : SMem) (rr : List Int) (MM : SMem) : Prop := sI tg MM ∧ oFm oPw M MM ∧ oWQ T L r rr MM
theorem oCS_a {M MM : SMem} {st : List Nat} {dd : Nat} {pn : Bool} {c : List Int} (h : oFm oPa M MM) (g : oCS M st dd pn c) : oCS MM st dd pn c := by
  obtain ⟨g1, g2, g3, g4, g5, g6⟩ := g
  exact ⟨(h 9 0 9 (by omega)).trans g1, oHd_c (fun i _ => h 76 0 i (by omega)) g2, (h 9 0 10 (by omega)).trans g3, (h 9 0 11 (by omega)).trans g4, (h 75 0 1 (by omega)).trans g5, oCd_c (fun i _ => h 105 0 i (by omega)) g6⟩
theorem oTS_a {T : Nat → Int} {L s : Nat} {M MM : SMem} (g : oTS T L s M) (h : oAdv M L (oS (M 57 0) L (oE T L s)) MM) : oTS T L (oN T L s) MM := by
  obtain ⟨g1, g2, g3, g4, g5, g6⟩ := g
  rw [g1] at h
  obtain ⟨a1, a2, a3, a4, a5, a6⟩ := h
  rw [g1] at a4 a5 a6
  exact ⟨(oFm_row a2 (fun i q => by omega)).trans g1, (a2 3 0 1 (by omega)).trans g2, a3, a4, a5, a6⟩
theorem oStp_lt {T : Nat → Int} {L s : Nat} {st : List Nat} {dd : Nat} {pn : Bool} {c : List Int} {y : OSt} (h : oStp (oK T L) (oV T L) s st dd pn c = .ok y) : s < L := by
  refine oK_lt (T := T) (fun q => ?_)
  rw [oStp_end q] at h
  cases h
theorem oE_le {T : Nat → Int} {L s : Nat} (h : s ≤ L) : oE T L s ≤ L := by
  rcases Nat.lt_or_ge s L with q | q
  · exact (oE_bd q).2
  · unfold oE
    rw [if_pos q]
    exact h
section CO5
variable {EX : SEx} {l : Launch} {dC : Nat → ClassId} {dI : Nat → Nat → Nat} {cA : Nat → ClassId} {ad : SAd} {scrS d : Nat}
theorem b_readWhen (hp : cPl tm tc tf EX) (hch : cCh EX l dC dI cA scrS) {T : Nat → Int} {L s0 : Nat} {c0 : List Int} {M : SMem} (hI : sI tg M) (hT : oTS T L s0 M) (hn : M 75 0 1 = (c0.length : Int)) (hcd : oCd (M 105 0) c0) (hcs : c0.length ≤ s0) (hsL : s0 ≤ L) (h9 : L ≤ 1000) : cBG tm tf EX l dC dI cA ad scrS (d + 7) kX4_readWhen [(2, 9, 0)] M (fun rr MM => oWP T L (oRu (oK T L) (oV T L) (oN T L) L s0 [] 0 true c0) M rr MM) := by
  refine cMeth (v := []) (Fd := 90) hp (by decide) gX4_readWhen_ok gX4_readWhen_m0 (by simp [cAs, cE2, sev, svl, cen]) ?_
  obtain ⟨R0, hR0⟩ : ∃ R0, R0 = oRu (oK T L) (oV T L) (oN T L) L s0 [] 0 true c0 := ⟨_, rfl⟩
  rw [← hR0]
  have hTk := oTk_of (T := T) (L := L)
  have err79 : ∀ (MW : SMem) (f : Int), sI tg MW → oFm oPw M MW → MW 9 0 7 = f → R0 = .error f → cEnds (cBG tm tf EX l dC dI cA ad scrS (d + 6)) (fun rr MM => oWP T L R0 M rr MM) 90 gX4_readWhen 79 [0] MW := by
    intro MW f g1 g2 g3 g4
    refine cEnds_at gX4_readWhen_m79 rfl ?_
    refine d_br (fun h => ?_) (fun h => ?_)
    · simp only [cCmp, cE2, sev, svl, cen, List.cons_append, List.nil_append] at h
      omega
    · exact d_ret [0] rfl (by decide) ⟨g1, g2, Or.inl ⟨f, g4, rfl, g3⟩⟩
  have err19 : ∀ (k : Nat) (MW : SMem) (f : Int), sI tg MW → oFm oPw M MW → MW 9 0 7 = f → R0 = .error f → cEnds (cBG tm tf EX l dC dI cA ad scrS (d + 6)) (fun rr MM => oWP T L R0 M rr MM) 90 gX4_readWhen 19 [0, (k : Int)] MW := by
    intro k MW f g1 g2 g3 g4
    refine cEnds_at gX4_readWhen_m19 rfl ?_
    refine d_br (fun h => ?_) (fun h => ?_)
    · refine d_cut [0] (by simp [cE2, sev, svl, cen] <;> omega) ?_
      exact err79 MW f g1 g2 g3 g4
    · refine d_br (fun h => ?_) (fun h => ?_)
      · refine d_cut [0] (by simp [cE2, sev, svl, cen] <;> omega) ?_
        exact err79 MW f g1 g2 g3 g4
      · simp only [cCmp, cE2, sev, svl, cen, List.cons_append, List.nil_append] at h
        omega
  have stop79 : ∀ (s dd : Nat) (st : List Nat) (c : List Int) (MW : SMem), s ≤ L → sI tg MW → oFm oPw M MW → oTS T L s MW → oCS MW st dd false c → oWf st → oOp st = dd → dd ≤ 5 → c.length + st.length ≤ s → oK T L s = 23 → oRu (oK T L) (oV T L) (oN T L) L s st dd false c = R0 → cEnds (cBG tm tf EX l dC dI cA ad scrS (d + 6)) (fun rr MM => oWP T L R0 M rr MM) 90 gX4_readWhen 79 [1] MW := by
    intro s dd st c MW hs g1 g2 g3 g4 gW gO g5 gl gK gR
    have hlen := oWf_len gW
    have htr := oTr_le st
    obtain ⟨w1, w2, w3, w4⟩ := oRl_wf (r := 1) (Nat.le_refl _) (c := c) gW
    rw [oRu_stp hs gK] at gR
    obtain ⟨w, hw⟩ : ∃ w, w = (oRl 1 st c).1.length := ⟨_, rfl⟩
    have hlt : s < L := oK_lt (T := T) (by rw [gK]; decide)
    refine cEnds_at gX4_readWhen_m79 rfl ?_
    refine d_br (fun h => ?_) (fun h => ?_)
    · clear h
      refine d_call (b_release (d := d + 4) hp (r := 1) (dd := dd) (pn := false) (st0 := st) (c0 := c) (Nat.le_refl _) (by omega) g1 g4 gW (by omega) (by omega)) (by simp [cAs, cE2, sev, svl, cen] <;> omega) ?_
      intro rr M' hq
      obtain ⟨rfl, i1, f1, s1⟩ := hq
      have k9 : M' 9 0 9 = (w : Int) := by rw [hw]; exact s1.1
      have hT1 := oTS_m f1 g3
      have f2 : oFm oPw M M' := oFm_t g2 (oFm_w (fun _ _ q => Or.inl q) f1)
      refine ⟨rfl, ?_⟩
      refine d_fld 0 (by simp only [cE2, sev, svl, cen, List.cons_append, List.nil_append]; omega) ?_
      rw [k9]
      refine d_br (fun h => ?_) (fun h => ?_)
      · simp only [cCmp, cE2, sev, svl, cen, List.cons_append, List.nil_append] at h
        first
        | omega
        | skip
          exact d_ret [1] rfl (by decide) ⟨i1, f2, Or.inr ⟨s, (oRl 1 st c).2, by rw [← gR, if_pos (by omega)], rfl, hT1, gK, hlt, s1.2.2.2.2.1, s1.2.2.2.2.2, by omega⟩⟩
      · simp only [cCmp, cE2, sev, svl, cen, List.cons_append, List.nil_append] at h
        first
        | omega
        | skip
          refine d_call (b_refuse hp (k := 1) (s := s) hT1.2.2.1 (by omega) ⟨by omega, by omega⟩) (by simp [cAs, cE2, sev, svl, cen] <;> omega) ?_
          intro rr M' hq
          obtain ⟨rfl, hM'⟩ := hq
          refine ⟨rfl, ?_⟩
          refine d_br (fun h => ?_) (fun h => ?_)
          · clear h
            exact d_ret [0] rfl (by decide) ⟨by rw [hM']; exact wI i1 (lo := 0) (hi := 46655) rfl ⟨by omega, by omega⟩, by rw [hM']; exact oFm_p (Or.inl (Or.inr (Or.inr (Or.inl ⟨rfl, Or.inl rfl⟩)))) f2, Or.inl ⟨_, by rw [← gR, if_neg (by omega)], rfl, by rw [hM', supd_at]⟩⟩
          · simp only [cCmp, cE2, sev, svl, cen, List.cons_append, List.nil_append] at h
            omega
    · simp only [cCmp, cE2, sev, svl, cen, List.cons_append, List.nil_append] at h
      omega
  have loop : ∀ (m s dd : Nat) (st : List Nat) (pn : Bool) (c : List Int) (k : Nat) (MW : SMem), L + 1 - s ≤ m → s ≤ L → k ≤ s → sI tg MW → oFm oPw M MW → oTS T L s MW → oCS MW st dd pn c → oWf st → oOp st = dd → dd ≤ 5 → c.length + st.length ≤ s → oRu (oK T L) (oV T L) (oN T L) L s st dd pn c = R0 → cEnds (cBG tm tf EX l dC dI cA ad scrS (d + 6)) (fun rr MM => oWP T L R0 M rr MM) 90 gX4_readWhen 19 [1, (k : Int)] MW := by
    intro m
    induction m with
    | zero => intro s dd st pn c k MW hm hs; omega
    | succ m ih =>
      intro s dd st pn c k MW hm hs hks g1 g2 g3 g4 gW gO g5 gl gR
      have g11 := g4.2.2.2.1
      have next : ∀ (y : OSt) (M1 M2 : SMem), oStp (oK T L) (oV T L) s st dd pn c = .ok y → ¬ (pn = false ∧ oK T L s = 23) → sI tg M1 → oFm oPm MW M1 → oCS M1 y.1 y.2.1 y.2.2.1 y.2.2.2 → oAdv M1 L (oS (M1 57 0) L (oE T L s)) M2 → cEnds (cBG tm tf EX l dC dI cA ad scrS (d + 6)) (fun rr MM => oWP T L R0 M rr MM) 90 gX4_readWhen 19 [1, ((k + 1 : Nat) : Int)] M2 := by
        intro y M1 M2 q1 q2 q3 q4 q5 q6
        have hlt := oStp_lt q1
        have hN := hTk.1 s hlt
        obtain ⟨v1, v2, v3, v4⟩ := oStp_inv gW gO g5 q1
        have hT1 := oTS_m q4 g3
        rw [oRu_ok hTk hs q2 q1] at gR
        exact ih (oN T L s) y.2.1 y.1 y.2.2.1 y.2.2.2 (k + 1) M2 (by omega) hN.2 (by omega) q6.1 (oFm_t g2 (oFm_t (oFm_w (fun _ _ q => Or.inl q) q4) (oFm_w (fun _ _ q => Or.inr q) q6.2.1))) (oTS_a hT1 q6) (oCS_a q6.2.1 q5) v1 v2 v3 (by omega) gR
      have fail : ∀ (f : Int) (M1 : SMem), oStp (oK T L) (oV T L) s st dd pn c = .error f → ¬ (pn = false ∧ oK T L s = 23) → sI tg M1 → oFm oPm MW M1 → M1 9 0 7 = f → cEnds (cBG tm tf EX l dC dI cA ad scrS (d + 6)) (fun rr MM => oWP T L R0 M rr MM) 90 gX4_readWhen 19 [0, ((k + 1 : Nat) : Int)] M1 := by
        intro f M1 q1 q2 q3 q4 q5
        rw [oRu_err hs q2 q1] at gR
        exact err19 (k + 1) M1 f q3 (oFm_t g2 (oFm_w (fun _ _ q => Or.inl q) q4)) q5 gR.symm
      refine cEnds_at gX4_readWhen_m19 rfl ?_
      cases pn with
      | true =>
        have g11 : MW 9 0 11 = 1 := g11
        refine d_br (fun h => ?_) (fun h => ?_)
        · simp only [cCmp, cE2, sev, svl, cen, List.cons_append, List.nil_append] at h
          first
          | omega
          | skip
            refine d_cut [1] (by simp [cE2, sev, svl, cen] <;> omega) ?_
            exact (by omega)
        · simp only [cCmp, cE2, sev, svl, cen, List.cons_append, List.nil_append] at h
          first
          | omega
          | skip
            refine d_br (fun h => ?_) (fun h => ?_)
            · simp only [cCmp, cE2, sev, svl, cen, List.cons_append, List.nil_append] at h
              omega
            · clear h
              refine d_fld 0 (by simp only [cE2, sev, svl, cen, List.cons_append, List.nil_append]; omega) ?_
              rw [g11]
              refine d_br (fun h => ?_) (fun h => ?_)
              · clear h
                refine d_fld 0 (by simp only [cE2, sev, svl, cen, List.cons_append, List.nil_append]; omega) ?_
                rw [g11]
                refine d_br (fun h => ?_) (fun h => ?_)
                · simp only [cCmp, cE2, sev, svl, cen, List.cons_append, List.nil_append] at h
                  omega
                · clear h
                  refine d_call (b_takePart (d := d + 2) hp g1 g3 g4 gW gO g5 gl hs h9) (by simp [cAs, cE2, sev, svl, cen] <;> omega) ?_
                  intro rr M' hq
                  have hq9 := hq
                  obtain ⟨z, rfl, hz⟩ := oTP_rr hq9
                  have hT1 := oTS_m hq9.2.1 g3
                  refine ⟨rfl, ?_⟩
                  refine d_br (fun h => ?_) (fun h => ?_)
                  · simp only [cCmp, cE2, sev, svl, cen, List.cons_append, List.nil_append] at h
                    first
                    | omega
                    | skip
                      refine d_rng (by simp only [clo, chi, cE2, sev, svl, cen, List.cons_append, List.nil_append]; omega) ?_
                      refine d_cut [z, ((k + 1 : Nat) : Int)] (by simp [cE2, sev, svl, cen] <;> omega) ?_
                      have z0 : z = 0 := by omega
                      subst z0
                      obtain ⟨f, q1, q5⟩ := oTP_e hq9
                      exact fail f _ q1 (fun q => Bool.noConfusion q.1) hq9.1 hq9.2.1 q5
                  · simp only [cCmp, cE2, sev, svl, cen, List.cons_append, List.nil_append] at h
                    first
                    | omega
                    | skip
                      refine d_call (b_advance (d := d) hp hch (p := oE T L s) (L := L) hq9.1 hT1.2.2.2.1 hT1.2.1 (oE_le hs) h9) (by simp [cAs, cE2, sev, svl, cen] <;> omega) ?_
                      intro rr M' hq
                      obtain ⟨rfl, ha⟩ := hq
                      refine ⟨rfl, ?_⟩
                      refine d_rng (by simp only [clo, chi, cE2, sev, svl, cen, List.cons_append, List.nil_append]; omega) ?_
                      refine d_cut [z, ((k + 1 : Nat) : Int)] (by simp [cE2, sev, svl, cen] <;> omega) ?_
                      have z1 : z = 1 := by omega
                      subst z1
                      obtain ⟨y, q1, q5⟩ := oTP_o hq9
                      exact next y _ _ q1 (fun q => Bool.noConfusion q.1) hq9.1 hq9.2.1 q5 ha
              · simp only [cCmp, cE2, sev, svl, cen, List.cons_append, List.nil_append] at h
                omega
      | false =>
        have g11 : MW 9 0 11 = 0 := g11
        refine d_br (fun h => ?_) (fun h => ?_)
        · simp only [cCmp, cE2, sev, svl, cen, List.cons_append, List.nil_append] at h
          first
          | omega
          | skip
            refine d_cut [1] (by simp [cE2, sev, svl, cen] <;> omega) ?_
            exact (by omega)
        · simp only [cCmp, cE2, sev, svl, cen, List.cons_append, List.nil_append] at h
          first
          | omega
          | skip
            refine d_br (fun h => ?_) (fun h => ?_)
            · simp only [cCmp, cE2, sev, svl, cen, List.cons_append, List.nil_append] at h
              omega
            · clear h
              refine d_fld 0 (by simp only [cE2, sev, svl, cen, List.cons_append, List.nil_append]; omega) ?_
              rw [g11]
              refine d_br (fun h => ?_) (fun h => ?_)
              · simp only [cCmp, cE2, sev, svl, cen, List.cons_append, List.nil_append] at h
                omega
              · clear h
                refine d_fld 0 (by simp only [cE2, sev, svl, cen, List.cons_append, List.nil_append]; omega) ?_
                rw [g3.2.2.2.2.1]
                refine d_br (fun h => ?_) (fun h => ?_)
                · simp only [cCmp, cE2, sev, svl, cen, List.cons_append, List.nil_append] at h
                  first
                  | omega
                  | skip
                    refine d_cut [1] (by simp [cE2, sev, svl, cen] <;> omega) ?_
                    exact stop79 s dd st c MW hs g1 g2 g3 g4 gW gO g5 gl (by omega) gR
                · simp only [cCmp, cE2, sev, svl, cen, List.cons_append, List.nil_append] at h
                  first
                  | omega
                  | skip
                    refine d_fld 0 (by simp only [cE2, sev, svl, cen, List.cons_append, List.nil_append]; omega) ?_
                    rw [g11]
                    refine d_br (fun h => ?_) (fun h => ?_)
                    · clear h
                      refine d_call (b_takeJoint (d := d + 1) hp g1 g3 g4 gW gO g5 gl hs h9) (by simp [cAs, cE2, sev, svl, cen] <;> omega) ?_
                      intro rr M' hq
                      have hq9 := hq
                      obtain ⟨z, rfl, hz⟩ := oTP_rr hq9
                      have hT1 := oTS_m hq9.2.1 g3
                      refine ⟨rfl, ?_⟩
                      refine d_br (fun h => ?_) (fun h => ?_)
                      · simp only [cCmp, cE2, sev, svl, cen, List.cons_append, List.nil_append] at h
                        first
                        | omega
                        | skip
                          refine d_rng (by simp only [clo, chi, cE2, sev, svl, cen, List.cons_append, List.nil_append]; omega) ?_
                          refine d_cut [z, ((k + 1 : Nat) : Int)] (by simp [cE2, sev, svl, cen] <;> omega) ?_
                          have z0 : z = 0 := by omega
                          subst z0
                          obtain ⟨f, q1, q5⟩ := oTP_e hq9
                          exact fail f _ q1 (fun q => by omega) hq9.1 hq9.2.1 q5
                      · simp only [cCmp, cE2, sev, svl, cen, List.cons_append, List.nil_append] at h
                        first
                        | omega
                        | skip
                          refine d_call (b_advance (d := d) hp hch (p := oE T L s) (L := L) hq9.1 hT1.2.2.2.1 hT1.2.1 (oE_le hs) h9) (by simp [cAs, cE2, sev, svl, cen] <;> omega) ?_
                          intro rr M' hq
                          obtain ⟨rfl, ha⟩ := hq
                          refine ⟨rfl, ?_⟩
                          refine d_rng (by simp only [clo, chi, cE2, sev, svl, cen, List.cons_append, List.nil_append]; omega) ?_
                          refine d_cut [z, ((k + 1 : Nat) : Int)] (by simp [cE2, sev, svl, cen] <;> omega) ?_
                          have z1 : z = 1 := by omega
                          subst z1
                          obtain ⟨y, q1, q5⟩ := oTP_o hq9
                          exact next y _ _ q1 (fun q => by omega) hq9.1 hq9.2.1 q5 ha
                    · simp only [cCmp, cE2, sev, svl, cen, List.cons_append, List.nil_append] at h
                      omega
  refine cEnds_at gX4_readWhen_m0 rfl ?_
  refine d_put 0 0 (by simp only [cE2, sev, svl, cen, List.cons_append, List.nil_append]; omega) (by simp only [cE2, sev, svl, cen, List.cons_append, List.nil_append]; omega) ?_
  refine d_put 0 0 (by simp only [cE2, sev, svl, cen, List.cons_append, List.nil_append]; omega) (by simp only [cE2, sev, svl, cen, List.cons_append, List.nil_append]; omega) ?_
  refine d_rng (by simp only [clo, chi, cE2, sev, svl, cen, List.cons_append, List.nil_append]; omega) ?_
  refine d_put 0 1 (by simp only [cE2, sev, svl, cen, List.cons_append, List.nil_append]; omega) (by simp only [cE2, sev, svl, cen, List.cons_append, List.nil_append]; omega) ?_
  refine d_cut [1, ((0 : Nat) : Int)] (by simp [cE2, sev, svl, cen] <;> omega) ?_
  have i1 : sI tg (supd (supd (supd M 9 0 9 0) 9 0 10 0) 9 0 11 1) := wI (wI (wI hI (lo := 0) (hi := 64) rfl ⟨by omega, by omega⟩) (lo := -2147483648) (hi := 2147483647) rfl ⟨by omega, by omega⟩) (lo := 0) (hi := 1) rfl ⟨by omega, by omega⟩
  have f1 : oFm oPm M (supd (supd (supd M 9 0 9 0) 9 0 10 0) 9 0 11 1) := oFm_p (Or.inr (Or.inr (Or.inl ⟨rfl, Or.inr (Or.inr (Or.inr rfl))⟩))) (oFm_p (Or.inr (Or.inr (Or.inl ⟨rfl, Or.inr (Or.inr (Or.inl rfl))⟩))) (oFm_p (Or.inr (Or.inr (Or.inl ⟨rfl, Or.inr (Or.inl rfl)⟩))) oFm_r))
  refine loop (L + 1 - s0) s0 0 [] true c0 0 _ (Nat.le_refl _) hsL (Nat.zero_le _) i1 (oFm_w (fun _ _ q => Or.inl q) f1) (oTS_m f1 hT) ⟨?_, trivial, ?_, supd_at _ _ _ _ _, ?_, oCd_c (fun i _ => ?_) hcd⟩ trivial rfl (Nat.zero_le _) (by show c0.length + 0 ≤ s0; omega) hR0.symm
  · rw [supd_i (by decide), supd_i (by decide), supd_at]
    rfl
  · rw [supd_i (by decide), supd_at]
    rfl
  · rw [supd_f (by decide), supd_f (by decide), supd_f (by decide)]
    exact hn
  · rw [supd_f (by decide), supd_f (by decide), supd_f (by decide)]
end CO5
