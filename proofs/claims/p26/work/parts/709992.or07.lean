/-! the class reads an order -/
theorem oStp_pos {K : Nat → Nat} {V : Nat → Int} {s : Nat} {st : List Nat} {dd : Nat} {pn : Bool} {c : List Int} {f : Int} (h : oStp K V s st dd pn c = .error f) : 0 < f := by
  unfold oStp at h
  cases pn with
  | true =>
    rw [cond_true] at h
    repeat' split at h
    all_goals first
      | (cases h; omega)
      | cases h
  | false =>
    rw [cond_false] at h
    repeat' split at h
    all_goals first
      | (cases h; omega)
      | cases h
theorem oGo_pos {K : Nat → Nat} {V : Nat → Int} {N : Nat → Nat} {L : Nat} (hT : oTk K N L) : ∀ (m s : Nat) (st : List Nat) (dd : Nat) (pn : Bool) (c : List Int) (f : Int), s ≤ L → L + 1 - s ≤ m → oGo K V N m s st dd pn c = .error f → 0 < f := by
  intro m
  induction m with
  | zero => intro s st dd pn c f h1 h2; omega
  | succ m ih =>
    intro s st dd pn c f h1 h2 h
    rw [oGo_s] at h
    by_cases g : pn = false ∧ K s = 23
    · rw [if_pos g] at h
      split at h
      · cases h
      · cases h; omega
    · rw [if_neg g] at h
      cases hs : oStp K V s st dd pn c with
      | error e =>
        rw [hs] at h
        cases h
        exact oStp_pos hs
      | ok y =>
        rw [hs] at h
        have hlt : s < L := by
          rcases Nat.lt_or_ge s L with q | q
          · exact q
          · rw [oStp_end (hT.2 s q)] at hs; cases hs
        have := hT.1 s hlt
        exact ih (N s) _ _ _ _ f (by omega) (by omega) h
theorem oLin_pos {T U : Nat → Int} {L lno s : Nat} {f : Int} (hs : s ≤ L) (h : oLin T L U lno s = .error f) : 0 < f := by
  have hN := (oTk_of (T := T) (L := L)).1
  unfold oLin at h
  by_cases g1 : 3 < oK T L s
  · rw [if_pos g1] at h; cases h; omega
  rw [if_neg g1] at h
  have b0 := hN s (oK_lt (T := T) (by omega))
  by_cases g2 : 12 ≤ lno
  · rw [if_pos g2] at h; cases h; omega
  rw [if_neg g2] at h
  by_cases g3 : oK T L (oN T L s) ≠ 15
  · rw [if_pos g3] at h; cases h; omega
  rw [if_neg g3] at h
  have b1 := hN (oN T L s) (oK_lt (T := T) (by omega))
  by_cases g4 : 8 ≤ oV T L (oN T L s)
  · rw [if_pos g4] at h; cases h; omega
  rw [if_neg g4] at h
  by_cases g5 : U (oV T L (oN T L s)).toNat = 0
  · rw [if_pos g5] at h; cases h; omega
  rw [if_neg g5] at h
  by_cases g6 : oK T L (oN T L (oN T L s)) ≠ 4
  · rw [if_pos g6] at h; cases h; omega
  rw [if_neg g6] at h
  have b2 := hN (oN T L (oN T L s)) (oK_lt (T := T) (by omega))
  cases hr : oRu (oK T L) (oV T L) (oN T L) L (oN T L (oN T L (oN T L s))) [] 0 true [] with
  | error e =>
    rw [hr] at h
    cases h
    exact oGo_pos oTk_of _ _ _ _ _ _ _ b2.2 (Nat.le_refl _) hr
  | ok q => rw [hr] at h; cases h
theorem oLin_lt {T U : Nat → Int} {L lno s : Nat} {q : Nat × OLn} (h : oLin T L U lno s = .ok q) : lno < 12 := by
  rcases Nat.lt_or_ge lno 12 with g | g
  · exact g
  · unfold oLin at h
    by_cases g1 : 3 < oK T L s
    · rw [if_pos g1] at h; cases h
    · rw [if_neg g1, if_pos g] at h; cases h
/-- the lines kept: rows, and the codes of each -/
abbrev oSl (M : SMem) (ls : List OLn) (c : List Int) : Prop := M 75 0 0 = (ls.length : Int) ∧ M 75 0 1 = (c.length : Int) ∧ oCd (M 105 0) c ∧ ∀ (k : Nat) (q : OLn), ls[k]? = some q → M 101 0 k = q.1 + 1 ∧ M 102 0 k = q.2.1 ∧ ∃ fr : Nat, M 103 0 k = (fr : Int) ∧ M 104 0 k = ((fr + q.2.2.length : Nat) : Int) ∧ ∀ (j : Nat) (x : Int), q.2.2[j]? = some x → c[fr + j]? = some x
def oRQ (T : Nat → Int) (L : Nat) (U : Nat → Int) (rr : List Int) (MM : SMem) : Prop := (∃ f, oRd T L U 14 0 (oS T L 0) [] = .error f ∧ 0 < f ∧ rr = [f] ∧ f ≤ 46655) ∨ ∃ ls c, oRd T L U 14 0 (oS T L 0) [] = .ok ls ∧ ls.length ≤ 12 ∧ rr = [0] ∧ oSl MM ls c
abbrev oRP (T : Nat → Int) (L : Nat) (U : Nat → Int) (M : SMem) (rr : List Int) (MM : SMem) : Prop := sI tg MM ∧ oFm oPl M MM ∧ oRQ T L U rr MM
theorem oLP_0 {T : Nat → Int} {L : Nat} {U : Nat → Int} {lno s : Nat} {c : List Int} {M MM : SMem} (h : oLP T L U lno s c M [0] MM) : ∃ f, oLin T L U lno s = .error f ∧ MM 9 0 7 = f := by
  rcases h.2.2.2 with ⟨f, e1, -, e2⟩ | ⟨q, -, e, -⟩
  · exact ⟨f, e1, e2⟩
  · exact absurd (List.cons.inj e).1 (by decide)
theorem oLP_1 {T : Nat → Int} {L : Nat} {U : Nat → Int} {lno s : Nat} {c : List Int} {M MM : SMem} (h : oLP T L U lno s c M [1] MM) : ∃ q, oLin T L U lno s = .ok q ∧ oTS T L q.1 MM ∧ q.1 ≤ L ∧ MM 75 0 0 = (lno : Int) + 1 ∧ MM 101 0 lno = q.2.1 + 1 ∧ MM 102 0 lno = q.2.2.1 ∧ MM 103 0 lno = (c.length : Int) ∧ MM 104 0 lno = ((c ++ q.2.2.2).length : Int) ∧ MM 75 0 1 = ((c ++ q.2.2.2).length : Int) ∧ oCd (MM 105 0) (c ++ q.2.2.2) ∧ (c ++ q.2.2.2).length ≤ q.1 := by
  rcases h.2.2.2 with ⟨f, -, e, -⟩ | ⟨q, e1, -, q2⟩
  · exact absurd (List.cons.inj e).1 (by decide)
  · exact ⟨q, e1, q2⟩
theorem oSl_s {M MM : SMem} {ls : List OLn} {c : List Int} {q : OLn} {lno : Nat} (gl : ls.length = lno) (g : oSl M ls c) (hr : ∀ f k, k ≠ lno → (f = 101 ∨ f = 102 ∨ f = 103 ∨ f = 104) → MM f 0 k = M f 0 k) (p3 : MM 75 0 0 = (lno : Int) + 1) (p4 : MM 101 0 lno = q.1 + 1) (p5 : MM 102 0 lno = q.2.1) (p6 : MM 103 0 lno = (c.length : Int)) (p7 : MM 104 0 lno = ((c ++ q.2.2).length : Int)) (p8 : MM 75 0 1 = ((c ++ q.2.2).length : Int)) (p9 : oCd (MM 105 0) (c ++ q.2.2)) : oSl MM (ls ++ [q]) (c ++ q.2.2) := by
  obtain ⟨g1, g2, g3, g4⟩ := g
  refine ⟨by rw [p3, List.length_append, gl]; rfl, p8, p9, fun k q' hk => ?_⟩
  rcases Nat.lt_or_ge k ls.length with h | h
  · rw [List.getElem?_append_left h] at hk
    obtain ⟨r1, r2, fr, r3, r4, r5⟩ := g4 k q' hk
    refine ⟨(hr 101 k (by omega) (by omega)).trans r1, (hr 102 k (by omega) (by omega)).trans r2, fr, (hr 103 k (by omega) (by omega)).trans r3, (hr 104 k (by omega) (by omega)).trans r4, fun j x hj => ?_⟩
    have := r5 j x hj
    rw [List.getElem?_append_left (List.getElem?_eq_some_iff.mp this).1]
    exact this
  · rw [List.getElem?_append_right h] at hk
    have hk2 := (List.getElem?_eq_some_iff.mp hk).1
    have e : k = lno := by
      have : k - ls.length < 1 := hk2
      omega
    subst e
    rw [gl, Nat.sub_self] at hk
    cases hk
    refine ⟨p4, p5, c.length, p6, by rw [p7, List.length_append], fun j x hj => ?_⟩
    rw [List.getElem?_append_right (by omega), show c.length + j - c.length = j by omega]
    exact hj
section CO7
variable {EX : SEx} {l : Launch} {dC : Nat → ClassId} {dI : Nat → Nat → Nat} {cA : Nat → ClassId} {ad : SAd} {scrS d : Nat}
theorem b_oclear (hp : cPl tm tc tf EX) {M : SMem} : cBG tm tf EX l dC dI cA ad scrS (d + 1) kX3_clear [(2, 75, 0)] M (fun rr MM => rr = [] ∧ MM = supd (supd M 75 0 0 0) 75 0 1 0) := by
  refine cMeth (v := []) (Fd := 90) hp (by decide) gX3_clear_ok gX3_clear_m0 (by simp [cAs, cE2, sev, svl, cen]) ?_
  refine cEnds_at gX3_clear_m0 rfl ?_
  refine d_put 0 0 (by simp only [cE2, sev, svl, cen, List.cons_append, List.nil_append]; omega) (by simp only [cE2, sev, svl, cen, List.cons_append, List.nil_append]; omega) ?_
  refine d_put 0 0 (by simp only [cE2, sev, svl, cen, List.cons_append, List.nil_append]; omega) (by simp only [cE2, sev, svl, cen, List.cons_append, List.nil_append]; omega) ?_
  exact d_ret [] rfl (by decide) ⟨rfl, rfl⟩
theorem b_read (hp : cPl tm tc tf EX) (hch : cCh EX l dC dI cA scrS) {T U : Nat → Int} {L : Nat} {M : SMem} (hI : sI tg M) (hT : M 57 0 = T) (hL : M 3 0 1 = (L : Int)) (hU : M 58 0 = U) (h9 : L ≤ 1000) : cBG tm tf EX l dC dI cA ad scrS (d + 9) kX4_read [(2, 9, 0)] M (fun rr MM => oRP T L U M rr MM) := by
  refine cMeth (v := []) (Fd := 90) hp (by decide) gX4_read_ok gX4_read_m0 (by simp [cAs, cE2, sev, svl, cen]) ?_
  obtain ⟨R0, hR0⟩ : ∃ R0, R0 = oRd T L U 14 0 (oS T L 0) [] := ⟨_, rfl⟩
  have err : ∀ (k : Nat) (f : Int) (MW : SMem), sI tg MW → oFm oPl M MW → MW 9 0 7 = f → R0 = .error f → 0 < f → cEnds (cBG tm tf EX l dC dI cA ad scrS (d + 8)) (fun rr MM => oRP T L U M rr MM) 90 gX4_read 25 [0, (k : Int)] MW := by
    intro k f MW g1 g2 g3 g4 g5
    have b7 := wIb (f := 9) (i := 7) (lo := 0) (hi := 46655) g1 0 rfl
    refine cEnds_at gX4_read_m25 rfl ?_
    refine d_br (fun h => ?_) (fun h => ?_)
    · simp only [cCmp, cE2, sev, svl, cen, List.cons_append, List.nil_append] at h
      first
      | omega
      | skip
        refine d_br (fun h => ?_) (fun h => ?_)
        · clear h
          refine d_fld 0 (by simp only [cE2, sev, svl, cen, List.cons_append, List.nil_append]; omega) ?_
          rw [g3]
          exact wret1 f (by simp only [cE2, sev, svl, cen, List.cons_append, List.nil_append]; omega) (by omega) ⟨g1, g2, Or.inl ⟨f, hR0.symm.trans g4, g5, rfl, by omega⟩⟩
        · simp only [cCmp, cE2, sev, svl, cen, List.cons_append, List.nil_append] at h
          omega
    · simp only [cCmp, cE2, sev, svl, cen, List.cons_append, List.nil_append] at h
      first
      | omega
      | skip
        refine d_br (fun h => ?_) (fun h => ?_)
        · clear h
          refine d_br (fun h => ?_) (fun h => ?_)
          · clear h
            refine d_fld 0 (by simp only [cE2, sev, svl, cen, List.cons_append, List.nil_append]; omega) ?_
            rw [g3]
            exact wret1 f (by simp only [cE2, sev, svl, cen, List.cons_append, List.nil_append]; omega) (by omega) ⟨g1, g2, Or.inl ⟨f, hR0.symm.trans g4, g5, rfl, by omega⟩⟩
          · simp only [cCmp, cE2, sev, svl, cen, List.cons_append, List.nil_append] at h
            omega
        · simp only [cCmp, cE2, sev, svl, cen, List.cons_append, List.nil_append] at h
          omega
  have loop : ∀ (m lno s : Nat) (c : List Int) (ls : List OLn) (MW : SMem), lno + m = 14 → lno ≤ 12 → s ≤ L → sI tg MW → oFm oPl M MW → oTS T L s MW → c.length ≤ s → ls.length = lno → oSl MW ls c → oRd T L U m lno s ls = R0 → cEnds (cBG tm tf EX l dC dI cA ad scrS (d + 8)) (fun rr MM => oRP T L U M rr MM) 90 gX4_read 25 [1, (lno : Int)] MW := by
    intro m
    induction m with
    | zero => intro lno s c ls MW h1 h2; omega
    | succ m ih =>
      intro lno s c ls MW h1 h2 hs g1 g2 g3 gc gl gS gR
      have u1 : MW 58 0 = U := (oFm_row g2 (fun i q => by omega)).trans hU
      have gR : (if oK T L s = 24 then .ok ls else match oLin T L U lno s with
        | .error f => .error f
        | .ok q => oRd T L U m (lno + 1) q.1 (ls ++ [q.2])) = R0 := gR
      refine cEnds_at gX4_read_m25 rfl ?_
      refine d_br (fun h => ?_) (fun h => ?_)
      · simp only [cCmp, cE2, sev, svl, cen, List.cons_append, List.nil_append] at h
        first
        | omega
        | skip
          refine d_br (fun h => ?_) (fun h => ?_)
          · simp only [cCmp, cE2, sev, svl, cen, List.cons_append, List.nil_append] at h
            omega
          · clear h
            exact d_ret [0] rfl (by decide) (by omega)
      · simp only [cCmp, cE2, sev, svl, cen, List.cons_append, List.nil_append] at h
        first
        | omega
        | skip
          refine d_br (fun h => ?_) (fun h => ?_)
          · simp only [cCmp, cE2, sev, svl, cen, List.cons_append, List.nil_append] at h
            omega
          · clear h
            refine d_fld 0 (by simp only [cE2, sev, svl, cen, List.cons_append, List.nil_append]; omega) ?_
            rw [g3.2.2.2.2.1]
            refine d_br (fun h => ?_) (fun h => ?_)
            · simp only [cCmp, cE2, sev, svl, cen, List.cons_append, List.nil_append] at h
              first
              | omega
              | skip
                refine d_br (fun h => ?_) (fun h => ?_)
                · simp only [cCmp, cE2, sev, svl, cen, List.cons_append, List.nil_append] at h
                  omega
                · clear h
                  exact d_ret [0] rfl (by decide) ⟨g1, g2, Or.inr ⟨ls, c, by rw [← hR0, ← gR, if_pos (by omega)], by omega, rfl, gS⟩⟩
            · simp only [cCmp, cE2, sev, svl, cen, List.cons_append, List.nil_append] at h
              first
              | omega
              | skip
                refine d_call (b_readLine (d := d) hp hch (T := T) (U := U) (L := L) (s := s) (lno := lno) (c := c) g1 g3 u1 gS.2.1 gS.2.2.1 gc h2 hs (by omega) h9) (by simp [cAs, cE2, sev, svl, cen] <;> omega) ?_
                intro rr M1 hq
                have hq9 := hq
                obtain ⟨z, rfl, hz⟩ := oLP_rr hq9
                refine ⟨rfl, ?_⟩
                refine d_rng (by simp only [clo, chi, cE2, sev, svl, cen, List.cons_append, List.nil_append]; omega) ?_
                refine d_cut [z, ((lno + 1 : Nat) : Int)] (by simp [cE2, sev, svl, cen] <;> omega) ?_
                rw [if_neg (by omega)] at gR
                rcases hz with z0 | z1
                · subst z0; obtain ⟨f, e1, e7⟩ := oLP_0 hq9; rw [e1] at gR; exact err (lno + 1) f _ hq9.1 (oFm_t g2 hq9.2.1) e7 gR.symm (oLin_pos hs e1)
                subst z1
                obtain ⟨q, e1, p1, p2, p3, p4, p5, p6, p7, p8, p9, p10⟩ := oLP_1 hq9
                rw [e1] at gR
                have h12 := oLin_lt e1
                exact ih (lno + 1) q.1 (c ++ q.2.2.2) (ls ++ [q.2]) M1 (by omega) (by omega) p2 hq9.1 (oFm_t g2 hq9.2.1) p1 p10 (by rw [List.length_append, gl]; rfl) (oSl_s gl gS hq9.2.2.1 p3 p4 p5 p6 p7 p8 p9) gR
  have startR : ∀ M1 M2 : SMem, M1 = supd (supd M 75 0 0 0) 75 0 1 0 → oAdv (supd (supd M1 9 0 3 0) 9 0 7 0) L (oS ((supd (supd M1 9 0 3 0) 9 0 7 0) 57 0) L 0) M2 → cEnds (cBG tm tf EX l dC dI cA ad scrS (d + 8)) (fun rr MM => oRP T L U M rr MM) 90 gX4_read 25 [1, ((0 : Nat) : Int)] M2 := by
    intro M1 M2 e1 ha
    have e57 : supd (supd M1 9 0 3 0) 9 0 7 0 57 0 = T := by
      funext i
      rw [supd_f (by decide), supd_f (by decide), e1, supd_f (by decide), supd_f (by decide)]
      exact congrFun hT i
    rw [e57] at ha
    obtain ⟨a1, a2, a3, a4, a5, a6⟩ := ha
    rw [e57] at a4 a5 a6
    have F : oFm oPl M M2 := by
      refine oFm_t ?_ (oFm_w (fun _ _ q => Or.inl (Or.inr q)) a2)
      rw [e1]
      exact oFm_p (Or.inl (Or.inl (Or.inr (Or.inr (Or.inl ⟨rfl, Or.inl rfl⟩))))) (oFm_p (Or.inl (Or.inr ⟨rfl, Or.inl rfl⟩)) (oFm_p (Or.inl (Or.inl (Or.inr (Or.inr (Or.inr ⟨rfl, rfl⟩))))) (oFm_p (Or.inr (Or.inr (Or.inr (Or.inr (Or.inr ⟨rfl, rfl⟩))))) oFm_r)))
    refine loop 14 0 (oS T L 0) [] [] M2 (by omega) (by omega) (oS_bd (Nat.zero_le _)).2 a1 F ⟨(oFm_row a2 (fun i q => by omega)).trans e57, ?_, a3, a4, a5, a6⟩ (Nat.zero_le _) rfl ⟨?_, ?_, fun k x hk => ?_, fun k q hk => ?_⟩ hR0.symm
    · rw [a2 3 0 1 (by omega), supd_f (by decide), supd_f (by decide), e1, supd_f (by decide), supd_f (by decide)]
      exact hL
    · rw [a2 75 0 0 (by omega), supd_f (by decide), supd_f (by decide), e1, supd_i (by decide), supd_at]
      rfl
    · rw [a2 75 0 1 (by omega), supd_f (by decide), supd_f (by decide), e1, supd_at]
      rfl
    · cases hk
    · cases hk
  refine cEnds_at gX4_read_m0 rfl ?_
  refine d_call (b_oclear hp) (by simp [cAs, cE2, sev, svl, cen] <;> omega) ?_
  intro rr M1 hq
  obtain ⟨rfl, hM'⟩ := hq
  refine ⟨rfl, ?_⟩
  refine d_put 0 0 (by simp only [cE2, sev, svl, cen, List.cons_append, List.nil_append]; omega) (by simp only [cE2, sev, svl, cen, List.cons_append, List.nil_append]; omega) ?_
  refine d_put 0 0 (by simp only [cE2, sev, svl, cen, List.cons_append, List.nil_append]; omega) (by simp only [cE2, sev, svl, cen, List.cons_append, List.nil_append]; omega) ?_
  refine d_call (b_advance (d := d + 2) hp hch (p := 0) (L := L) (wI (wI (by rw [hM']; exact wI (wI hI (lo := 0) (hi := 12) rfl ⟨by omega, by omega⟩) (lo := 0) (hi := 1000) rfl ⟨by omega, by omega⟩) (lo := 0) (hi := 1000) rfl ⟨by omega, by omega⟩) (lo := 0) (hi := 46655) rfl ⟨by omega, by omega⟩) ((supd_i (by decide)).trans (supd_at _ _ _ _ _)) (by rw [supd_f (by decide), supd_f (by decide), hM', supd_f (by decide), supd_f (by decide)]; exact hL) (Nat.zero_le _) h9) (by simp [cAs, cE2, sev, svl, cen] <;> omega) ?_
  intro rr M2 hq
  obtain ⟨rfl, ha⟩ := hq
  refine ⟨rfl, ?_⟩
  refine d_cut [1, ((0 : Nat) : Int)] (by simp [cE2, sev, svl, cen] <;> omega) ?_
  exact startR _ _ hM' ha
end CO7
