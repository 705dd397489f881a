/-! the class's machine is the one that holds signs back -/
theorem oRk_22 {a : Nat} (h : oRk a ≠ 0) : a ≤ 22 := by
  rcases Nat.lt_or_ge 22 a with q | q
  · exfalso
    apply h
    unfold oRk
    rw [if_neg (by omega), if_neg (by omega), if_neg (by omega), if_neg (by omega)]
  · exact q
theorem oStp_inv {K : Nat → Nat} {V : Nat → Int} {s : Nat} {st : List Nat} {dd : Nat} {pn : Bool} {c : List Int} {y : OSt} (hW : oWf st) (hO : oOp st = dd) (h5 : dd ≤ 5) (hy : oStp K V s st dd pn c = .ok y) : oWf y.1 ∧ oOp y.1 = y.2.1 ∧ y.2.1 ≤ 5 ∧ y.2.2.2.length + y.1.length ≤ c.length + st.length + 1 := by
  unfold oStp at hy
  cases pn with
  | true =>
    rw [cond_true] at hy
    by_cases g1 : 8 ≤ K s ∧ K s ≤ 15
    · rw [if_pos g1] at hy
      by_cases g2 : 5 ≤ dd
      · rw [if_pos g2] at hy; cases hy
      · rw [if_neg g2] at hy
        cases hy
        obtain ⟨q1, q2, q3, q4⟩ := oEp_wf (c := c ++ [oCo (K s) (V s)]) hW hO
        rw [List.length_append] at q4
        have q4 : _ = st.length + (c.length + 1) := q4
        refine ⟨q1, q2, ?_, ?_⟩
        · show (oEp st dd (c ++ [oCo (K s) (V s)])).2.1 ≤ 5
          omega
        · show (oEp st dd (c ++ [oCo (K s) (V s)])).2.2.length + (oEp st dd (c ++ [oCo (K s) (V s)])).1.length ≤ _
          omega
    · rw [if_neg g1] at hy
      by_cases g3 : K s = 7 ∨ K s = 16
      · rw [if_pos g3] at hy
        by_cases g2 : 5 ≤ dd
        · rw [if_pos g2] at hy; cases hy
        · rw [if_neg g2] at hy
          cases hy
          have hk : oRk (K s) = 0 := by rcases g3 with e | e <;> rw [e] <;> rfl
          refine ⟨⟨Or.inl hk, by omega, hW⟩, ?_, ?_, ?_⟩
          · show (if oRk (K s) = 0 then 1 else 0) + oOp st = dd + 1
            rw [if_pos hk]; omega
          · show dd + 1 ≤ 5
            omega
          · show c.length + (st.length + 1) ≤ _
            omega
      · rw [if_neg g3] at hy; cases hy
  | false =>
    rw [cond_false] at hy
    by_cases g1 : K s = 17
    · rw [if_pos g1] at hy
      by_cases g2 : (oRl 1 st c).1.length = 0
      · rw [if_pos g2] at hy; cases hy
      · rw [if_neg g2] at hy
        cases hy
        obtain ⟨q1, q2, q3, q4⟩ := oRl_wf (r := 1) (Nat.le_refl _) (c := c) hW
        cases hst : (oRl 1 st c).1 with
        | nil => rw [hst] at g2; exact absurd rfl g2
        | cons a t =>
          rw [hst] at q1 q2 q3 q4
          have q3 : oRk a < 1 := q3
          have q2 : (if oRk a = 0 then 1 else 0) + oOp t = oOp st := q2
          rw [if_pos (by omega)] at q2
          have q4 : (t.length + 1) + _ = _ := q4
          obtain ⟨p1, p2, p3, p4⟩ := oEp_wf (d := dd - 1) (c := (oRl 1 st c).2) q1.2.2 (by omega)
          refine ⟨p1, p2, ?_, ?_⟩
          · show (oEp t (dd - 1) (oRl 1 st c).2).2.1 ≤ 5
            omega
          · show (oEp t (dd - 1) (oRl 1 st c).2).2.2.length + (oEp t (dd - 1) (oRl 1 st c).2).1.length ≤ _
            omega
    · rw [if_neg g1] at hy
      by_cases g2 : oRk (K s) = 0
      · rw [if_pos g2] at hy; cases hy
      · rw [if_neg g2] at hy
        by_cases g3 : oRk (K s) = 2 ∧ oTr (oRl (oJr (oRk (K s))) st c).1 = 2
        · rw [if_pos g3] at hy; cases hy
        · rw [if_neg g3] at hy
          cases hy
          have hj : (oRk (K s) ≠ 2 ∧ oJr (oRk (K s)) = oRk (K s)) ∨ (oRk (K s) = 2 ∧ oJr (oRk (K s)) = 3) := by
            unfold oJr
            by_cases e : oRk (K s) = 2
            · exact Or.inr ⟨e, if_pos e⟩
            · exact Or.inl ⟨e, if_neg e⟩
          obtain ⟨q1, q2, q3, q4⟩ := oRl_wf (r := oJr (oRk (K s))) (by omega) (c := c) hW
          refine ⟨⟨Or.inr ?_, oRk_22 g2, q1⟩, ?_, ?_, ?_⟩
          · rcases hj with ⟨e1, e2⟩ | ⟨e1, e2⟩
            · omega
            · have : oTr (oRl (oJr (oRk (K s))) st c).1 ≠ 2 := fun z => g3 ⟨e1, z⟩
              omega
          · show (if oRk (K s) = 0 then 1 else 0) + oOp (oRl (oJr (oRk (K s))) st c).1 = dd
            rw [if_neg g2]; omega
          · exact h5
          · show (oRl (oJr (oRk (K s))) st c).2.length + ((oRl (oJr (oRk (K s))) st c).1.length + 1) ≤ _
            omega
theorem oV_bd {T : Nat → Int} {L s : Nat} (h : oK T L s = 15) : 0 ≤ oV T L s ∧ oV T L s < 10000 := by
  unfold oK at h
  by_cases h1 : L ≤ s
  · rw [if_pos h1] at h; omega
  rw [if_neg h1] at h
  by_cases h2 : oIl (T s) = true
  · rw [if_pos h2] at h
    have hfi := oFi_lt (x := oWe T s (oE T L s - s)) (r := oWt) (k := 0) (by decide)
    split at h <;> omega
  rw [if_neg h2] at h
  by_cases h3 : oId (T s) = true
  · rw [if_pos h3] at h
    by_cases h4 : oE T L s - s ≤ 4
    · have hR : oR oId T L (L - s) s = oE T L s := by
        unfold oE
        rw [if_neg h1, if_neg h2, if_pos h3]
      have b := oNv_bd (T := T) (s := s) (n := oE T L s - s) (fun i hi => oId_iff.mp (oR_in (L - s) s (s + i) (by omega) (by rw [hR]; omega)).2)
      have b2 : (10 : Int) ^ (oE T L s - s) ≤ 10 ^ 4 := by
        have : oE T L s - s = 0 ∨ oE T L s - s = 1 ∨ oE T L s - s = 2 ∨ oE T L s - s = 3 ∨ oE T L s - s = 4 := by omega
        rcases this with z | z | z | z | z <;> rw [z] <;> decide
      have b3 : (10 : Int) ^ 4 = 10000 := by decide
      unfold oV
      omega
    · rw [if_neg h4] at h; omega
  · rw [if_neg h3] at h
    exact absurd h (oSg_n15 _)
theorem oK_lt {T : Nat → Int} {L s : Nat} (h : oK T L s ≠ 24) : s < L := by
  rcases Nat.lt_or_ge s L with q | q
  · exact q
  · exact absurd (if_pos q) h
theorem oK_25 (T : Nat → Int) (L s : Nat) : oK T L s ≤ 25 := by
  unfold oK
  split
  · decide
  split
  · have hfi := oFi_lt (x := oWe T s (oE T L s - s)) (r := oWt) (k := 0) (by decide)
    split <;> omega
  split
  · split <;> decide
  · exact oSg_le _
/-- the token that is read -/
abbrev oTS (T : Nat → Int) (L s : Nat) (M : SMem) : Prop := M 57 0 = T ∧ M 3 0 1 = (L : Int) ∧ M 9 0 5 = (s : Int) ∧ M 9 0 3 = (oE T L s : Int) ∧ M 9 0 4 = (oK T L s : Int) ∧ (oK T L s = 15 → M 9 0 6 = oV T L s)
theorem oTS_m {T : Nat → Int} {L s : Nat} {M MM : SMem} (h : oFm oPm M MM) (g : oTS T L s M) : oTS T L s MM := by
  obtain ⟨g1, g2, g3, g4, g5, g6⟩ := g
  exact ⟨(oFm_row h (fun i q => by omega)).trans g1, (h 3 0 1 (by omega)).trans g2, (h 9 0 5 (by omega)).trans g3, (h 9 0 3 (by omega)).trans g4, (h 9 0 4 (by omega)).trans g5, fun q => (h 9 0 6 (by omega)).trans (g6 q)⟩
/-- behind a part or a sign that joins -/
def oTQ (T : Nat → Int) (L s : Nat) (st : List Nat) (dd : Nat) (pn : Bool) (c : List Int) (rr : List Int) (MM : SMem) : Prop := (∃ f, oStp (oK T L) (oV T L) s st dd pn c = .error f ∧ rr = [0] ∧ MM 9 0 7 = f) ∨ ∃ y, oStp (oK T L) (oV T L) s st dd pn c = .ok y ∧ rr = [1] ∧ oCS MM y.1 y.2.1 y.2.2.1 y.2.2.2
abbrev oTP (T : Nat → Int) (L s : Nat) (st : List Nat) (dd : Nat) (pn : Bool) (c : List Int) (M : SMem) (rr : List Int) (MM : SMem) : Prop := sI tg MM ∧ oFm oPm M MM ∧ oTQ T L s st dd pn c rr MM
theorem oTP_rr {T : Nat → Int} {L s : Nat} {st : List Nat} {dd : Nat} {pn : Bool} {c : List Int} {M : SMem} {rr : List Int} {MM : SMem} (h : oTP T L s st dd pn c M rr MM) : ∃ z : Int, rr = [z] ∧ (z = 0 ∨ z = 1) := by
  rcases h.2.2 with ⟨f, -, e, -⟩ | ⟨y, -, e, -⟩
  · exact ⟨0, e, Or.inl rfl⟩
  · exact ⟨1, e, Or.inr rfl⟩
theorem oTP_e {T : Nat → Int} {L s : Nat} {st : List Nat} {dd : Nat} {pn : Bool} {c : List Int} {M MM : SMem} (h : oTP T L s st dd pn c M [0] MM) : ∃ f, oStp (oK T L) (oV T L) s st dd pn c = .error f ∧ MM 9 0 7 = f := by
  rcases h.2.2 with ⟨f, e1, -, e2⟩ | ⟨y, -, e, -⟩
  · exact ⟨f, e1, e2⟩
  · exact absurd (List.cons.inj e).1 (by decide)
theorem oTP_o {T : Nat → Int} {L s : Nat} {st : List Nat} {dd : Nat} {pn : Bool} {c : List Int} {M MM : SMem} (h : oTP T L s st dd pn c M [1] MM) : ∃ y, oStp (oK T L) (oV T L) s st dd pn c = .ok y ∧ oCS MM y.1 y.2.1 y.2.2.1 y.2.2.2 := by
  rcases h.2.2 with ⟨f, -, e, -⟩ | ⟨y, e1, -, e2⟩
  · exact absurd (List.cons.inj e).1 (by decide)
  · exact ⟨y, e1, e2⟩
section CO4
variable {EX : SEx} {l : Launch} {dC : Nat → ClassId} {dI : Nat → Nat → Nat} {cA : Nat → ClassId} {ad : SAd} {scrS d : Nat}
theorem b_takePart (hp : cPl tm tc tf EX) {T : Nat → Int} {L s dd : Nat} {st : List Nat} {c : List Int} {M : SMem} (hI : sI tg M) (hT : oTS T L s M) (hS : oCS M st dd true c) (hW : oWf st) (hO : oOp st = dd) (h5 : dd ≤ 5) (hcs : c.length + st.length ≤ s) (hsL : s ≤ L) (h9 : L ≤ 1000) : cBG tm tf EX l dC dI cA ad scrS (d + 4) kX4_takePart [(2, 9, 0)] M (fun rr MM => oTP T L s st dd true c M rr MM) := by
  refine cMeth (v := []) (Fd := 90) hp (by decide) gX4_takePart_ok gX4_takePart_m0 (by simp [cAs, cE2, sev, svl, cen]) ?_
  have rI : ∀ {k : Int} {MW : SMem}, sI tg MW → 0 ≤ k → k ≤ 5 → sI tg (supd MW 9 0 7 (k + 16 * (s : Int))) := fun g k0 k5 => wI g (lo := 0) (hi := 46655) rfl ⟨by omega, by omega⟩
  obtain ⟨t1, t2, t3, t4, t5, t6⟩ := hT
  have hlen := oWf_len hW
  have htr := oTr_le st
  obtain ⟨k, hk⟩ : ∃ k, k = oK T L s := ⟨_, rfl⟩
  rw [← hk] at t5 t6
  have hk25 : k ≤ 25 := by rw [hk]; exact oK_25 T L s
  have hlt : k ≠ 24 → s < L := fun q => oK_lt (by rw [← hk]; exact q)
  have fm7 : ∀ {MW : SMem} {z : Int}, oFm oPm M MW → oFm oPm M (supd MW 9 0 7 z) := fun g => oFm_p (Or.inr (Or.inr (Or.inl ⟨rfl, Or.inl rfl⟩))) g
  have hbad : ¬ (8 ≤ k ∧ k ≤ 15) → k ≠ 7 → k ≠ 16 → oStp (oK T L) (oV T L) s st dd true c = .error (1 + 16 * (s : Int)) := fun q1 q2 q3 => by
    unfold oStp
    rw [cond_true, ← hk, if_neg q1, if_neg (by omega)]
  have hdeep : ((8 ≤ k ∧ k ≤ 15) ∨ k = 7 ∨ k = 16) → 5 ≤ dd → oStp (oK T L) (oV T L) s st dd true c = .error (5 + 16 * (s : Int)) := fun q1 q2 => by
    unfold oStp
    rw [cond_true, ← hk]
    rcases q1 with q1 | q1
    · rw [if_pos q1, if_pos q2]
    · rw [if_neg (by omega), if_pos q1, if_pos q2]
  have hnum : (8 ≤ k ∧ k ≤ 15) → dd < 5 → oStp (oK T L) (oV T L) s st dd true c = .ok (oEx st dd (c ++ [oCo k (oV T L s)])) := fun q1 q2 => by
    unfold oStp
    rw [cond_true, ← hk, if_pos q1, if_neg (by omega)]
  have hopen : (k = 7 ∨ k = 16) → dd < 5 → oStp (oK T L) (oV T L) s st dd true c = .ok (k :: st, dd + 1, true, c) := fun q1 q2 => by
    unfold oStp
    rw [cond_true, ← hk, if_neg (by omega), if_pos q1, if_neg (by omega)]
  have hvb : k = 15 → M 9 0 6 = oV T L s ∧ 0 ≤ oV T L s ∧ oV T L s < 10000 := fun q => ⟨t6 q, oV_bd (by rw [← hk]; exact q)⟩
  have hcb : 8 ≤ k → k ≤ 15 → -2147483648 ≤ oCo k (oV T L s) ∧ oCo k (oV T L s) ≤ 2147483647 := fun q1 q2 => by
    unfold oCo
    by_cases q : k = 15
    · rw [if_pos q]
      have := hvb q
      omega
    · rw [if_neg q]
      omega
  have hc15 : k = 15 → oCo k (oV T L s) = (k : Int) + 32 * oV T L s := fun q => by
    unfold oCo
    rw [if_pos q, q]
    rfl
  have hc14 : k ≠ 15 → oCo k (oV T L s) = (k : Int) := fun q => if_neg q
  have at71 : ∀ fc sm : Int, ((sm = 0 ∧ (k = 7 ∨ k = 16)) ∨ (sm = 1 ∧ fc = 0 ∧ k = 15) ∨ (sm = 1 ∧ fc = 1 ∧ 8 ≤ k ∧ k ≤ 14)) → cEnds (cBG tm tf EX l dC dI cA ad scrS (d + 3)) (fun rr MM => oTP T L s st dd true c M rr MM) 90 gX4_takePart 71 [fc, sm] M := by
    intro fc sm hfs
    have hsl := hlt (by omega)
    refine cEnds_at gX4_takePart_m71 rfl ?_
    refine d_fld 0 (by simp only [cE2, sev, svl, cen, List.cons_append, List.nil_append]; omega) ?_
    rw [hS.2.2.1]
    refine d_br (fun h => ?_) (fun h => ?_)
    · simp only [cCmp, cE2, sev, svl, cen, List.cons_append, List.nil_append] at h
      first
      | omega
      | skip
        refine d_br (fun h => ?_) (fun h => ?_)
        · simp only [cCmp, cE2, sev, svl, cen, List.cons_append, List.nil_append] at h
          first
          | omega
          | skip
            refine d_fld 0 (by simp only [cE2, sev, svl, cen, List.cons_append, List.nil_append]; omega) ?_
            rw [t5]
            refine d_call (b_hold hp (n := st.length) (z := (k : Int)) hS.1 (by omega)) (by simp [cAs, cE2, sev, svl, cen] <;> omega) ?_
            intro rr M' hq
            obtain ⟨rfl, hM'⟩ := hq
            have k10 : M' 9 0 10 = (dd : Int) := by rw [hM']; exact (oMh_S (a := k) hS).2.2.1
            refine ⟨rfl, ?_⟩
            refine d_fld 0 (by simp only [cE2, sev, svl, cen, List.cons_append, List.nil_append]; omega) ?_
            rw [k10]
            refine d_rng (by simp only [clo, chi, cE2, sev, svl, cen, List.cons_append, List.nil_append]; omega) ?_
            refine d_put 0 ((dd : Int) + 1) (by simp only [cE2, sev, svl, cen, List.cons_append, List.nil_append]; omega) (by simp only [cE2, sev, svl, cen, List.cons_append, List.nil_append]; omega) ?_
            refine d_ret [1] rfl (by decide) ?_
            rw [hM']
            exact ⟨wI (oMh_I hI (by omega) ⟨by omega, by omega⟩) (lo := -2147483648) (hi := 2147483647) rfl ⟨by omega, by omega⟩, oFm_p (Or.inr (Or.inr (Or.inl ⟨rfl, Or.inr (Or.inr (Or.inl rfl))⟩))) (oMh_F oFm_r), Or.inr ⟨_, hopen (by omega) (by omega), rfl, oCS_d (oMh_S hS) (by show _ = ((dd + 1 : Nat) : Int); omega)⟩⟩
        · simp only [cCmp, cE2, sev, svl, cen, List.cons_append, List.nil_append] at h
          first
          | omega
          | skip
            refine d_br (fun h => ?_) (fun h => ?_)
            · simp only [cCmp, cE2, sev, svl, cen, List.cons_append, List.nil_append] at h
              first
              | omega
              | skip
                refine d_fld 0 (by simp only [cE2, sev, svl, cen, List.cons_append, List.nil_append]; omega) ?_
                rw [t5]
                refine d_fld 0 (by simp only [cE2, sev, svl, cen, List.cons_append, List.nil_append]; omega) ?_
                rw [(hvb (by omega)).1]
                have hv := hvb (by omega)
                refine d_rng (by simp only [clo, chi, cE2, sev, svl, cen, List.cons_append, List.nil_append]; omega) ?_
                refine d_rng (by simp only [clo, chi, cE2, sev, svl, cen, List.cons_append, List.nil_append]; omega) ?_
                refine d_call (b_addCode hp (n := c.length) (z := oCo k (oV T L s)) hS.2.2.2.2.1 (by omega)) (by simp [cAs, cE2, sev, svl, cen] <;> first | omega | (rw [hc15 (by omega)]; omega) | (rw [hc14 (by omega)])) ?_
                intro rr M' hq
                obtain ⟨rfl, hM'⟩ := hq
                have f1 : oFm oPm M M' := by rw [hM']; exact oMc_F oFm_r
                refine ⟨rfl, ?_⟩
                refine d_call (b_endPart (d := d + 1) hp (st0 := st) (d0 := dd) (pn := true) (c0 := c ++ [oCo k (oV T L s)]) (by rw [hM']; exact oMc_I hI (by omega) (hcb (by omega) (by omega))) (by rw [hM']; exact oMc_S hS) hW hO (by omega) (by omega) (by rw [List.length_append]; show _ + 1 + _ ≤ _; omega)) (by simp [cAs, cE2, sev, svl, cen] <;> omega) ?_
                intro rr M' hq
                obtain ⟨rfl, e1, e2, e3⟩ := hq
                refine ⟨rfl, ?_⟩
                exact d_ret [1] rfl (by decide) ⟨e1, oFm_t f1 e2, Or.inr ⟨_, hnum (by omega) (by omega), rfl, e3⟩⟩
            · simp only [cCmp, cE2, sev, svl, cen, List.cons_append, List.nil_append] at h
              first
              | omega
              | skip
                refine d_fld 0 (by simp only [cE2, sev, svl, cen, List.cons_append, List.nil_append]; omega) ?_
                rw [t5]
                refine d_call (b_addCode hp (n := c.length) (z := oCo k (oV T L s)) hS.2.2.2.2.1 (by omega)) (by simp [cAs, cE2, sev, svl, cen] <;> first | omega | (rw [hc15 (by omega)]; omega) | (rw [hc14 (by omega)])) ?_
                intro rr M' hq
                obtain ⟨rfl, hM'⟩ := hq
                have f1 : oFm oPm M M' := by rw [hM']; exact oMc_F oFm_r
                refine ⟨rfl, ?_⟩
                refine d_call (b_endPart (d := d + 1) hp (st0 := st) (d0 := dd) (pn := true) (c0 := c ++ [oCo k (oV T L s)]) (by rw [hM']; exact oMc_I hI (by omega) (hcb (by omega) (by omega))) (by rw [hM']; exact oMc_S hS) hW hO (by omega) (by omega) (by rw [List.length_append]; show _ + 1 + _ ≤ _; omega)) (by simp [cAs, cE2, sev, svl, cen] <;> omega) ?_
                intro rr M' hq
                obtain ⟨rfl, e1, e2, e3⟩ := hq
                refine ⟨rfl, ?_⟩
                exact d_ret [1] rfl (by decide) ⟨e1, oFm_t f1 e2, Or.inr ⟨_, hnum (by omega) (by omega), rfl, e3⟩⟩
    · simp only [cCmp, cE2, sev, svl, cen, List.cons_append, List.nil_append] at h
      first
      | omega
      | skip
        refine d_call (b_refuse hp (k := 5) (s := s) t3 (by omega) ⟨by omega, by omega⟩) (by simp [cAs, cE2, sev, svl, cen] <;> omega) ?_
        intro rr M' hq
        obtain ⟨rfl, hM'⟩ := hq
        refine ⟨rfl, ?_⟩
        exact d_ret [0] rfl (by decide) ⟨by rw [hM']; exact rI hI (by omega) (by omega), by rw [hM']; exact fm7 oFm_r, Or.inl ⟨_, hdeep (by omega) (by omega), rfl, by rw [hM', supd_at]⟩⟩
  have at24 : ∀ fc : Int, ((fc = 0 ∧ ¬ (8 ≤ k ∧ k ≤ 14)) ∨ (fc = 1 ∧ 8 ≤ k ∧ k ≤ 14)) → cEnds (cBG tm tf EX l dC dI cA ad scrS (d + 3)) (fun rr MM => oTP T L s st dd true c M rr MM) 90 gX4_takePart 24 [fc] M := by
    intro fc hfs
    refine cEnds_at gX4_takePart_m24 rfl ?_
    refine d_br (fun h => ?_) (fun h => ?_)
    · simp only [cCmp, cE2, sev, svl, cen, List.cons_append, List.nil_append] at h
      first
      | omega
      | skip
        refine d_cut [fc, 1] (by simp [cE2, sev, svl, cen] <;> omega) ?_
        exact at71 _ _ (by omega)
    · simp only [cCmp, cE2, sev, svl, cen, List.cons_append, List.nil_append] at h
      first
      | omega
      | skip
        refine d_fld 0 (by simp only [cE2, sev, svl, cen, List.cons_append, List.nil_append]; omega) ?_
        rw [t5]
        refine d_br (fun h => ?_) (fun h => ?_)
        · simp only [cCmp, cE2, sev, svl, cen, List.cons_append, List.nil_append] at h
          first
          | omega
          | skip
            refine d_fld 0 (by simp only [cE2, sev, svl, cen, List.cons_append, List.nil_append]; omega) ?_
            rw [t5]
            refine d_br (fun h => ?_) (fun h => ?_)
            · simp only [cCmp, cE2, sev, svl, cen, List.cons_append, List.nil_append] at h
              first
              | omega
              | skip
                refine d_cut [fc, 0] (by simp [cE2, sev, svl, cen] <;> omega) ?_
                exact at71 _ _ (by omega)
            · simp only [cCmp, cE2, sev, svl, cen, List.cons_append, List.nil_append] at h
              first
              | omega
              | skip
                refine d_fld 0 (by simp only [cE2, sev, svl, cen, List.cons_append, List.nil_append]; omega) ?_
                rw [t5]
                refine d_br (fun h => ?_) (fun h => ?_)
                · simp only [cCmp, cE2, sev, svl, cen, List.cons_append, List.nil_append] at h
                  first
                  | omega
                  | skip
                    refine d_cut [fc, 0] (by simp [cE2, sev, svl, cen] <;> omega) ?_
                    exact at71 _ _ (by omega)
                · simp only [cCmp, cE2, sev, svl, cen, List.cons_append, List.nil_append] at h
                  first
                  | omega
                  | skip
                    refine d_call (b_refuse hp (k := 1) (s := s) t3 (by omega) ⟨by omega, by omega⟩) (by simp [cAs, cE2, sev, svl, cen] <;> omega) ?_
                    intro rr M' hq
                    obtain ⟨rfl, hM'⟩ := hq
                    refine ⟨rfl, ?_⟩
                    exact d_ret [0] rfl (by decide) ⟨by rw [hM']; exact rI hI (by omega) (by omega), by rw [hM']; exact fm7 oFm_r, Or.inl ⟨_, hbad (by omega) (by omega) (by omega), rfl, by rw [hM', supd_at]⟩⟩
        · simp only [cCmp, cE2, sev, svl, cen, List.cons_append, List.nil_append] at h
          first
          | omega
          | skip
            refine d_cut [fc, 1] (by simp [cE2, sev, svl, cen] <;> omega) ?_
            exact at71 _ _ (by omega)
  refine cEnds_at gX4_takePart_m0 rfl ?_
  refine d_fld 0 (by simp only [cE2, sev, svl, cen, List.cons_append, List.nil_append]; omega) ?_
  rw [t5]
  refine d_br (fun h => ?_) (fun h => ?_)
  · simp only [cCmp, cE2, sev, svl, cen, List.cons_append, List.nil_append] at h
    first
    | omega
    | skip
      refine d_cut [0] (by simp [cE2, sev, svl, cen] <;> omega) ?_
      exact at24 _ (by omega)
  · simp only [cCmp, cE2, sev, svl, cen, List.cons_append, List.nil_append] at h
    first
    | omega
    | skip
      refine d_fld 0 (by simp only [cE2, sev, svl, cen, List.cons_append, List.nil_append]; omega) ?_
      rw [t5]
      refine d_br (fun h => ?_) (fun h => ?_)
      · simp only [cCmp, cE2, sev, svl, cen, List.cons_append, List.nil_append] at h
        first
        | omega
        | skip
          refine d_cut [0] (by simp [cE2, sev, svl, cen] <;> omega) ?_
          exact at24 _ (by omega)
      · simp only [cCmp, cE2, sev, svl, cen, List.cons_append, List.nil_append] at h
        first
        | omega
        | skip
          refine d_cut [1] (by simp [cE2, sev, svl, cen] <;> omega) ?_
          exact at24 _ (by omega)
theorem b_close (hp : cPl tm tc tf EX) {T : Nat → Int} {L s dd : Nat} {st : List Nat} {c : List Int} {M : SMem} (hI : sI tg M) (hT : oTS T L s M) (hS : oCS M st dd false c) (hW : oWf st) (hO : oOp st = dd) (h5 : dd ≤ 5) (hcs : c.length + st.length ≤ s) (hsL : s ≤ L) (h9 : L ≤ 1000) (h17 : oK T L s = 17) : cBG tm tf EX l dC dI cA ad scrS (d + 4) kX4_close [(2, 9, 0)] M (fun rr MM => oTP T L s st dd false c M rr MM) := by
  have rI : ∀ {k : Int} {MW : SMem}, sI tg MW → 0 ≤ k → k ≤ 5 → sI tg (supd MW 9 0 7 (k + 16 * (s : Int))) := fun g k0 k5 => wI g (lo := 0) (hi := 46655) rfl ⟨by omega, by omega⟩
  obtain ⟨t1, t2, t3, t4, t5, t6⟩ := hT
  have hlen := oWf_len hW
  have htr := oTr_le st
  obtain ⟨w1, w2, w3, w4⟩ := oRl_wf (r := 1) (Nat.le_refl _) (c := c) hW
  have fm7 : ∀ {M0 MW : SMem} {z : Int}, oFm oPm M0 MW → oFm oPm M0 (supd MW 9 0 7 z) := fun g => oFm_p (Or.inr (Or.inr (Or.inl ⟨rfl, Or.inl rfl⟩))) g
  have hst : oStp (oK T L) (oV T L) s st dd false c = if (oRl 1 st c).1.length = 0 then .error (1 + 16 * (s : Int)) else .ok (oEx (oRl 1 st c).1.tail (dd - 1) (oRl 1 st c).2) := by
    unfold oStp
    rw [cond_false, if_pos h17]
  have htl : (oRl 1 st c).1.length ≠ 0 → ∃ a t, (oRl 1 st c).1 = a :: t ∧ oRk a = 0 := fun q => by
    cases hc9 : (oRl 1 st c).1 with
    | nil => rw [hc9] at q; exact absurd rfl q
    | cons a t =>
      rw [hc9] at w3
      have w3 : oRk a < 1 := w3
      exact ⟨a, t, rfl, by omega⟩
  obtain ⟨w, hw⟩ : ∃ w, w = (oRl 1 st c).1.length := ⟨_, rfl⟩
  refine cMeth (v := []) (Fd := 90) hp (by decide) gX4_close_ok gX4_close_m0 (by simp [cAs, cE2, sev, svl, cen]) ?_
  refine cEnds_at gX4_close_m0 rfl ?_
  refine d_call (b_release (d := d + 1) hp (r := 1) (dd := dd) (pn := false) (st0 := st) (c0 := c) (Nat.le_refl _) (by omega) hI hS hW (by omega) (by omega)) (by simp [cAs, cE2, sev, svl, cen] <;> omega) ?_
  intro rr M' hq
  obtain ⟨rfl, i1, f1, s1⟩ := hq
  have k9 : M' 9 0 9 = (w : Int) := by rw [hw]; exact s1.1
  have k10 : M' 9 0 10 = (dd : Int) := s1.2.2.1
  have k5 : M' 9 0 5 = (s : Int) := (f1 9 0 5 (by omega)).trans t3
  refine ⟨rfl, ?_⟩
  refine d_fld 0 (by simp only [cE2, sev, svl, cen, List.cons_append, List.nil_append]; omega) ?_
  rw [k9]
  refine d_br (fun h => ?_) (fun h => ?_)
  · simp only [cCmp, cE2, sev, svl, cen, List.cons_append, List.nil_append] at h
    first
    | omega
    | skip
      refine d_fld 0 (by simp only [cE2, sev, svl, cen, List.cons_append, List.nil_append]; omega) ?_
      rw [k9]
      obtain ⟨a, t, ea, e0⟩ := htl (by omega)
      rw [ea] at w1 w2 w4 s1 hw
      have w2 : (if oRk a = 0 then 1 else 0) + oOp t = oOp st := w2
      rw [if_pos e0] at w2
      have hw : w = t.length + 1 := hw
      have w4 : (t.length + 1) + _ = _ := w4
      have hl1 := oWf_len w1.2.2
      have hl2 := oTr_le t
      refine d_rng (by simp only [clo, chi, cE2, sev, svl, cen, List.cons_append, List.nil_append]; omega) ?_
      refine d_put 0 ((w : Int) - 1) (by simp only [cE2, sev, svl, cen, List.cons_append, List.nil_append]; omega) (by simp only [cE2, sev, svl, cen, List.cons_append, List.nil_append]; omega) ?_
      refine d_fld 0 (by simp only [cE2, sev, svl, cen, List.cons_append, List.nil_append]; omega) ?_
      rw [supd_i (by decide)]
      rw [k10]
      refine d_rng (by simp only [clo, chi, cE2, sev, svl, cen, List.cons_append, List.nil_append]; omega) ?_
      refine d_put 0 ((dd : Int) - 1) (by simp only [cE2, sev, svl, cen, List.cons_append, List.nil_append]; omega) (by simp only [cE2, sev, svl, cen, List.cons_append, List.nil_append]; omega) ?_
      refine d_call (b_endPart (d := d + 1) hp (st0 := t) (d0 := dd - 1) (pn := false) (c0 := (oRl 1 st c).2) (wI (wI i1 (lo := 0) (hi := 64) rfl ⟨by omega, by omega⟩) (lo := -2147483648) (hi := 2147483647) rfl ⟨by omega, by omega⟩) (oCS_d (oCS_w s1 (by omega)) (by omega)) w1.2.2 (by omega) (by omega) (by omega) (by omega)) (by simp [cAs, cE2, sev, svl, cen] <;> omega) ?_
      intro rr M' hq
      obtain ⟨rfl, e1, e2, e3⟩ := hq
      refine ⟨rfl, ?_⟩
      exact d_ret [1] rfl (by decide) ⟨e1, oFm_t (oFm_p (Or.inr (Or.inr (Or.inl ⟨rfl, Or.inr (Or.inr (Or.inl rfl))⟩))) (oFm_p (Or.inr (Or.inr (Or.inl ⟨rfl, Or.inr (Or.inl rfl)⟩))) f1)) e2, Or.inr ⟨_, hst.trans (if_neg (by rw [ea]; show ¬ (t.length + 1 = 0); omega)), rfl, by rw [ea]; exact e3⟩⟩
  · simp only [cCmp, cE2, sev, svl, cen, List.cons_append, List.nil_append] at h
    first
    | omega
    | skip
      refine d_call (b_refuse hp (k := 1) (s := s) k5 (by omega) ⟨by omega, by omega⟩) (by simp [cAs, cE2, sev, svl, cen] <;> omega) ?_
      intro rr M' hq
      obtain ⟨rfl, hM'⟩ := hq
      refine ⟨rfl, ?_⟩
      exact d_ret [0] rfl (by decide) ⟨by rw [hM']; exact rI i1 (by omega) (by omega), by rw [hM']; exact fm7 f1, Or.inl ⟨_, hst.trans (if_pos (by omega)), rfl, by rw [hM', supd_at]⟩⟩
theorem b_takeJoint (hp : cPl tm tc tf EX) {T : Nat → Int} {L s dd : Nat} {st : List Nat} {c : List Int} {M : SMem} (hI : sI tg M) (hT : oTS T L s M) (hS : oCS M st dd false c) (hW : oWf st) (hO : oOp st = dd) (h5 : dd ≤ 5) (hcs : c.length + st.length ≤ s) (hsL : s ≤ L) (h9 : L ≤ 1000) : cBG tm tf EX l dC dI cA ad scrS (d + 5) kX4_takeJoint [(2, 9, 0)] M (fun rr MM => oTP T L s st dd false c M rr MM) := by
  refine cMeth (v := []) (Fd := 90) hp (by decide) gX4_takeJoint_ok gX4_takeJoint_m0 (by simp [cAs, cE2, sev, svl, cen]) ?_
  have rI : ∀ {k : Int} {MW : SMem}, sI tg MW → 0 ≤ k → k ≤ 5 → sI tg (supd MW 9 0 7 (k + 16 * (s : Int))) := fun g k0 k5 => wI g (lo := 0) (hi := 46655) rfl ⟨by omega, by omega⟩
  have hT0 := hT
  obtain ⟨t1, t2, t3, t4, t5, t6⟩ := hT
  have hlen := oWf_len hW
  have htr := oTr_le st
  obtain ⟨k, hk⟩ : ∃ k, k = oK T L s := ⟨_, rfl⟩
  rw [← hk] at t5
  have hk25 : k ≤ 25 := by rw [hk]; exact oK_25 T L s
  have hr4 := oRk_le k
  have hj : (oRk k ≠ 2 ∧ oJr (oRk k) = oRk k) ∨ (oRk k = 2 ∧ oJr (oRk k) = 3) := by
    unfold oJr
    by_cases e : oRk k = 2
    · exact Or.inr ⟨e, if_pos e⟩
    · exact Or.inl ⟨e, if_neg e⟩
  have fm7 : ∀ {M0 MW : SMem} {z : Int}, oFm oPm M0 MW → oFm oPm M0 (supd MW 9 0 7 z) := fun g => oFm_p (Or.inr (Or.inr (Or.inl ⟨rfl, Or.inl rfl⟩))) g
  have hs0 : k ≠ 17 → oRk k = 0 → oStp (oK T L) (oV T L) s st dd false c = .error (1 + 16 * (s : Int)) := fun q1 q2 => by
    unfold oStp
    rw [cond_false, ← hk, if_neg q1, if_pos q2]
  have hs2 : k ≠ 17 → oRk k ≠ 0 → oStp (oK T L) (oV T L) s st dd false c = if oRk k = 2 ∧ oTr (oRl (oJr (oRk k)) st c).1 = 2 then .error (1 + 16 * (s : Int)) else .ok (k :: (oRl (oJr (oRk k)) st c).1, dd, true, (oRl (oJr (oRk k)) st c).2) := fun q1 q2 => by
    unfold oStp
    rw [cond_false, ← hk, if_neg q1, if_neg q2]
  obtain ⟨st1, hst1⟩ : ∃ st1, st1 = (oRl (oJr (oRk k)) st c).1 := ⟨_, rfl⟩
  obtain ⟨c1, hc1⟩ : ∃ c1, c1 = (oRl (oJr (oRk k)) st c).2 := ⟨_, rfl⟩
  rw [← hst1, ← hc1] at hs2
  have hwf : oRk k ≠ 0 → oWf st1 ∧ oOp st1 = oOp st ∧ oTr st1 < oJr (oRk k) ∧ st1.length + c1.length = st.length + c.length := fun q => by
    have g := oRl_wf (r := oJr (oRk k)) (by omega) (c := c) hW
    rw [← hst1, ← hc1] at g
    exact g
  have at84 : ∀ MW : SMem, k ≠ 17 → oRk k ≠ 0 → ¬ (oRk k = 2 ∧ oTr st1 = 2) → sI tg MW → oFm oPm M MW → oCS MW st1 dd false c1 → cEnds (cBG tm tf EX l dC dI cA ad scrS (d + 4)) (fun rr MM => oTP T L s st dd false c M rr MM) 90 gX4_takeJoint 84 [] MW := by
    intro MW q1 q2 q3 g1 g2 g3
    obtain ⟨w1, w2, w3, w4⟩ := hwf q2
    have w5 := oWf_len w1
    have w6 := oTr_le st1
    have k22 := oRk_22 q2
    have h4 : MW 9 0 4 = (k : Int) := (g2 9 0 4 (by omega)).trans t5
    refine cEnds_at gX4_takeJoint_m84 rfl ?_
    refine d_fld 0 (by simp only [cE2, sev, svl, cen, List.cons_append, List.nil_append]; omega) ?_
    rw [h4]
    refine d_call (b_hold hp (n := st1.length) (z := (k : Int)) g3.1 (by omega)) (by simp [cAs, cE2, sev, svl, cen] <;> omega) ?_
    intro rr M' hq
    obtain ⟨rfl, hM'⟩ := hq
    refine ⟨rfl, ?_⟩
    refine d_rng (by simp only [clo, chi, cE2, sev, svl, cen, List.cons_append, List.nil_append]; omega) ?_
    refine d_put 0 1 (by simp only [cE2, sev, svl, cen, List.cons_append, List.nil_append]; omega) (by simp only [cE2, sev, svl, cen, List.cons_append, List.nil_append]; omega) ?_
    refine d_ret [1] rfl (by decide) ?_
    rw [hM']
    exact ⟨wI (oMh_I g1 (by omega) ⟨by omega, by omega⟩) (lo := 0) (hi := 1) rfl ⟨by omega, by omega⟩, oFm_p (Or.inr (Or.inr (Or.inl ⟨rfl, Or.inr (Or.inr (Or.inr rfl))⟩))) (oMh_F g2), Or.inr ⟨_, (hs2 q1 q2).trans (if_neg q3), rfl, oCS_p (oMh_S g3) rfl⟩⟩
  obtain ⟨w, hw⟩ : ∃ w, w = st1.length := ⟨_, rfl⟩
  obtain ⟨a1, ha1⟩ : ∃ a1, a1 = st1.headD 0 := ⟨_, rfl⟩
  have htop : ∀ H : Nat → Int, oHd H st1 → 0 < w → H (w - 1) = (a1 : Int) ∧ oTr st1 = oRk a1 := fun H hH q => by
    cases hc9 : st1 with
    | nil => rw [hw, hc9] at q; exact absurd q (Nat.lt_irrefl 0)
    | cons a t =>
      rw [hc9] at hH hw ha1
      have hw : w = t.length + 1 := hw
      have ha1 : a1 = a := ha1
      rw [show w - 1 = t.length by omega, ha1]
      exact ⟨hH.1, rfl⟩
  have htr0 : w = 0 → oTr st1 = 0 := fun q => by
    cases hc9 : st1 with
    | nil => rfl
    | cons a t =>
      rw [hc9] at hw
      have hw : w = t.length + 1 := hw
      omega
  have hwl : oRk k ≠ 0 → w ≤ 29 := fun q => by
    obtain ⟨w1, w2, -, -⟩ := hwf q
    have := oWf_len w1
    have := oTr_le st1
    omega
  refine cEnds_at gX4_takeJoint_m0 rfl ?_
  refine d_fld 0 (by simp only [cE2, sev, svl, cen, List.cons_append, List.nil_append]; omega) ?_
  rw [t5]
  refine d_br (fun h => ?_) (fun h => ?_)
  · simp only [cCmp, cE2, sev, svl, cen, List.cons_append, List.nil_append] at h
    first
    | omega
    | skip
      refine d_fld 0 (by simp only [cE2, sev, svl, cen, List.cons_append, List.nil_append]; omega) ?_
      rw [t5]
      refine d_call (b_rankOf hp (a := k)) (by simp [cAs, cE2, sev, svl, cen] <;> omega) ?_
      intro rr M' hq
      obtain ⟨hM', rfl⟩ := hq
      rw [hM']
      refine ⟨rfl, ?_⟩
      refine d_br (fun h => ?_) (fun h => ?_)
      · simp only [cCmp, cE2, sev, svl, cen, List.cons_append, List.nil_append] at h
        first
        | omega
        | skip
          refine d_br (fun h => ?_) (fun h => ?_)
          · simp only [cCmp, cE2, sev, svl, cen, List.cons_append, List.nil_append] at h
            first
            | omega
            | skip
              refine d_call (b_release (d := d + 2) hp (r := oJr (oRk k)) (dd := dd) (pn := false) (st0 := st) (c0 := c) (by omega) (by omega) hI hS hW (by omega) (by omega)) (by simp [cAs, cE2, sev, svl, cen] <;> omega) ?_
              intro rr M' hq
              obtain ⟨rfl, i1, f1, s1⟩ := hq
              rw [← hst1, ← hc1] at s1
              have k9 : M' 9 0 9 = (w : Int) := by rw [hw]; exact s1.1
              have k76 := htop (M' 76 0) s1.2.1
              have k5 : M' 9 0 5 = (s : Int) := (f1 9 0 5 (by omega)).trans t3
              have hw29 := hwl (by omega)
              refine ⟨rfl, ?_⟩
              refine d_br (fun h => ?_) (fun h => ?_)
              · simp only [cCmp, cE2, sev, svl, cen, List.cons_append, List.nil_append] at h
                first
                | omega
                | skip
                  refine d_cut [] (by simp [cE2, sev, svl, cen] <;> omega) ?_
                  exact at84 _ (by omega) (by omega) (by omega) i1 f1 s1
              · simp only [cCmp, cE2, sev, svl, cen, List.cons_append, List.nil_append] at h
                first
                | omega
                | skip
                  refine d_fld 0 (by simp only [cE2, sev, svl, cen, List.cons_append, List.nil_append]; omega) ?_
                  rw [k9]
                  refine d_br (fun h => ?_) (fun h => ?_)
                  · simp only [cCmp, cE2, sev, svl, cen, List.cons_append, List.nil_append] at h
                    first
                    | omega
                    | skip
                      refine d_cut [] (by simp [cE2, sev, svl, cen] <;> omega) ?_
                      exact at84 _ (by omega) (by omega) (by omega) i1 f1 s1
                  · simp only [cCmp, cE2, sev, svl, cen, List.cons_append, List.nil_append] at h
                    first
                    | omega
                    | skip
                      refine d_fld 0 (by simp only [cE2, sev, svl, cen, List.cons_append, List.nil_append]; omega) ?_
                      rw [k9]
                      refine d_rng (by simp only [clo, chi, cE2, sev, svl, cen, List.cons_append, List.nil_append]; omega) ?_
                      refine d_row 0 (w - 1) (by simp only [cE2, sev, svl, cen, List.cons_append, List.nil_append]; omega) (by simp only [cE2, sev, svl, cen, List.cons_append, List.nil_append]; omega) (by omega) ?_
                      rw [(k76 (by omega)).1]
                      refine d_call (b_rankOf hp (a := a1)) (by simp [cAs, cE2, sev, svl, cen] <;> omega) ?_
                      intro rr M' hq
                      obtain ⟨hM', rfl⟩ := hq
                      rw [hM']
                      refine ⟨rfl, ?_⟩
                      refine d_br (fun h => ?_) (fun h => ?_)
                      · simp only [cCmp, cE2, sev, svl, cen, List.cons_append, List.nil_append] at h
                        first
                        | omega
                        | skip
                          refine d_cut [] (by simp [cE2, sev, svl, cen] <;> omega) ?_
                          exact at84 _ (by omega) (by omega) (by omega) i1 f1 s1
                      · simp only [cCmp, cE2, sev, svl, cen, List.cons_append, List.nil_append] at h
                        first
                        | omega
                        | skip
                          refine d_call (b_refuse hp (k := 1) (s := s) (by first | exact k5 | exact t3) (by omega) ⟨by omega, by omega⟩) (by simp [cAs, cE2, sev, svl, cen] <;> omega) ?_
                          intro rr M' hq
                          obtain ⟨rfl, hM'⟩ := hq
                          refine ⟨rfl, ?_⟩
                          exact d_ret [0] rfl (by decide) (by omega)
          · simp only [cCmp, cE2, sev, svl, cen, List.cons_append, List.nil_append] at h
            first
            | omega
            | skip
              refine d_rng (by simp only [clo, chi, cE2, sev, svl, cen, List.cons_append, List.nil_append]; omega) ?_
              refine d_call (b_release (d := d + 2) hp (r := oJr (oRk k)) (dd := dd) (pn := false) (st0 := st) (c0 := c) (by omega) (by omega) hI hS hW (by omega) (by omega)) (by simp [cAs, cE2, sev, svl, cen] <;> omega) ?_
              intro rr M' hq
              obtain ⟨rfl, i1, f1, s1⟩ := hq
              rw [← hst1, ← hc1] at s1
              have k9 : M' 9 0 9 = (w : Int) := by rw [hw]; exact s1.1
              have k76 := htop (M' 76 0) s1.2.1
              have k5 : M' 9 0 5 = (s : Int) := (f1 9 0 5 (by omega)).trans t3
              have hw29 := hwl (by omega)
              refine ⟨rfl, ?_⟩
              refine d_br (fun h => ?_) (fun h => ?_)
              · simp only [cCmp, cE2, sev, svl, cen, List.cons_append, List.nil_append] at h
                first
                | omega
                | skip
                  refine d_cut [] (by simp [cE2, sev, svl, cen] <;> omega) ?_
                  exact at84 _ (by omega) (by omega) (by omega) i1 f1 s1
              · simp only [cCmp, cE2, sev, svl, cen, List.cons_append, List.nil_append] at h
                first
                | omega
                | skip
                  refine d_fld 0 (by simp only [cE2, sev, svl, cen, List.cons_append, List.nil_append]; omega) ?_
                  rw [k9]
                  refine d_br (fun h => ?_) (fun h => ?_)
                  · simp only [cCmp, cE2, sev, svl, cen, List.cons_append, List.nil_append] at h
                    first
                    | omega
                    | skip
                      refine d_cut [] (by simp [cE2, sev, svl, cen] <;> omega) ?_
                      exact at84 _ (by omega) (by omega) (by have := htr0 (by omega); omega) i1 f1 s1
                  · simp only [cCmp, cE2, sev, svl, cen, List.cons_append, List.nil_append] at h
                    first
                    | omega
                    | skip
                      refine d_fld 0 (by simp only [cE2, sev, svl, cen, List.cons_append, List.nil_append]; omega) ?_
                      rw [k9]
                      refine d_rng (by simp only [clo, chi, cE2, sev, svl, cen, List.cons_append, List.nil_append]; omega) ?_
                      refine d_row 0 (w - 1) (by simp only [cE2, sev, svl, cen, List.cons_append, List.nil_append]; omega) (by simp only [cE2, sev, svl, cen, List.cons_append, List.nil_append]; omega) (by omega) ?_
                      rw [(k76 (by omega)).1]
                      refine d_call (b_rankOf hp (a := a1)) (by simp [cAs, cE2, sev, svl, cen] <;> omega) ?_
                      intro rr M' hq
                      obtain ⟨hM', rfl⟩ := hq
                      rw [hM']
                      refine ⟨rfl, ?_⟩
                      refine d_br (fun h => ?_) (fun h => ?_)
                      · simp only [cCmp, cE2, sev, svl, cen, List.cons_append, List.nil_append] at h
                        first
                        | omega
                        | skip
                          refine d_cut [] (by simp [cE2, sev, svl, cen] <;> omega) ?_
                          exact at84 _ (by omega) (by omega) (by have := (k76 (by omega)).2; omega) i1 f1 s1
                      · simp only [cCmp, cE2, sev, svl, cen, List.cons_append, List.nil_append] at h
                        first
                        | omega
                        | skip
                          refine d_call (b_refuse hp (k := 1) (s := s) (by first | exact k5 | exact t3) (by omega) ⟨by omega, by omega⟩) (by simp [cAs, cE2, sev, svl, cen] <;> omega) ?_
                          intro rr M' hq
                          obtain ⟨rfl, hM'⟩ := hq
                          refine ⟨rfl, ?_⟩
                          exact d_ret [0] rfl (by decide) ⟨by rw [hM']; exact rI i1 (by omega) (by omega), by rw [hM']; exact fm7 f1, Or.inl ⟨_, (hs2 (by omega) (by omega)).trans (if_pos ⟨by omega, by have := (k76 (by omega)).2; omega⟩), rfl, by rw [hM', supd_at]⟩⟩
      · simp only [cCmp, cE2, sev, svl, cen, List.cons_append, List.nil_append] at h
        first
        | omega
        | skip
          refine d_call (b_refuse hp (k := 1) (s := s) (by first | exact k5 | exact t3) (by omega) ⟨by omega, by omega⟩) (by simp [cAs, cE2, sev, svl, cen] <;> omega) ?_
          intro rr M' hq
          obtain ⟨rfl, hM'⟩ := hq
          refine ⟨rfl, ?_⟩
          exact d_ret [0] rfl (by decide) ⟨by rw [hM']; exact rI hI (by omega) (by omega), by rw [hM']; exact fm7 oFm_r, Or.inl ⟨_, hs0 (by omega) (by omega), rfl, by rw [hM', supd_at]⟩⟩
  · simp only [cCmp, cE2, sev, svl, cen, List.cons_append, List.nil_append] at h
    first
    | omega
    | skip
      refine d_call (b_close (d := d) hp hI hT0 hS hW hO h5 hcs hsL h9 (by omega)) (by simp [cAs, cE2, sev, svl, cen] <;> omega) ?_
      intro rr M' hq
      have hq9 := hq
      obtain ⟨z, rfl, hz⟩ := oTP_rr hq9
      refine ⟨rfl, ?_⟩
      exact wretb z (by simp [cE2, sev, svl, cen]) (hz.elim (fun e => by rw [e]; decide) (fun e => by rw [e]; decide)) hq9
end CO4
