/-! the reference's rules, with what they come to -/
theorem cfn10v {a b : Int} (h : 0 ≤ a ∧ a ≤ 2147483647) : cfn 10 a b = a := by
  show (Int64.ofInt a).toInt32.toInt = a
  rw [Int64.toInt_toInt32, Int64.toInt_ofInt_of_le (by omega) (by omega), sbm32 (by omega) (by omega)]
theorem oMT_lt {T : Nat → Int} {L N n : Nat} {M : SMem} (h : oMT T L N M) (hn : n ≤ N) (hk : oK T L (oIx T L n) ≠ 24) : n + 1 ≤ N := by
  rcases Nat.lt_or_ge n N with q | q
  · exact q
  · exfalso
    have e : n = N := by omega
    subst e
    rw [h.2.1] at hk
    apply hk
    unfold oK
    rw [if_pos (Nat.le_refl L)]
theorem oDA_39 {T : Nat → Int} {L N n e : Nat} {M MM : SMem} {RE : Int → Prop} {RO : Nat → List Int → Prop} (h : oDA T L N n e M MM RE RO) : ∃ e9 : Nat, MM 1 0 39 = (e9 : Int) ∧ e9 ≤ 1000 := by
  rcases h with ⟨-, n', e', f, h, -⟩ | ⟨n', cc, ⟨-, h, -⟩, -⟩
  · have := oRS_i h
    exact ⟨e', h.2.2.2.2.2.1, by omega⟩
  · have := oRS_i h
    exact ⟨e + cc.length, h.2.2.2.2.2.1, by omega⟩
section CO12
variable {EX : SEx} {l : Launch} {dC : Nat → ClassId} {dI : Nat → Nat → Nat} {cA : Nat → ClassId} {ad : SAd} {scrS d : Nat}
variable {T : Nat → Int} {L N : Nat}
theorem m_products (hp : cPl tm tc tf EX) {D dd : Nat} (hD : 3 ≤ D) (htp : ∀ {M : SMem} {n e : Nat}, oRS T L N n e M → M 1 0 8 = 0 → cBG tm tf EX l dC dI cA ad scrS D kX10_takePart [(2, 1, 0), (0, 0, (dd : Int))] M (fun rr MM => rr = [] ∧ oDA T L N n e M MM (oTe T L n dd) (oTo T L n dd))) : ∀ {M : SMem} {n e : Nat}, oRS T L N n e M → M 1 0 8 = 0 → cBG tm tf EX l dC dI cA ad scrS (D + 1) kX10_products [(2, 1, 0), (0, 0, (dd : Int))] M (fun rr MM => rr = [] ∧ oDA T L N n e M MM (oPe T L 4 n dd) (fun n' cc => oPo T L 4 n dd n' cc ∧ oK T L (oIx T L n') ≠ 22)) := by
  intro M n e hS h8
  have hi := oRS_i hS
  refine cMeth (v := [(dd : Int)]) (Fd := 90) hp (by decide) gX10_products_ok gX10_products_m0 (by simp [cAs, cE2, sev, svl, cen]) ?_
  have bad : ∀ MW : SMem, oDf T L N n e 0 M MW (oPe T L 4 n dd) → cEnds (cBG tm tf EX l dC dI cA ad scrS D) (fun rr MM => rr = [] ∧ oDA T L N n e M MM (oPe T L 4 n dd) (fun n' cc => oPo T L 4 n dd n' cc ∧ oK T L (oIx T L n') ≠ 22)) 90 gX10_products 5 [(dd : Int)] MW := by
    intro MW h
    have h0 := h
    obtain ⟨-, n', e', f, S1, -, -, -, -, f0, f8, -⟩ := h
    refine cEnds_at gX10_products_m5 rfl ?_
    refine d_call (cBG_mono (show 2 ≤ D by omega) (m_hasSign (d := 0) hp (c := 42) S1 (by decide))) (by simp [cAs, cE2, sev, svl, cen] <;> omega) ?_
    intro rr M' hq
    rcases hq with ⟨rfl, q1, hM'⟩ | ⟨rfl, q1, hM'⟩
    · rw [hM']
      refine ⟨rfl, ?_⟩
      refine d_br (fun h => ?_) (fun h => ?_)
      · simp only [cCmp, cE2, sev, svl, cen, List.cons_append, List.nil_append] at h
        omega
      · clear h
        exact absurd q1.1 (by omega)
    · rw [hM']
      refine ⟨rfl, ?_⟩
      refine d_br (fun h => ?_) (fun h => ?_)
      · clear h
        exact d_ret [] rfl (by decide) ⟨rfl, Or.inl h0⟩
      · simp only [cCmp, cE2, sev, svl, cen, List.cons_append, List.nil_append] at h
        omega
  have loop : ∀ (m n1 : Nat) (cc : List Int) (MW : SMem), N + 1 - n1 ≤ m → oDk T L N n e 0 M MW n1 cc → oPo T L 4 n dd n1 cc → cEnds (cBG tm tf EX l dC dI cA ad scrS D) (fun rr MM => rr = [] ∧ oDA T L N n e M MM (oPe T L 4 n dd) (fun n' cc => oPo T L 4 n dd n' cc ∧ oK T L (oIx T L n') ≠ 22)) 90 gX10_products 5 [(dd : Int)] MW := by
    intro m
    induction m with
    | zero =>
      intro n1 cc MW hm hk
      have := oRS_i hk.2.1
      omega
    | succ m ih =>
      intro n1 cc MW hm hk hP
      have hk1 := hk
      obtain ⟨F1, S1, -, -, -, z8, -⟩ := hk
      have hi1 := oRS_i S1
      have aft : ∀ (M2 : SMem) (e9 : Nat), oK T L (oIx T L n1) = 22 → oDA T L N (n1 + 1) (e + cc.length) (supd MW 1 0 7 ((n1 : Int) + 1)) M2 (oTe T L (n1 + 1) dd) (oTo T L (n1 + 1) dd) → M2 1 0 39 = (e9 : Int) → cEnds (cBG tm tf EX l dC dI cA ad scrS D) (fun rr MM => rr = [] ∧ oDA T L N n e M MM (oPe T L 4 n dd) (fun n' cc => oPo T L 4 n dd n' cc ∧ oK T L (oIx T L n') ≠ 22)) 90 gX10_products 5 [(dd : Int)] (oEm M2 e9 6 0) := by
        intro M2 e9 h22 hA h39
        have ht := oDk_t hk1 (oMT_lt S1.2.1 hi1.2.1 (by omega))
        rcases hA with hf | ⟨n2, c2, hg, hTo⟩
        · exact bad _ (oDf_e (oDf_s ht hf (fun f q => oPr_e h22 hP q)) hi.2.2 ⟨by decide, by decide⟩ ⟨by decide, by decide⟩ h39)
        · have hs := oDk_s ht hg
          have g39 := hs.2.1.2.2.2.2.2.1
          have g3 := hg.2.2.1
          have e9e : e9 = e + (cc ++ c2).length := by omega
          subst e9e
          exact ih n2 (cc ++ c2 ++ [22]) _ (by omega) (oDk_e hs hi.2.2 (by decide) (by decide) ⟨by decide, by decide⟩) (oPr_o h22 hP hTo)
      refine cEnds_at gX10_products_m5 rfl ?_
      refine d_call (cBG_mono (show 2 ≤ D by omega) (m_hasSign (d := 0) hp (c := 42) S1 (by decide))) (by simp [cAs, cE2, sev, svl, cen] <;> omega) ?_
      intro rr M' hq
      rcases hq with ⟨rfl, q1, hM'⟩ | ⟨rfl, q1, hM'⟩
      · rw [hM']
        refine ⟨rfl, ?_⟩
        refine d_br (fun h => ?_) (fun h => ?_)
        · simp only [cCmp, cE2, sev, svl, cen, List.cons_append, List.nil_append] at h
          omega
        · clear h
          have k22 : oK T L (oIx T L n1) = 22 := q1.2.trans (by decide)
          have S2 := oRS_at S1 (oMT_lt S1.2.1 hi1.2.1 (by omega))
          refine d_call (htp S2 ((supd_i (by decide)).trans z8)) (by simp [cAs, cE2, sev, svl, cen] <;> omega) ?_
          intro rr M2 hq
          obtain ⟨rfl, hA⟩ := hq
          obtain ⟨e9, h39, h1000⟩ := oDA_39 hA
          refine ⟨rfl, ?_⟩
          refine d_call (cBG_mono (show 1 ≤ D by omega) (m_emit (d := 0) hp (x := 6) (y := 0) h39 h1000)) (by simp [cAs, cE2, sev, svl, cen] <;> omega) ?_
          intro rr M3 hq
          obtain ⟨rfl, hM'⟩ := hq
          refine ⟨rfl, ?_⟩
          rw [hM']
          refine d_cut [(dd : Int)] (by simp [cE2, sev, svl, cen] <;> omega) ?_
          exact aft M2 e9 k22 hA h39
      · rw [hM']
        refine ⟨rfl, ?_⟩
        refine d_br (fun h => ?_) (fun h => ?_)
        · clear h
          exact d_ret [] rfl (by decide) ⟨rfl, Or.inr ⟨n1, cc, hk1, hP, fun q => q1 ⟨z8, q.trans (by decide)⟩⟩⟩
        · simp only [cCmp, cE2, sev, svl, cen, List.cons_append, List.nil_append] at h
          omega
  refine cEnds_at gX10_products_m0 rfl ?_
  refine d_call (htp hS h8) (by simp [cAs, cE2, sev, svl, cen]) ?_
  rintro rr M1 ⟨rfl, hA⟩
  refine ⟨rfl, ?_⟩
  refine d_cut [(dd : Int)] (by simp [cE2, sev, svl, cen] <;> omega) ?_
  rcases hA with hf | ⟨n1, cc, hk, hTo⟩
  · obtain ⟨h1, n', e', f, h2⟩ := hf
    exact bad M1 ⟨h1, n', e', f, h2.1, h2.2.1, h2.2.2.1, h2.2.2.2.1, h2.2.2.2.2.1, h2.2.2.2.2.2.1, h2.2.2.2.2.2.2.1, oP_te h2.2.2.2.2.2.2.2⟩
  · exact loop _ n1 cc M1 (Nat.le_refl _) hk (oP_to hTo)
theorem m_sums (hp : cPl tm tc tf EX) {D dd : Nat} (hD : 3 ≤ D) (hpr : ∀ {M : SMem} {n e : Nat}, oRS T L N n e M → M 1 0 8 = 0 → cBG tm tf EX l dC dI cA ad scrS D kX10_products [(2, 1, 0), (0, 0, (dd : Int))] M (fun rr MM => rr = [] ∧ oDA T L N n e M MM (oPe T L 4 n dd) (fun n' cc => oPo T L 4 n dd n' cc ∧ oK T L (oIx T L n') ≠ 22))) : ∀ {M : SMem} {n e : Nat}, oRS T L N n e M → M 1 0 8 = 0 → cBG tm tf EX l dC dI cA ad scrS (D + 1) kX10_sums [(2, 1, 0), (0, 0, (dd : Int))] M (fun rr MM => rr = [] ∧ oDA T L N n e M MM (oPe T L 3 n dd) (fun n' cc => oPo T L 3 n dd n' cc ∧ (oK T L (oIx T L n') ≠ 20 ∧ oK T L (oIx T L n') ≠ 21 ∧ oK T L (oIx T L n') ≠ 22))) := by
  intro M n e hS h8
  have hi := oRS_i hS
  refine cMeth (v := [(dd : Int)]) (Fd := 90) hp (by decide) gX10_sums_ok gX10_sums_m0 (by simp [cAs, cE2, sev, svl, cen]) ?_
  have bad : ∀ MW : SMem, oDf T L N n e 0 M MW (oPe T L 3 n dd) → cEnds (cBG tm tf EX l dC dI cA ad scrS D) (fun rr MM => rr = [] ∧ oDA T L N n e M MM (oPe T L 3 n dd) (fun n' cc => oPo T L 3 n dd n' cc ∧ (oK T L (oIx T L n') ≠ 20 ∧ oK T L (oIx T L n') ≠ 21 ∧ oK T L (oIx T L n') ≠ 22))) 90 gX10_sums 5 [(dd : Int)] MW := by
    intro MW h
    have h0 := h
    obtain ⟨-, n', e', f, S1, -, -, -, -, f0, f8, -⟩ := h
    have hi1 := oRS_i S1
    refine cEnds_at gX10_sums_m5 rfl ?_
    refine d_call (cBG_mono (show 1 ≤ D by omega) (m_isSign (d := 0) hp (c := 43) S1 (by decide))) (by simp [cAs, cE2, sev, svl, cen] <;> omega) ?_
    intro rr M' hq
    obtain ⟨hM', hq⟩ := hq
    rw [hM']
    rcases hq with ⟨rfl, q1⟩ | ⟨rfl, q1⟩
    · refine ⟨rfl, ?_⟩
      refine d_br (fun h => ?_) (fun h => ?_)
      · clear h
        refine d_call (cBG_mono (show 1 ≤ D by omega) (m_isSign (d := 0) hp (c := 43) S1 (by decide))) (by simp [cAs, cE2, sev, svl, cen] <;> omega) ?_
        intro rr M' hq
        obtain ⟨hM', hq⟩ := hq
        rw [hM']
        rcases hq with ⟨rfl, q2⟩ | ⟨rfl, q2⟩
        · refine ⟨rfl, ?_⟩
          refine d_fld 0 (by simp only [cE2, sev, svl, cen, List.cons_append, List.nil_append]; omega) ?_
          rw [S1.2.2.2.1]
          refine d_rng (by simp only [clo, chi, cE2, sev, svl, cen, List.cons_append, List.nil_append]; omega) ?_
          refine d_put 0 ((n' : Int) + 1) (by simp only [cE2, sev, svl, cen, List.cons_append, List.nil_append]; omega) (by simp only [cE2, sev, svl, cen, List.cons_append, List.nil_append]; omega) ?_
          exact absurd (show MW 1 0 8 = 0 from (by first | exact q1.1 | exact q2.1)) (by omega)
        · refine ⟨rfl, ?_⟩
          refine d_fld 0 (by simp only [cE2, sev, svl, cen, List.cons_append, List.nil_append]; omega) ?_
          rw [S1.2.2.2.1]
          refine d_rng (by simp only [clo, chi, cE2, sev, svl, cen, List.cons_append, List.nil_append]; omega) ?_
          refine d_put 0 ((n' : Int) + 1) (by simp only [cE2, sev, svl, cen, List.cons_append, List.nil_append]; omega) (by simp only [cE2, sev, svl, cen, List.cons_append, List.nil_append]; omega) ?_
          exact absurd (show MW 1 0 8 = 0 from (by first | exact q1.1 | exact q2.1)) (by omega)
      · simp only [cCmp, cE2, sev, svl, cen, List.cons_append, List.nil_append] at h
        omega
    · refine ⟨rfl, ?_⟩
      refine d_br (fun h => ?_) (fun h => ?_)
      · simp only [cCmp, cE2, sev, svl, cen, List.cons_append, List.nil_append] at h
        omega
      · clear h
        refine d_call (cBG_mono (show 1 ≤ D by omega) (m_isSign (d := 0) hp (c := 45) S1 (by decide))) (by simp [cAs, cE2, sev, svl, cen] <;> omega) ?_
        intro rr M' hq
        obtain ⟨hM', hq⟩ := hq
        rw [hM']
        rcases hq with ⟨rfl, q2⟩ | ⟨rfl, q2⟩
        · refine ⟨rfl, ?_⟩
          refine d_br (fun h => ?_) (fun h => ?_)
          · simp only [cCmp, cE2, sev, svl, cen, List.cons_append, List.nil_append] at h
            omega
          · clear h
            refine d_call (cBG_mono (show 1 ≤ D by omega) (m_isSign (d := 0) hp (c := 43) S1 (by decide))) (by simp [cAs, cE2, sev, svl, cen] <;> omega) ?_
            intro rr M' hq
            obtain ⟨hM', hq⟩ := hq
            rw [hM']
            rcases hq with ⟨rfl, q3⟩ | ⟨rfl, q3⟩
            · refine ⟨rfl, ?_⟩
              refine d_fld 0 (by simp only [cE2, sev, svl, cen, List.cons_append, List.nil_append]; omega) ?_
              rw [S1.2.2.2.1]
              refine d_rng (by simp only [clo, chi, cE2, sev, svl, cen, List.cons_append, List.nil_append]; omega) ?_
              refine d_put 0 ((n' : Int) + 1) (by simp only [cE2, sev, svl, cen, List.cons_append, List.nil_append]; omega) (by simp only [cE2, sev, svl, cen, List.cons_append, List.nil_append]; omega) ?_
              exact absurd (show MW 1 0 8 = 0 from (by first | exact q1.1 | exact q2.1)) (by omega)
            · refine ⟨rfl, ?_⟩
              refine d_fld 0 (by simp only [cE2, sev, svl, cen, List.cons_append, List.nil_append]; omega) ?_
              rw [S1.2.2.2.1]
              refine d_rng (by simp only [clo, chi, cE2, sev, svl, cen, List.cons_append, List.nil_append]; omega) ?_
              refine d_put 0 ((n' : Int) + 1) (by simp only [cE2, sev, svl, cen, List.cons_append, List.nil_append]; omega) (by simp only [cE2, sev, svl, cen, List.cons_append, List.nil_append]; omega) ?_
              exact absurd (show MW 1 0 8 = 0 from (by first | exact q1.1 | exact q2.1)) (by omega)
        · refine ⟨rfl, ?_⟩
          refine d_br (fun h => ?_) (fun h => ?_)
          · clear h
            exact d_ret [] rfl (by decide) ⟨rfl, Or.inl h0⟩
          · simp only [cCmp, cE2, sev, svl, cen, List.cons_append, List.nil_append] at h
            omega
  have loop : ∀ (m n1 : Nat) (cc : List Int) (MW : SMem), N + 1 - n1 ≤ m → oDk T L N n e 0 M MW n1 cc → oPo T L 3 n dd n1 cc → oK T L (oIx T L n1) ≠ 22 → cEnds (cBG tm tf EX l dC dI cA ad scrS D) (fun rr MM => rr = [] ∧ oDA T L N n e M MM (oPe T L 3 n dd) (fun n' cc => oPo T L 3 n dd n' cc ∧ (oK T L (oIx T L n') ≠ 20 ∧ oK T L (oIx T L n') ≠ 21 ∧ oK T L (oIx T L n') ≠ 22))) 90 gX10_sums 5 [(dd : Int)] MW := by
    intro m
    induction m with
    | zero =>
      intro n1 cc MW hm hk
      have := oRS_i hk.2.1
      omega
    | succ m ih =>
      intro n1 cc MW hm hk hP hK
      have hk1 := hk
      obtain ⟨F1, S1, -, -, -, z8, -⟩ := hk
      have hi1 := oRS_i S1
      have aft : ∀ (a : Nat) (x : Int) (M2 : SMem) (e9 : Nat), oK T L (oIx T L n1) = a → ((a = 20 ∧ x = 4) ∨ (a = 21 ∧ x = 5)) → oDA T L N (n1 + 1) (e + cc.length) (supd MW 1 0 7 ((n1 : Int) + 1)) M2 (oPe T L 4 (n1 + 1) dd) (fun n' cc => oPo T L 4 (n1 + 1) dd n' cc ∧ oK T L (oIx T L n') ≠ 22) → M2 1 0 39 = (e9 : Int) → cEnds (cBG tm tf EX l dC dI cA ad scrS D) (fun rr MM => rr = [] ∧ oDA T L N n e M MM (oPe T L 3 n dd) (fun n' cc => oPo T L 3 n dd n' cc ∧ (oK T L (oIx T L n') ≠ 20 ∧ oK T L (oIx T L n') ≠ 21 ∧ oK T L (oIx T L n') ≠ 22))) 90 gX10_sums 5 [(dd : Int)] (oEm M2 e9 x 0) := by
        intro a x M2 e9 hka hax hA h39
        have ha : a = 20 ∨ a = 21 := by omega
        have ht := oDk_t hk1 (oMT_lt S1.2.1 hi1.2.1 (by omega))
        rcases hA with hf | ⟨n2, c2, hg, hTo, hK2⟩
        · exact bad _ (oDf_e (oDf_s ht hf (fun f q => oSu_e hka ha hP q)) hi.2.2 ⟨by omega, by omega⟩ ⟨by decide, by decide⟩ h39)
        · have hs := oDk_s ht hg
          have g39 := hs.2.1.2.2.2.2.2.1
          have g3 := hg.2.2.1
          have e9e : e9 = e + (cc ++ c2).length := by omega
          subst e9e
          have ho : oOp1 (a : Int) = x ∧ oOp2 (a : Int) = 0 := by
            rcases hax with ⟨rfl, rfl⟩ | ⟨rfl, rfl⟩ <;> exact ⟨by decide, by decide⟩
          exact ih n2 (cc ++ c2 ++ [(a : Int)]) _ (by omega) (oDk_e hs hi.2.2 ho.1 ho.2 ⟨by omega, by omega⟩) (oSu_o hka ha hP hTo hK2) hK2
      refine cEnds_at gX10_sums_m5 rfl ?_
      refine d_call (cBG_mono (show 1 ≤ D by omega) (m_isSign (d := 0) hp (c := 43) S1 (by decide))) (by simp [cAs, cE2, sev, svl, cen] <;> omega) ?_
      intro rr M' hq
      obtain ⟨hM', hq⟩ := hq
      rw [hM']
      rcases hq with ⟨rfl, q1⟩ | ⟨rfl, q1⟩
      · refine ⟨rfl, ?_⟩
        refine d_br (fun h => ?_) (fun h => ?_)
        · clear h
          refine d_call (cBG_mono (show 1 ≤ D by omega) (m_isSign (d := 0) hp (c := 43) S1 (by decide))) (by simp [cAs, cE2, sev, svl, cen] <;> omega) ?_
          intro rr M' hq
          obtain ⟨hM', hq⟩ := hq
          rw [hM']
          rcases hq with ⟨rfl, q2⟩ | ⟨rfl, q2⟩
          · refine ⟨rfl, ?_⟩
            refine d_fld 0 (by simp only [cE2, sev, svl, cen, List.cons_append, List.nil_append]; omega) ?_
            rw [S1.2.2.2.1]
            refine d_rng (by simp only [clo, chi, cE2, sev, svl, cen, List.cons_append, List.nil_append]; omega) ?_
            refine d_put 0 ((n1 : Int) + 1) (by simp only [cE2, sev, svl, cen, List.cons_append, List.nil_append]; omega) (by simp only [cE2, sev, svl, cen, List.cons_append, List.nil_append]; omega) ?_
            refine d_call (hpr (oRS_at S1 (oMT_lt S1.2.1 hi1.2.1 (by first | (have k9 : oK T L (oIx T L n1) = 20 := q1.2.trans (by decide); omega) | (have k9 : oK T L (oIx T L n1) = 21 := q2.2.trans (by decide); omega)))) ((supd_i (by decide)).trans z8)) (by simp [cAs, cE2, sev, svl, cen] <;> omega) ?_
            intro rr M2 hq
            obtain ⟨rfl, hA⟩ := hq
            obtain ⟨e9, h39, h1000⟩ := oDA_39 hA
            refine ⟨rfl, ?_⟩
            refine d_br (fun h => ?_) (fun h => ?_)
            · simp only [cCmp, cE2, sev, svl, cen, List.cons_append, List.nil_append] at h
              omega
            · clear h
              refine d_call (cBG_mono (show 1 ≤ D by omega) (m_emit (d := 0) hp (x := 4) (y := 0) h39 h1000)) (by simp [cAs, cE2, sev, svl, cen] <;> omega) ?_
              intro rr M3 hq
              obtain ⟨rfl, hM'⟩ := hq
              refine ⟨rfl, ?_⟩
              rw [hM']
              refine d_cut [(dd : Int)] (by simp [cE2, sev, svl, cen] <;> omega) ?_
              exact aft 20 4 M2 e9 (q1.2.trans (by decide)) (Or.inl ⟨rfl, rfl⟩) hA h39
          · refine ⟨rfl, ?_⟩
            refine d_fld 0 (by simp only [cE2, sev, svl, cen, List.cons_append, List.nil_append]; omega) ?_
            rw [S1.2.2.2.1]
            refine d_rng (by simp only [clo, chi, cE2, sev, svl, cen, List.cons_append, List.nil_append]; omega) ?_
            refine d_put 0 ((n1 : Int) + 1) (by simp only [cE2, sev, svl, cen, List.cons_append, List.nil_append]; omega) (by simp only [cE2, sev, svl, cen, List.cons_append, List.nil_append]; omega) ?_
            refine d_call (hpr (oRS_at S1 (oMT_lt S1.2.1 hi1.2.1 (by first | (have k9 : oK T L (oIx T L n1) = 20 := q1.2.trans (by decide); omega) | (have k9 : oK T L (oIx T L n1) = 21 := q2.2.trans (by decide); omega)))) ((supd_i (by decide)).trans z8)) (by simp [cAs, cE2, sev, svl, cen] <;> omega) ?_
            intro rr M2 hq
            obtain ⟨rfl, hA⟩ := hq
            obtain ⟨e9, h39, h1000⟩ := oDA_39 hA
            refine ⟨rfl, ?_⟩
            refine d_br (fun h => ?_) (fun h => ?_)
            · clear h
              refine d_call (cBG_mono (show 1 ≤ D by omega) (m_emit (d := 0) hp (x := 5) (y := 0) h39 h1000)) (by simp [cAs, cE2, sev, svl, cen] <;> omega) ?_
              intro rr M3 hq
              obtain ⟨rfl, hM'⟩ := hq
              refine ⟨rfl, ?_⟩
              exact absurd q1 q2
            · simp only [cCmp, cE2, sev, svl, cen, List.cons_append, List.nil_append] at h
              omega
        · simp only [cCmp, cE2, sev, svl, cen, List.cons_append, List.nil_append] at h
          omega
      · refine ⟨rfl, ?_⟩
        refine d_br (fun h => ?_) (fun h => ?_)
        · simp only [cCmp, cE2, sev, svl, cen, List.cons_append, List.nil_append] at h
          omega
        · clear h
          refine d_call (cBG_mono (show 1 ≤ D by omega) (m_isSign (d := 0) hp (c := 45) S1 (by decide))) (by simp [cAs, cE2, sev, svl, cen] <;> omega) ?_
          intro rr M' hq
          obtain ⟨hM', hq⟩ := hq
          rw [hM']
          rcases hq with ⟨rfl, q2⟩ | ⟨rfl, q2⟩
          · refine ⟨rfl, ?_⟩
            refine d_br (fun h => ?_) (fun h => ?_)
            · simp only [cCmp, cE2, sev, svl, cen, List.cons_append, List.nil_append] at h
              omega
            · clear h
              refine d_call (cBG_mono (show 1 ≤ D by omega) (m_isSign (d := 0) hp (c := 43) S1 (by decide))) (by simp [cAs, cE2, sev, svl, cen] <;> omega) ?_
              intro rr M' hq
              obtain ⟨hM', hq⟩ := hq
              rw [hM']
              rcases hq with ⟨rfl, q3⟩ | ⟨rfl, q3⟩
              · refine ⟨rfl, ?_⟩
                refine d_fld 0 (by simp only [cE2, sev, svl, cen, List.cons_append, List.nil_append]; omega) ?_
                rw [S1.2.2.2.1]
                refine d_rng (by simp only [clo, chi, cE2, sev, svl, cen, List.cons_append, List.nil_append]; omega) ?_
                refine d_put 0 ((n1 : Int) + 1) (by simp only [cE2, sev, svl, cen, List.cons_append, List.nil_append]; omega) (by simp only [cE2, sev, svl, cen, List.cons_append, List.nil_append]; omega) ?_
                refine d_call (hpr (oRS_at S1 (oMT_lt S1.2.1 hi1.2.1 (by first | (have k9 : oK T L (oIx T L n1) = 20 := q1.2.trans (by decide); omega) | (have k9 : oK T L (oIx T L n1) = 21 := q2.2.trans (by decide); omega)))) ((supd_i (by decide)).trans z8)) (by simp [cAs, cE2, sev, svl, cen] <;> omega) ?_
                intro rr M2 hq
                obtain ⟨rfl, hA⟩ := hq
                obtain ⟨e9, h39, h1000⟩ := oDA_39 hA
                refine ⟨rfl, ?_⟩
                refine d_br (fun h => ?_) (fun h => ?_)
                · simp only [cCmp, cE2, sev, svl, cen, List.cons_append, List.nil_append] at h
                  omega
                · clear h
                  refine d_call (cBG_mono (show 1 ≤ D by omega) (m_emit (d := 0) hp (x := 4) (y := 0) h39 h1000)) (by simp [cAs, cE2, sev, svl, cen] <;> omega) ?_
                  intro rr M3 hq
                  obtain ⟨rfl, hM'⟩ := hq
                  refine ⟨rfl, ?_⟩
                  exact absurd q3 q1
              · refine ⟨rfl, ?_⟩
                refine d_fld 0 (by simp only [cE2, sev, svl, cen, List.cons_append, List.nil_append]; omega) ?_
                rw [S1.2.2.2.1]
                refine d_rng (by simp only [clo, chi, cE2, sev, svl, cen, List.cons_append, List.nil_append]; omega) ?_
                refine d_put 0 ((n1 : Int) + 1) (by simp only [cE2, sev, svl, cen, List.cons_append, List.nil_append]; omega) (by simp only [cE2, sev, svl, cen, List.cons_append, List.nil_append]; omega) ?_
                refine d_call (hpr (oRS_at S1 (oMT_lt S1.2.1 hi1.2.1 (by first | (have k9 : oK T L (oIx T L n1) = 20 := q1.2.trans (by decide); omega) | (have k9 : oK T L (oIx T L n1) = 21 := q2.2.trans (by decide); omega)))) ((supd_i (by decide)).trans z8)) (by simp [cAs, cE2, sev, svl, cen] <;> omega) ?_
                intro rr M2 hq
                obtain ⟨rfl, hA⟩ := hq
                obtain ⟨e9, h39, h1000⟩ := oDA_39 hA
                refine ⟨rfl, ?_⟩
                refine d_br (fun h => ?_) (fun h => ?_)
                · clear h
                  refine d_call (cBG_mono (show 1 ≤ D by omega) (m_emit (d := 0) hp (x := 5) (y := 0) h39 h1000)) (by simp [cAs, cE2, sev, svl, cen] <;> omega) ?_
                  intro rr M3 hq
                  obtain ⟨rfl, hM'⟩ := hq
                  refine ⟨rfl, ?_⟩
                  rw [hM']
                  refine d_cut [(dd : Int)] (by simp [cE2, sev, svl, cen] <;> omega) ?_
                  exact aft 21 5 M2 e9 (q2.2.trans (by decide)) (Or.inr ⟨rfl, rfl⟩) hA h39
                · simp only [cCmp, cE2, sev, svl, cen, List.cons_append, List.nil_append] at h
                  omega
          · refine ⟨rfl, ?_⟩
            refine d_br (fun h => ?_) (fun h => ?_)
            · clear h
              exact d_ret [] rfl (by decide) ⟨rfl, Or.inr ⟨n1, cc, hk1, hP, fun q => q1 ⟨z8, q.trans (by decide)⟩, fun q => q2 ⟨z8, q.trans (by decide)⟩, hK⟩⟩
            · simp only [cCmp, cE2, sev, svl, cen, List.cons_append, List.nil_append] at h
              omega
  refine cEnds_at gX10_sums_m0 rfl ?_
  refine d_call (hpr hS h8) (by simp [cAs, cE2, sev, svl, cen]) ?_
  rintro rr M1 ⟨rfl, hA⟩
  refine ⟨rfl, ?_⟩
  refine d_cut [(dd : Int)] (by simp [cE2, sev, svl, cen] <;> omega) ?_
  rcases hA with hf | ⟨n1, cc, hk, hTo, hK⟩
  · obtain ⟨h1, n', e', f, h2⟩ := hf
    exact bad M1 ⟨h1, n', e', f, h2.1, h2.2.1, h2.2.2.1, h2.2.2.2.1, h2.2.2.2.2.1, h2.2.2.2.2.2.1, h2.2.2.2.2.2.2.1, oP_w (by decide) h2.2.2.2.2.2.2.2⟩
  · exact loop _ n1 cc M1 (Nat.le_refl _) hk (oPo_w (by decide) hTo) hK
theorem oDf_m {T : Nat → Int} {L N n e k : Nat} {M M1 : SMem} {RE RE' : Int → Prop} (h : oDf T L N n e k M M1 RE) (hR : ∀ f, RE f → RE' f) : oDf T L N n e k M M1 RE' := by
  obtain ⟨h1, n', e', f, h2, h3, h4, h5, h6, h7, h8, h9⟩ := h
  exact ⟨h1, n', e', f, h2, h3, h4, h5, h6, h7, h8, hR f h9⟩
theorem m_test (hp : cPl tm tc tf EX) {D dd : Nat} (hD : 3 ≤ D) (hsu : ∀ {M : SMem} {n e : Nat}, oRS T L N n e M → M 1 0 8 = 0 → cBG tm tf EX l dC dI cA ad scrS D kX10_sums [(2, 1, 0), (0, 0, (dd : Int))] M (fun rr MM => rr = [] ∧ oDA T L N n e M MM (oPe T L 3 n dd) (fun n' cc => oPo T L 3 n dd n' cc ∧ (oK T L (oIx T L n') ≠ 20 ∧ oK T L (oIx T L n') ≠ 21 ∧ oK T L (oIx T L n') ≠ 22)))) : ∀ {M : SMem} {n e : Nat}, oRS T L N n e M → M 1 0 8 = 0 → cBG tm tf EX l dC dI cA ad scrS (D + 1) kX10_test [(2, 1, 0), (0, 0, (dd : Int))] M (fun rr MM => rr = [] ∧ oDA T L N n e M MM (oPe T L 2 n dd) (fun n' cc => oQo T L 2 n dd n' cc ∧ (oK T L (oIx T L n') ≠ 20 ∧ oK T L (oIx T L n') ≠ 21 ∧ oK T L (oIx T L n') ≠ 22))) := by
  intro M n e hS h8
  have hi := oRS_i hS
  refine cMeth (v := [(dd : Int)]) (Fd := 90) hp (by decide) gX10_test_ok gX10_test_m0 (by simp [cAs, cE2, sev, svl, cen]) ?_
  refine cEnds_at gX10_test_m0 rfl ?_
  refine d_call (hsu hS h8) (by simp [cAs, cE2, sev, svl, cen]) ?_
  rintro rr MW ⟨rfl, hA⟩
  refine ⟨rfl, ?_⟩
  rcases hA with hf | ⟨n1, cc, hk, hP, hK⟩
  · have h0 := hf
    obtain ⟨-, n', e', f, S1, -, -, -, -, f0, f8, -⟩ := hf
    have hi1 := oRS_i S1
    refine d_call (cBG_mono (show 1 ≤ D by omega) (m_isSign (d := 0) hp (c := 60) S1 (by decide))) (by simp [cAs, cE2, sev, svl, cen] <;> omega) ?_
    intro rr M' hq
    obtain ⟨hM', hq⟩ := hq
    rw [hM']
    rcases hq with ⟨rfl, q1⟩ | ⟨rfl, q1⟩
    · refine ⟨rfl, ?_⟩
      refine d_call (cBG_mono (show 2 ≤ D by omega) (m_hasSign (d := 0) hp (c := 60) S1 (by decide))) (by simp [cAs, cE2, sev, svl, cen] <;> omega) ?_
      intro rr M' hq
      rcases hq with ⟨rfl, q2, hM'⟩ | ⟨rfl, q2, hM'⟩
      · rw [hM']
        refine ⟨rfl, ?_⟩
        refine d_br (fun h => ?_) (fun h => ?_)
        · clear h
          exact absurd (show MW 1 0 8 = 0 from (by first | exact q2.1 | exact q3.1)) (by omega)
        · simp only [cCmp, cE2, sev, svl, cen, List.cons_append, List.nil_append] at h
          omega
      · rw [hM']
        refine ⟨rfl, ?_⟩
        refine d_br (fun h => ?_) (fun h => ?_)
        · simp only [cCmp, cE2, sev, svl, cen, List.cons_append, List.nil_append] at h
          omega
        · clear h
          refine d_call (cBG_mono (show 2 ≤ D by omega) (m_hasSign (d := 0) hp (c := 61) S1 (by decide))) (by simp [cAs, cE2, sev, svl, cen] <;> omega) ?_
          intro rr M' hq
          rcases hq with ⟨rfl, q3, hM'⟩ | ⟨rfl, q3, hM'⟩
          · rw [hM']
            refine ⟨rfl, ?_⟩
            refine d_br (fun h => ?_) (fun h => ?_)
            · simp only [cCmp, cE2, sev, svl, cen, List.cons_append, List.nil_append] at h
              omega
            · clear h
              exact absurd (show MW 1 0 8 = 0 from (by first | exact q2.1 | exact q3.1)) (by omega)
          · rw [hM']
            refine ⟨rfl, ?_⟩
            refine d_br (fun h => ?_) (fun h => ?_)
            · clear h
              exact d_ret [] rfl (by decide) ⟨rfl, Or.inl (oDf_m h0 (fun f q => oP_w (by decide) q))⟩
            · simp only [cCmp, cE2, sev, svl, cen, List.cons_append, List.nil_append] at h
              omega
    · refine ⟨rfl, ?_⟩
      refine d_call (cBG_mono (show 2 ≤ D by omega) (m_hasSign (d := 0) hp (c := 60) S1 (by decide))) (by simp [cAs, cE2, sev, svl, cen] <;> omega) ?_
      intro rr M' hq
      rcases hq with ⟨rfl, q2, hM'⟩ | ⟨rfl, q2, hM'⟩
      · rw [hM']
        refine ⟨rfl, ?_⟩
        refine d_br (fun h => ?_) (fun h => ?_)
        · clear h
          exact absurd (show MW 1 0 8 = 0 from (by first | exact q2.1 | exact q3.1)) (by omega)
        · simp only [cCmp, cE2, sev, svl, cen, List.cons_append, List.nil_append] at h
          omega
      · rw [hM']
        refine ⟨rfl, ?_⟩
        refine d_br (fun h => ?_) (fun h => ?_)
        · simp only [cCmp, cE2, sev, svl, cen, List.cons_append, List.nil_append] at h
          omega
        · clear h
          refine d_call (cBG_mono (show 2 ≤ D by omega) (m_hasSign (d := 0) hp (c := 61) S1 (by decide))) (by simp [cAs, cE2, sev, svl, cen] <;> omega) ?_
          intro rr M' hq
          rcases hq with ⟨rfl, q3, hM'⟩ | ⟨rfl, q3, hM'⟩
          · rw [hM']
            refine ⟨rfl, ?_⟩
            refine d_br (fun h => ?_) (fun h => ?_)
            · simp only [cCmp, cE2, sev, svl, cen, List.cons_append, List.nil_append] at h
              omega
            · clear h
              exact absurd (show MW 1 0 8 = 0 from (by first | exact q2.1 | exact q3.1)) (by omega)
          · rw [hM']
            refine ⟨rfl, ?_⟩
            refine d_br (fun h => ?_) (fun h => ?_)
            · clear h
              exact d_ret [] rfl (by decide) ⟨rfl, Or.inl (oDf_m h0 (fun f q => oP_w (by decide) q))⟩
            · simp only [cCmp, cE2, sev, svl, cen, List.cons_append, List.nil_append] at h
              omega
  · have hk1 := hk
    obtain ⟨F1, S1, -, -, -, z8, -⟩ := hk
    have hi1 := oRS_i S1
    have aft : ∀ (a : Nat) (x : Int) (M2 : SMem) (e9 : Nat), oK T L (oIx T L n1) = a → ((a = 18 ∧ x = 7) ∨ (a = 19 ∧ x = 8)) → oDA T L N (n1 + 1) (e + cc.length) (supd MW 1 0 7 ((n1 : Int) + 1)) M2 (oPe T L 3 (n1 + 1) dd) (fun n' cc => oPo T L 3 (n1 + 1) dd n' cc ∧ (oK T L (oIx T L n') ≠ 20 ∧ oK T L (oIx T L n') ≠ 21 ∧ oK T L (oIx T L n') ≠ 22)) → M2 1 0 39 = (e9 : Int) → oDA T L N n e M (oEm M2 e9 x 0) (oPe T L 2 n dd) (fun n' cc => oQo T L 2 n dd n' cc ∧ (oK T L (oIx T L n') ≠ 20 ∧ oK T L (oIx T L n') ≠ 21 ∧ oK T L (oIx T L n') ≠ 22)) := by
      intro a x M2 e9 hka hax hA h39
      have ha : a = 18 ∨ a = 19 := by omega
      have ht := oDk_t hk1 (oMT_lt S1.2.1 hi1.2.1 (by omega))
      rcases hA with hf | ⟨n2, c2, hg, hTo, hK2⟩
      · exact Or.inl (oDf_e (oDf_s ht hf (fun f q => oTs_e hka ha hP q)) hi.2.2 ⟨by omega, by omega⟩ ⟨by decide, by decide⟩ h39)
      · have hs := oDk_s ht hg
        have g39 := hs.2.1.2.2.2.2.2.1
        have e9e : e9 = e + (cc ++ c2).length := by omega
        subst e9e
        have ho : oOp1 (a : Int) = x ∧ oOp2 (a : Int) = 0 := by
          rcases hax with ⟨rfl, rfl⟩ | ⟨rfl, rfl⟩ <;> exact ⟨by decide, by decide⟩
        exact Or.inr ⟨n2, cc ++ c2 ++ [(a : Int)], oDk_e hs hi.2.2 ho.1 ho.2 ⟨by omega, by omega⟩, oTs_o hka ha hP hTo hK2, hK2⟩
    refine d_call (cBG_mono (show 1 ≤ D by omega) (m_isSign (d := 0) hp (c := 60) S1 (by decide))) (by simp [cAs, cE2, sev, svl, cen] <;> omega) ?_
    intro rr M' hq
    obtain ⟨hM', hq⟩ := hq
    rw [hM']
    rcases hq with ⟨rfl, q1⟩ | ⟨rfl, q1⟩
    · refine ⟨rfl, ?_⟩
      refine d_call (cBG_mono (show 2 ≤ D by omega) (m_hasSign (d := 0) hp (c := 60) S1 (by decide))) (by simp [cAs, cE2, sev, svl, cen] <;> omega) ?_
      intro rr M' hq
      rcases hq with ⟨rfl, q2, hM'⟩ | ⟨rfl, q2, hM'⟩
      · rw [hM']
        refine ⟨rfl, ?_⟩
        refine d_br (fun h => ?_) (fun h => ?_)
        · clear h
          refine d_call (hsu (oRS_at S1 (oMT_lt S1.2.1 hi1.2.1 (by first | (have k9 : oK T L (oIx T L n1) = 18 := q2.2.trans (by decide); omega) | (have k9 : oK T L (oIx T L n1) = 19 := q3.2.trans (by decide); omega)))) ((supd_i (by decide)).trans z8)) (by simp [cAs, cE2, sev, svl, cen] <;> omega) ?_
          intro rr M2 hq
          obtain ⟨rfl, hA⟩ := hq
          obtain ⟨e9, h39, h1000⟩ := oDA_39 hA
          refine ⟨rfl, ?_⟩
          refine d_br (fun h => ?_) (fun h => ?_)
          · simp only [cCmp, cE2, sev, svl, cen, List.cons_append, List.nil_append] at h
            omega
          · clear h
            refine d_call (cBG_mono (show 1 ≤ D by omega) (m_emit (d := 0) hp (x := 7) (y := 0) h39 h1000)) (by simp [cAs, cE2, sev, svl, cen] <;> omega) ?_
            intro rr M3 hq
            obtain ⟨rfl, hM'⟩ := hq
            refine ⟨rfl, ?_⟩
            rw [hM']
            exact d_ret [] rfl (by decide) ⟨rfl, aft 18 7 M2 e9 (q2.2.trans (by decide)) (Or.inl ⟨rfl, rfl⟩) hA h39⟩
        · simp only [cCmp, cE2, sev, svl, cen, List.cons_append, List.nil_append] at h
          omega
      · rw [hM']
        refine ⟨rfl, ?_⟩
        refine d_br (fun h => ?_) (fun h => ?_)
        · simp only [cCmp, cE2, sev, svl, cen, List.cons_append, List.nil_append] at h
          omega
        · clear h
          refine d_call (cBG_mono (show 2 ≤ D by omega) (m_hasSign (d := 0) hp (c := 61) S1 (by decide))) (by simp [cAs, cE2, sev, svl, cen] <;> omega) ?_
          intro rr M' hq
          rcases hq with ⟨rfl, q3, hM'⟩ | ⟨rfl, q3, hM'⟩
          · rw [hM']
            refine ⟨rfl, ?_⟩
            refine d_br (fun h => ?_) (fun h => ?_)
            · simp only [cCmp, cE2, sev, svl, cen, List.cons_append, List.nil_append] at h
              omega
            · clear h
              refine d_call (hsu (oRS_at S1 (oMT_lt S1.2.1 hi1.2.1 (by first | (have k9 : oK T L (oIx T L n1) = 18 := q2.2.trans (by decide); omega) | (have k9 : oK T L (oIx T L n1) = 19 := q3.2.trans (by decide); omega)))) ((supd_i (by decide)).trans z8)) (by simp [cAs, cE2, sev, svl, cen] <;> omega) ?_
              intro rr M2 hq
              obtain ⟨rfl, hA⟩ := hq
              obtain ⟨e9, h39, h1000⟩ := oDA_39 hA
              refine ⟨rfl, ?_⟩
              refine d_br (fun h => ?_) (fun h => ?_)
              · simp only [cCmp, cE2, sev, svl, cen, List.cons_append, List.nil_append] at h
                omega
              · clear h
                refine d_call (cBG_mono (show 1 ≤ D by omega) (m_emit (d := 0) hp (x := 7) (y := 0) h39 h1000)) (by simp [cAs, cE2, sev, svl, cen] <;> omega) ?_
                intro rr M3 hq
                obtain ⟨rfl, hM'⟩ := hq
                refine ⟨rfl, ?_⟩
                exact absurd q1 q2
          · rw [hM']
            refine ⟨rfl, ?_⟩
            refine d_br (fun h => ?_) (fun h => ?_)
            · clear h
              exact d_ret [] rfl (by decide) ⟨rfl, Or.inr ⟨n1, cc, hk1, oTs_1 hP ⟨fun q => q2 ⟨z8, q.trans (by decide)⟩, fun q => q3 ⟨z8, q.trans (by decide)⟩⟩, hK⟩⟩
            · simp only [cCmp, cE2, sev, svl, cen, List.cons_append, List.nil_append] at h
              omega
    · refine ⟨rfl, ?_⟩
      refine d_call (cBG_mono (show 2 ≤ D by omega) (m_hasSign (d := 0) hp (c := 60) S1 (by decide))) (by simp [cAs, cE2, sev, svl, cen] <;> omega) ?_
      intro rr M' hq
      rcases hq with ⟨rfl, q2, hM'⟩ | ⟨rfl, q2, hM'⟩
      · rw [hM']
        refine ⟨rfl, ?_⟩
        refine d_br (fun h => ?_) (fun h => ?_)
        · clear h
          refine d_call (hsu (oRS_at S1 (oMT_lt S1.2.1 hi1.2.1 (by first | (have k9 : oK T L (oIx T L n1) = 18 := q2.2.trans (by decide); omega) | (have k9 : oK T L (oIx T L n1) = 19 := q3.2.trans (by decide); omega)))) ((supd_i (by decide)).trans z8)) (by simp [cAs, cE2, sev, svl, cen] <;> omega) ?_
          intro rr M2 hq
          obtain ⟨rfl, hA⟩ := hq
          obtain ⟨e9, h39, h1000⟩ := oDA_39 hA
          refine ⟨rfl, ?_⟩
          refine d_br (fun h => ?_) (fun h => ?_)
          · clear h
            refine d_call (cBG_mono (show 1 ≤ D by omega) (m_emit (d := 0) hp (x := 8) (y := 0) h39 h1000)) (by simp [cAs, cE2, sev, svl, cen] <;> omega) ?_
            intro rr M3 hq
            obtain ⟨rfl, hM'⟩ := hq
            refine ⟨rfl, ?_⟩
            exact absurd q2 q1
          · simp only [cCmp, cE2, sev, svl, cen, List.cons_append, List.nil_append] at h
            omega
        · simp only [cCmp, cE2, sev, svl, cen, List.cons_append, List.nil_append] at h
          omega
      · rw [hM']
        refine ⟨rfl, ?_⟩
        refine d_br (fun h => ?_) (fun h => ?_)
        · simp only [cCmp, cE2, sev, svl, cen, List.cons_append, List.nil_append] at h
          omega
        · clear h
          refine d_call (cBG_mono (show 2 ≤ D by omega) (m_hasSign (d := 0) hp (c := 61) S1 (by decide))) (by simp [cAs, cE2, sev, svl, cen] <;> omega) ?_
          intro rr M' hq
          rcases hq with ⟨rfl, q3, hM'⟩ | ⟨rfl, q3, hM'⟩
          · rw [hM']
            refine ⟨rfl, ?_⟩
            refine d_br (fun h => ?_) (fun h => ?_)
            · simp only [cCmp, cE2, sev, svl, cen, List.cons_append, List.nil_append] at h
              omega
            · clear h
              refine d_call (hsu (oRS_at S1 (oMT_lt S1.2.1 hi1.2.1 (by first | (have k9 : oK T L (oIx T L n1) = 18 := q2.2.trans (by decide); omega) | (have k9 : oK T L (oIx T L n1) = 19 := q3.2.trans (by decide); omega)))) ((supd_i (by decide)).trans z8)) (by simp [cAs, cE2, sev, svl, cen] <;> omega) ?_
              intro rr M2 hq
              obtain ⟨rfl, hA⟩ := hq
              obtain ⟨e9, h39, h1000⟩ := oDA_39 hA
              refine ⟨rfl, ?_⟩
              refine d_br (fun h => ?_) (fun h => ?_)
              · clear h
                refine d_call (cBG_mono (show 1 ≤ D by omega) (m_emit (d := 0) hp (x := 8) (y := 0) h39 h1000)) (by simp [cAs, cE2, sev, svl, cen] <;> omega) ?_
                intro rr M3 hq
                obtain ⟨rfl, hM'⟩ := hq
                refine ⟨rfl, ?_⟩
                rw [hM']
                exact d_ret [] rfl (by decide) ⟨rfl, aft 19 8 M2 e9 (q3.2.trans (by decide)) (Or.inr ⟨rfl, rfl⟩) hA h39⟩
              · simp only [cCmp, cE2, sev, svl, cen, List.cons_append, List.nil_append] at h
                omega
          · rw [hM']
            refine ⟨rfl, ?_⟩
            refine d_br (fun h => ?_) (fun h => ?_)
            · clear h
              exact d_ret [] rfl (by decide) ⟨rfl, Or.inr ⟨n1, cc, hk1, oTs_1 hP ⟨fun q => q2 ⟨z8, q.trans (by decide)⟩, fun q => q3 ⟨z8, q.trans (by decide)⟩⟩, hK⟩⟩
            · simp only [cCmp, cE2, sev, svl, cen, List.cons_append, List.nil_append] at h
              omega
theorem m_all (hp : cPl tm tc tf EX) {D dd : Nat} (hD : 3 ≤ D) (hts : ∀ {M : SMem} {n e : Nat}, oRS T L N n e M → M 1 0 8 = 0 → cBG tm tf EX l dC dI cA ad scrS D kX10_test [(2, 1, 0), (0, 0, (dd : Int))] M (fun rr MM => rr = [] ∧ oDA T L N n e M MM (oPe T L 2 n dd) (fun n' cc => oQo T L 2 n dd n' cc ∧ (oK T L (oIx T L n') ≠ 20 ∧ oK T L (oIx T L n') ≠ 21 ∧ oK T L (oIx T L n') ≠ 22)))) : ∀ {M : SMem} {n e : Nat}, oRS T L N n e M → M 1 0 8 = 0 → cBG tm tf EX l dC dI cA ad scrS (D + 1) kX10_all [(2, 1, 0), (0, 0, (dd : Int))] M (fun rr MM => rr = [] ∧ oDA T L N n e M MM (oPe T L 1 n dd) (fun n' cc => oQo T L 1 n dd n' cc ∧ (oK T L (oIx T L n') ≠ 5 ∧ oK T L (oIx T L n') ≠ 6 ∧ oK T L (oIx T L n') ≠ 20 ∧ oK T L (oIx T L n') ≠ 21 ∧ oK T L (oIx T L n') ≠ 22))) := by
  intro M n e hS h8
  have hi := oRS_i hS
  refine cMeth (v := [(dd : Int)]) (Fd := 90) hp (by decide) gX10_all_ok gX10_all_m0 (by simp [cAs, cE2, sev, svl, cen]) ?_
  have bad : ∀ MW : SMem, oDf T L N n e 0 M MW (oPe T L 1 n dd) → cEnds (cBG tm tf EX l dC dI cA ad scrS D) (fun rr MM => rr = [] ∧ oDA T L N n e M MM (oPe T L 1 n dd) (fun n' cc => oQo T L 1 n dd n' cc ∧ (oK T L (oIx T L n') ≠ 5 ∧ oK T L (oIx T L n') ≠ 6 ∧ oK T L (oIx T L n') ≠ 20 ∧ oK T L (oIx T L n') ≠ 21 ∧ oK T L (oIx T L n') ≠ 22))) 90 gX10_all 5 [(dd : Int)] MW := by
    intro MW h
    have h0 := h
    obtain ⟨-, n', e', f, S1, -, -, -, -, f0, f8, -⟩ := h
    have hi1 := oRS_i S1
    refine cEnds_at gX10_all_m5 rfl ?_
    refine d_call (cBG_mono (show 1 ≤ D by omega) (m_isWord (d := 0) hp (w := 5) S1 (by decide))) (by simp [cAs, cE2, sev, svl, cen] <;> omega) ?_
    intro rr M' hq
    obtain ⟨hM', hq⟩ := hq
    rw [hM']
    rcases hq with ⟨rfl, q1⟩ | ⟨rfl, q1⟩
    · refine ⟨rfl, ?_⟩
      refine d_br (fun h => ?_) (fun h => ?_)
      · clear h
        refine d_call (cBG_mono (show 1 ≤ D by omega) (m_isWord (d := 0) hp (w := 5) S1 (by decide))) (by simp [cAs, cE2, sev, svl, cen] <;> omega) ?_
        intro rr M' hq
        obtain ⟨hM', hq⟩ := hq
        rw [hM']
        rcases hq with ⟨rfl, q2⟩ | ⟨rfl, q2⟩
        · refine ⟨rfl, ?_⟩
          refine d_fld 0 (by simp only [cE2, sev, svl, cen, List.cons_append, List.nil_append]; omega) ?_
          rw [S1.2.2.2.1]
          refine d_rng (by simp only [clo, chi, cE2, sev, svl, cen, List.cons_append, List.nil_append]; omega) ?_
          refine d_put 0 ((n' : Int) + 1) (by simp only [cE2, sev, svl, cen, List.cons_append, List.nil_append]; omega) (by simp only [cE2, sev, svl, cen, List.cons_append, List.nil_append]; omega) ?_
          exact absurd (show MW 1 0 8 = 0 from (by first | exact q1.1 | exact q2.1)) (by omega)
        · refine ⟨rfl, ?_⟩
          refine d_fld 0 (by simp only [cE2, sev, svl, cen, List.cons_append, List.nil_append]; omega) ?_
          rw [S1.2.2.2.1]
          refine d_rng (by simp only [clo, chi, cE2, sev, svl, cen, List.cons_append, List.nil_append]; omega) ?_
          refine d_put 0 ((n' : Int) + 1) (by simp only [cE2, sev, svl, cen, List.cons_append, List.nil_append]; omega) (by simp only [cE2, sev, svl, cen, List.cons_append, List.nil_append]; omega) ?_
          exact absurd (show MW 1 0 8 = 0 from (by first | exact q1.1 | exact q2.1)) (by omega)
      · simp only [cCmp, cE2, sev, svl, cen, List.cons_append, List.nil_append] at h
        omega
    · refine ⟨rfl, ?_⟩
      refine d_br (fun h => ?_) (fun h => ?_)
      · simp only [cCmp, cE2, sev, svl, cen, List.cons_append, List.nil_append] at h
        omega
      · clear h
        refine d_call (cBG_mono (show 1 ≤ D by omega) (m_isWord (d := 0) hp (w := 6) S1 (by decide))) (by simp [cAs, cE2, sev, svl, cen] <;> omega) ?_
        intro rr M' hq
        obtain ⟨hM', hq⟩ := hq
        rw [hM']
        rcases hq with ⟨rfl, q2⟩ | ⟨rfl, q2⟩
        · refine ⟨rfl, ?_⟩
          refine d_br (fun h => ?_) (fun h => ?_)
          · simp only [cCmp, cE2, sev, svl, cen, List.cons_append, List.nil_append] at h
            omega
          · clear h
            refine d_call (cBG_mono (show 1 ≤ D by omega) (m_isWord (d := 0) hp (w := 5) S1 (by decide))) (by simp [cAs, cE2, sev, svl, cen] <;> omega) ?_
            intro rr M' hq
            obtain ⟨hM', hq⟩ := hq
            rw [hM']
            rcases hq with ⟨rfl, q3⟩ | ⟨rfl, q3⟩
            · refine ⟨rfl, ?_⟩
              refine d_fld 0 (by simp only [cE2, sev, svl, cen, List.cons_append, List.nil_append]; omega) ?_
              rw [S1.2.2.2.1]
              refine d_rng (by simp only [clo, chi, cE2, sev, svl, cen, List.cons_append, List.nil_append]; omega) ?_
              refine d_put 0 ((n' : Int) + 1) (by simp only [cE2, sev, svl, cen, List.cons_append, List.nil_append]; omega) (by simp only [cE2, sev, svl, cen, List.cons_append, List.nil_append]; omega) ?_
              exact absurd (show MW 1 0 8 = 0 from (by first | exact q1.1 | exact q2.1)) (by omega)
            · refine ⟨rfl, ?_⟩
              refine d_fld 0 (by simp only [cE2, sev, svl, cen, List.cons_append, List.nil_append]; omega) ?_
              rw [S1.2.2.2.1]
              refine d_rng (by simp only [clo, chi, cE2, sev, svl, cen, List.cons_append, List.nil_append]; omega) ?_
              refine d_put 0 ((n' : Int) + 1) (by simp only [cE2, sev, svl, cen, List.cons_append, List.nil_append]; omega) (by simp only [cE2, sev, svl, cen, List.cons_append, List.nil_append]; omega) ?_
              exact absurd (show MW 1 0 8 = 0 from (by first | exact q1.1 | exact q2.1)) (by omega)
        · refine ⟨rfl, ?_⟩
          refine d_br (fun h => ?_) (fun h => ?_)
          · clear h
            exact d_ret [] rfl (by decide) ⟨rfl, Or.inl h0⟩
          · simp only [cCmp, cE2, sev, svl, cen, List.cons_append, List.nil_append] at h
            omega
  have loop : ∀ (m n1 : Nat) (cc : List Int) (MW : SMem), N + 1 - n1 ≤ m → oDk T L N n e 0 M MW n1 cc → oQo T L 1 n dd n1 cc → (oK T L (oIx T L n1) ≠ 20 ∧ oK T L (oIx T L n1) ≠ 21 ∧ oK T L (oIx T L n1) ≠ 22) → cEnds (cBG tm tf EX l dC dI cA ad scrS D) (fun rr MM => rr = [] ∧ oDA T L N n e M MM (oPe T L 1 n dd) (fun n' cc => oQo T L 1 n dd n' cc ∧ (oK T L (oIx T L n') ≠ 5 ∧ oK T L (oIx T L n') ≠ 6 ∧ oK T L (oIx T L n') ≠ 20 ∧ oK T L (oIx T L n') ≠ 21 ∧ oK T L (oIx T L n') ≠ 22))) 90 gX10_all 5 [(dd : Int)] MW := by
    intro m
    induction m with
    | zero =>
      intro n1 cc MW hm hk
      have := oRS_i hk.2.1
      omega
    | succ m ih =>
      intro n1 cc MW hm hk hP hK
      have hk1 := hk
      obtain ⟨F1, S1, -, -, -, z8, -⟩ := hk
      have hi1 := oRS_i S1
      have aft : ∀ (a : Nat) (x : Int) (M2 : SMem) (e9 : Nat), oK T L (oIx T L n1) = a → ((a = 5 ∧ x = 9) ∨ (a = 6 ∧ x = 10)) → oDA T L N (n1 + 1) (e + cc.length) (supd MW 1 0 7 ((n1 : Int) + 1)) M2 (oPe T L 2 (n1 + 1) dd) (fun n' cc => oQo T L 2 (n1 + 1) dd n' cc ∧ (oK T L (oIx T L n') ≠ 20 ∧ oK T L (oIx T L n') ≠ 21 ∧ oK T L (oIx T L n') ≠ 22)) → M2 1 0 39 = (e9 : Int) → cEnds (cBG tm tf EX l dC dI cA ad scrS D) (fun rr MM => rr = [] ∧ oDA T L N n e M MM (oPe T L 1 n dd) (fun n' cc => oQo T L 1 n dd n' cc ∧ (oK T L (oIx T L n') ≠ 5 ∧ oK T L (oIx T L n') ≠ 6 ∧ oK T L (oIx T L n') ≠ 20 ∧ oK T L (oIx T L n') ≠ 21 ∧ oK T L (oIx T L n') ≠ 22))) 90 gX10_all 5 [(dd : Int)] (oEm M2 e9 x 0) := by
        intro a x M2 e9 hka hax hA h39
        have ha : a = 5 ∨ a = 6 := by omega
        have ht := oDk_t hk1 (oMT_lt S1.2.1 hi1.2.1 (by omega))
        rcases hA with hf | ⟨n2, c2, hg, hTo, hK2⟩
        · exact bad _ (oDf_e (oDf_s ht hf (fun f q => oAl_e hka ha hP q)) hi.2.2 ⟨by omega, by omega⟩ ⟨by decide, by decide⟩ h39)
        · have hs := oDk_s ht hg
          have g39 := hs.2.1.2.2.2.2.2.1
          have g3 := hg.2.2.1
          have e9e : e9 = e + (cc ++ c2).length := by omega
          subst e9e
          have ho : oOp1 (a : Int) = x ∧ oOp2 (a : Int) = 0 := by
            rcases hax with ⟨rfl, rfl⟩ | ⟨rfl, rfl⟩ <;> exact ⟨by decide, by decide⟩
          exact ih n2 (cc ++ c2 ++ [(a : Int)]) _ (by omega) (oDk_e hs hi.2.2 ho.1 ho.2 ⟨by omega, by omega⟩) (oAl_o hka ha hP hTo hK2) hK2
      refine cEnds_at gX10_all_m5 rfl ?_
      refine d_call (cBG_mono (show 1 ≤ D by omega) (m_isWord (d := 0) hp (w := 5) S1 (by decide))) (by simp [cAs, cE2, sev, svl, cen] <;> omega) ?_
      intro rr M' hq
      obtain ⟨hM', hq⟩ := hq
      rw [hM']
      rcases hq with ⟨rfl, q1⟩ | ⟨rfl, q1⟩
      · refine ⟨rfl, ?_⟩
        refine d_br (fun h => ?_) (fun h => ?_)
        · clear h
          refine d_call (cBG_mono (show 1 ≤ D by omega) (m_isWord (d := 0) hp (w := 5) S1 (by decide))) (by simp [cAs, cE2, sev, svl, cen] <;> omega) ?_
          intro rr M' hq
          obtain ⟨hM', hq⟩ := hq
          rw [hM']
          rcases hq with ⟨rfl, q2⟩ | ⟨rfl, q2⟩
          · refine ⟨rfl, ?_⟩
            refine d_fld 0 (by simp only [cE2, sev, svl, cen, List.cons_append, List.nil_append]; omega) ?_
            rw [S1.2.2.2.1]
            refine d_rng (by simp only [clo, chi, cE2, sev, svl, cen, List.cons_append, List.nil_append]; omega) ?_
            refine d_put 0 ((n1 : Int) + 1) (by simp only [cE2, sev, svl, cen, List.cons_append, List.nil_append]; omega) (by simp only [cE2, sev, svl, cen, List.cons_append, List.nil_append]; omega) ?_
            refine d_call (hts (oRS_at S1 (oMT_lt S1.2.1 hi1.2.1 (by first | (have k9 := q1.2; omega) | (have k9 := q2.2; omega)))) ((supd_i (by decide)).trans z8)) (by simp [cAs, cE2, sev, svl, cen] <;> omega) ?_
            intro rr M2 hq
            obtain ⟨rfl, hA⟩ := hq
            obtain ⟨e9, h39, h1000⟩ := oDA_39 hA
            refine ⟨rfl, ?_⟩
            refine d_br (fun h => ?_) (fun h => ?_)
            · simp only [cCmp, cE2, sev, svl, cen, List.cons_append, List.nil_append] at h
              omega
            · clear h
              refine d_call (cBG_mono (show 1 ≤ D by omega) (m_emit (d := 0) hp (x := 9) (y := 0) h39 h1000)) (by simp [cAs, cE2, sev, svl, cen] <;> omega) ?_
              intro rr M3 hq
              obtain ⟨rfl, hM'⟩ := hq
              refine ⟨rfl, ?_⟩
              rw [hM']
              refine d_cut [(dd : Int)] (by simp [cE2, sev, svl, cen] <;> omega) ?_
              exact aft 5 9 M2 e9 q1.2 (Or.inl ⟨rfl, rfl⟩) hA h39
          · refine ⟨rfl, ?_⟩
            refine d_fld 0 (by simp only [cE2, sev, svl, cen, List.cons_append, List.nil_append]; omega) ?_
            rw [S1.2.2.2.1]
            refine d_rng (by simp only [clo, chi, cE2, sev, svl, cen, List.cons_append, List.nil_append]; omega) ?_
            refine d_put 0 ((n1 : Int) + 1) (by simp only [cE2, sev, svl, cen, List.cons_append, List.nil_append]; omega) (by simp only [cE2, sev, svl, cen, List.cons_append, List.nil_append]; omega) ?_
            refine d_call (hts (oRS_at S1 (oMT_lt S1.2.1 hi1.2.1 (by first | (have k9 := q1.2; omega) | (have k9 := q2.2; omega)))) ((supd_i (by decide)).trans z8)) (by simp [cAs, cE2, sev, svl, cen] <;> omega) ?_
            intro rr M2 hq
            obtain ⟨rfl, hA⟩ := hq
            obtain ⟨e9, h39, h1000⟩ := oDA_39 hA
            refine ⟨rfl, ?_⟩
            refine d_br (fun h => ?_) (fun h => ?_)
            · clear h
              refine d_call (cBG_mono (show 1 ≤ D by omega) (m_emit (d := 0) hp (x := 10) (y := 0) h39 h1000)) (by simp [cAs, cE2, sev, svl, cen] <;> omega) ?_
              intro rr M3 hq
              obtain ⟨rfl, hM'⟩ := hq
              refine ⟨rfl, ?_⟩
              exact absurd q1 q2
            · simp only [cCmp, cE2, sev, svl, cen, List.cons_append, List.nil_append] at h
              omega
        · simp only [cCmp, cE2, sev, svl, cen, List.cons_append, List.nil_append] at h
          omega
      · refine ⟨rfl, ?_⟩
        refine d_br (fun h => ?_) (fun h => ?_)
        · simp only [cCmp, cE2, sev, svl, cen, List.cons_append, List.nil_append] at h
          omega
        · clear h
          refine d_call (cBG_mono (show 1 ≤ D by omega) (m_isWord (d := 0) hp (w := 6) S1 (by decide))) (by simp [cAs, cE2, sev, svl, cen] <;> omega) ?_
          intro rr M' hq
          obtain ⟨hM', hq⟩ := hq
          rw [hM']
          rcases hq with ⟨rfl, q2⟩ | ⟨rfl, q2⟩
          · refine ⟨rfl, ?_⟩
            refine d_br (fun h => ?_) (fun h => ?_)
            · simp only [cCmp, cE2, sev, svl, cen, List.cons_append, List.nil_append] at h
              omega
            · clear h
              refine d_call (cBG_mono (show 1 ≤ D by omega) (m_isWord (d := 0) hp (w := 5) S1 (by decide))) (by simp [cAs, cE2, sev, svl, cen] <;> omega) ?_
              intro rr M' hq
              obtain ⟨hM', hq⟩ := hq
              rw [hM']
              rcases hq with ⟨rfl, q3⟩ | ⟨rfl, q3⟩
              · refine ⟨rfl, ?_⟩
                refine d_fld 0 (by simp only [cE2, sev, svl, cen, List.cons_append, List.nil_append]; omega) ?_
                rw [S1.2.2.2.1]
                refine d_rng (by simp only [clo, chi, cE2, sev, svl, cen, List.cons_append, List.nil_append]; omega) ?_
                refine d_put 0 ((n1 : Int) + 1) (by simp only [cE2, sev, svl, cen, List.cons_append, List.nil_append]; omega) (by simp only [cE2, sev, svl, cen, List.cons_append, List.nil_append]; omega) ?_
                refine d_call (hts (oRS_at S1 (oMT_lt S1.2.1 hi1.2.1 (by first | (have k9 := q1.2; omega) | (have k9 := q2.2; omega)))) ((supd_i (by decide)).trans z8)) (by simp [cAs, cE2, sev, svl, cen] <;> omega) ?_
                intro rr M2 hq
                obtain ⟨rfl, hA⟩ := hq
                obtain ⟨e9, h39, h1000⟩ := oDA_39 hA
                refine ⟨rfl, ?_⟩
                refine d_br (fun h => ?_) (fun h => ?_)
                · simp only [cCmp, cE2, sev, svl, cen, List.cons_append, List.nil_append] at h
                  omega
                · clear h
                  refine d_call (cBG_mono (show 1 ≤ D by omega) (m_emit (d := 0) hp (x := 9) (y := 0) h39 h1000)) (by simp [cAs, cE2, sev, svl, cen] <;> omega) ?_
                  intro rr M3 hq
                  obtain ⟨rfl, hM'⟩ := hq
                  refine ⟨rfl, ?_⟩
                  exact absurd q3 q1
              · refine ⟨rfl, ?_⟩
                refine d_fld 0 (by simp only [cE2, sev, svl, cen, List.cons_append, List.nil_append]; omega) ?_
                rw [S1.2.2.2.1]
                refine d_rng (by simp only [clo, chi, cE2, sev, svl, cen, List.cons_append, List.nil_append]; omega) ?_
                refine d_put 0 ((n1 : Int) + 1) (by simp only [cE2, sev, svl, cen, List.cons_append, List.nil_append]; omega) (by simp only [cE2, sev, svl, cen, List.cons_append, List.nil_append]; omega) ?_
                refine d_call (hts (oRS_at S1 (oMT_lt S1.2.1 hi1.2.1 (by first | (have k9 := q1.2; omega) | (have k9 := q2.2; omega)))) ((supd_i (by decide)).trans z8)) (by simp [cAs, cE2, sev, svl, cen] <;> omega) ?_
                intro rr M2 hq
                obtain ⟨rfl, hA⟩ := hq
                obtain ⟨e9, h39, h1000⟩ := oDA_39 hA
                refine ⟨rfl, ?_⟩
                refine d_br (fun h => ?_) (fun h => ?_)
                · clear h
                  refine d_call (cBG_mono (show 1 ≤ D by omega) (m_emit (d := 0) hp (x := 10) (y := 0) h39 h1000)) (by simp [cAs, cE2, sev, svl, cen] <;> omega) ?_
                  intro rr M3 hq
                  obtain ⟨rfl, hM'⟩ := hq
                  refine ⟨rfl, ?_⟩
                  rw [hM']
                  refine d_cut [(dd : Int)] (by simp [cE2, sev, svl, cen] <;> omega) ?_
                  exact aft 6 10 M2 e9 q2.2 (Or.inr ⟨rfl, rfl⟩) hA h39
                · simp only [cCmp, cE2, sev, svl, cen, List.cons_append, List.nil_append] at h
                  omega
          · refine ⟨rfl, ?_⟩
            refine d_br (fun h => ?_) (fun h => ?_)
            · clear h
              exact d_ret [] rfl (by decide) ⟨rfl, Or.inr ⟨n1, cc, hk1, hP, fun q => q1 ⟨z8, q⟩, fun q => q2 ⟨z8, q⟩, hK⟩⟩
            · simp only [cCmp, cE2, sev, svl, cen, List.cons_append, List.nil_append] at h
              omega
  refine cEnds_at gX10_all_m0 rfl ?_
  refine d_call (hts hS h8) (by simp [cAs, cE2, sev, svl, cen]) ?_
  rintro rr M1 ⟨rfl, hA⟩
  refine ⟨rfl, ?_⟩
  refine d_cut [(dd : Int)] (by simp [cE2, sev, svl, cen] <;> omega) ?_
  rcases hA with hf | ⟨n1, cc, hk, hTo, hK⟩
  · exact bad M1 (oDf_m hf (fun f q => oP_w (by decide) q))
  · exact loop _ n1 cc M1 (Nat.le_refl _) hk (oQo_w (by decide) hTo) hK
end CO12
