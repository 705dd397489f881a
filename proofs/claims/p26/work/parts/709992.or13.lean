/-! the reference's parts, with depth -/
theorem supd_comm {M : SMem} {f j i f' j' i' : Nat} {a b : Int} (h : ¬ (f' = f ∧ j' = j ∧ i' = i)) : supd (supd M f j i a) f' j' i' b = supd (supd M f' j' i' b) f j i a := by
  funext x y z
  unfold supd
  by_cases h1 : x = f' ∧ y = j' ∧ z = i'
  · rw [if_pos h1, if_neg (show ¬ (x = f ∧ y = j ∧ z = i) from fun q => h ⟨h1.1.symm.trans q.1, h1.2.1.symm.trans q.2.1, h1.2.2.symm.trans q.2.2⟩), if_pos h1]
  · rw [if_neg h1, if_neg h1]
theorem oEm_7 {M : SMem} {e : Nat} {x y : Int} : oEm M e x y 1 0 7 = M 1 0 7 := by
  unfold oEm
  rw [supd_i (by decide), supd_f (by decide), supd_f (by decide)]
theorem oEm_at {M : SMem} {e : Nat} {x y z : Int} : supd (oEm M e x y) 1 0 7 z = oEm (supd M 1 0 7 z) e x y := by
  unfold oEm
  rw [supd_comm (by omega), supd_comm (f := 42) (by omega), supd_comm (f := 41) (by omega)]
theorem oDA_S {T : Nat → Int} {L N n e : Nat} {M MM : SMem} {RE : Int → Prop} {RO : Nat → List Int → Prop} (h : oDA T L N n e M MM RE RO) : ∃ n' e', oRS T L N n' e' MM := by
  rcases h with ⟨-, n', e', f, h, -⟩ | ⟨n', cc, ⟨-, h, -⟩, -⟩
  · exact ⟨n', e', h⟩
  · exact ⟨n', _, h⟩
section CO13
variable {EX : SEx} {l : Launch} {dC : Nat → ClassId} {dI : Nat → Nat → Nat} {cA : Nat → ClassId} {ad : SAd} {scrS d : Nat}
variable {T : Nat → Int} {L N : Nat}
theorem m_takeSignB (hp : cPl tm tc tf EX) {n e : Nat} {M : SMem} {c : Int} (hS : oRS T L N n e M) (hc : oSg c ≠ 25) : cBG tm tf EX l dC dI cA ad scrS (d + 2) kX10_takeSign [(2, 1, 0), (0, 0, c)] M (fun rr MM => rr = [] ∧ ((M 1 0 8 ≠ 0 ∧ MM = M) ∨ (M 1 0 8 = 0 ∧ ((oK T L (oIx T L n) = oSg c ∧ MM = supd M 1 0 7 ((n : Int) + 1)) ∨ (oK T L (oIx T L n) ≠ oSg c ∧ MM = supd M 1 0 8 (1 + 16 * (oIx T L n : Int))))))) := by
  by_cases h8 : M 1 0 8 = 0
  · exact oBG_post (m_takeSign hp hS hc h8) (fun rr MM h => ⟨h.1, Or.inr ⟨h8, h.2⟩⟩)
  · exact oBG_post (m_takeSign0 hp hS hc h8) (fun rr MM h => ⟨h.1, Or.inl ⟨h8, h.2⟩⟩)
theorem m_takePartS (hp : cPl tm tc tf EX) {D dd : Nat} (h5 : dd ≤ 5) (hD : 2 ≤ D) (hsub : dd < 5 → (∀ {M : SMem} {n e : Nat}, oRS T L N n e M → M 1 0 8 = 0 → cBG tm tf EX l dC dI cA ad scrS D kX10_takePart [(2, 1, 0), (0, 0, ((dd + 1 : Nat) : Int))] M (fun rr MM => rr = [] ∧ oDA T L N n e M MM (oTe T L n (dd + 1)) (oTo T L n (dd + 1)))) ∧ (∀ {M : SMem} {n e : Nat}, oRS T L N n e M → M 1 0 8 = 0 → cBG tm tf EX l dC dI cA ad scrS D kX10_all [(2, 1, 0), (0, 0, ((dd + 1 : Nat) : Int))] M (fun rr MM => rr = [] ∧ oDA T L N n e M MM (oPe T L 1 n (dd + 1)) (fun n' cc => oQo T L 1 n (dd + 1) n' cc ∧ (oK T L (oIx T L n') ≠ 5 ∧ oK T L (oIx T L n') ≠ 6 ∧ oK T L (oIx T L n') ≠ 20 ∧ oK T L (oIx T L n') ≠ 21 ∧ oK T L (oIx T L n') ≠ 22))))) : ∀ {M : SMem} {n e : Nat}, oRS T L N n e M → M 1 0 8 = 0 → cBG tm tf EX l dC dI cA ad scrS (D + 1) kX10_takePart [(2, 1, 0), (0, 0, ((dd : Nat) : Int))] M (fun rr MM => rr = [] ∧ oDA T L N n e M MM (oTe T L n (dd)) (oTo T L n (dd))) := by
  intro M n e hS h8
  have hi := oRS_i hS
  have hx := oIx_le (T := T) (L := L) n
  have hMt := oMt_k (hS.2.1.2.2.2 n hi.2.1)
  have hL : L ≤ 1000 := by
    have b := wIb (f := 14) (i := N) (lo := 0) (hi := 1000) hS.1 0 rfl
    have := (hS.2.1.2.2.2 N (Nat.le_refl _)).1
    have := hS.2.1.2.1
    omega
  obtain ⟨k, hk⟩ : ∃ k, k = oK T L (oIx T L n) := ⟨_, rfl⟩
  rw [← hk] at hMt
  have e105 : ∀ (fc num : Int) (MW : SMem), oDf T L N n e 0 M MW (oTe T L n dd) → cEnds (cBG tm tf EX l dC dI cA ad scrS D) (fun rr MM => rr = [] ∧ oDA T L N n e M MM (oTe T L n dd) (oTo T L n dd)) 90 gX10_takePart 105 [(dd : Int), fc, num] MW := by
    intro fc num MW h
    have h0 := h
    obtain ⟨-, n', e', f, S1, -, -, -, -, f0, f8, -⟩ := h
    refine cEnds_at gX10_takePart_m105 rfl ?_
    refine d_fld 0 (by simp only [cE2, sev, svl, cen, List.cons_append, List.nil_append]; omega) ?_
    refine d_br (fun h => ?_) (fun h => ?_)
    · simp only [cCmp, cE2, sev, svl, cen, List.cons_append, List.nil_append] at h
      first
      | omega
      | skip
        exact absurd h (by simp only [cCmp, cE2, sev, svl, cen, List.cons_append, List.nil_append]; omega)
    · simp only [cCmp, cE2, sev, svl, cen, List.cons_append, List.nil_append] at h
      first
      | omega
      | skip
        exact d_ret [] rfl (by decide) ⟨rfl, Or.inl h0⟩
  have wr : ∀ (q fc num : Int) (MW : SMem), MW = supd M 1 0 8 (q + 16 * (oIx T L n : Int)) → 0 < q → q ≤ 5 → oTe T L n dd (q + 16 * (oIx T L n : Int)) → cEnds (cBG tm tf EX l dC dI cA ad scrS D) (fun rr MM => rr = [] ∧ oDA T L N n e M MM (oTe T L n dd) (oTo T L n dd)) 90 gX10_takePart 105 [(dd : Int), fc, num] MW := by
    intro q fc num MW hM q0 q5 hT
    rw [hM]
    exact e105 fc num _ (oDk_f (oDk_0 hS h8) ⟨by omega, by omega⟩ hT)
  have g105 : ∀ fc num : Int, dd < 5 → (k = 7 ∨ k = 16 ∨ (k = 15 ∧ num = 1) ∨ (8 ≤ k ∧ k ≤ 14 ∧ num = 0 ∧ fc = (k : Int) - 8)) → cEnds (cBG tm tf EX l dC dI cA ad scrS D) (fun rr MM => rr = [] ∧ oDA T L N n e M MM (oTe T L n dd) (oTo T L n dd)) 90 gX10_takePart 105 [(dd : Int), fc, num] M := by
    intro fc num hd hkk
    have hn1 := oMT_lt hS.2.1 hi.2.1 (by rw [← hk]; omega)
    have S2 := oRS_at hS hn1
    have z8 : supd M 1 0 7 ((n : Int) + 1) 1 0 8 = 0 := (supd_i (by decide)).trans h8
    have ht := oDk_t (oDk_0 hS h8) hn1
    obtain ⟨hs1, hs2⟩ := hsub hd
    have hval : k = 15 → M 15 0 n = oV T L (oIx T L n) ∧ 0 ≤ oV T L (oIx T L n) ∧ oV T L (oIx T L n) < 10000 := fun q => ⟨hMt.2.2.1 q, oV_bd (by rw [← hk]; exact q)⟩
    have hc10 : k = 15 → cfn 10 (oV T L (oIx T L n)) (oV T L (oIx T L n)) = oV T L (oIx T L n) := fun q => cfn10v (by have := hval q; omega)
    have s40 : oSg 40 = 16 := by decide
    have one : ∀ (x a b : Int), oOp1 x = a → oOp2 x = b → -2147483648 ≤ x ∧ x ≤ 2147483647 → (8 ≤ k ∧ k ≤ 15) → x = oCo k (oV T L (oIx T L n)) → oDA T L N n e M (supd (oEm M e a b) 1 0 7 ((n : Int) + 1)) (oTe T L n dd) (oTo T L n dd) := by
      intro x a b h1 h2 h3 h4 h6
      rw [oEm_at]
      refine Or.inr ⟨n + 1, [x], oDk_e ht hi.2.2 h1 h2 h3, ?_⟩
      rw [h6, hk]
      exact oPt_num (by omega) hd
    have num15 : k = 15 → oOp1 (oCo k (oV T L (oIx T L n))) = 1 ∧ oOp2 (oCo k (oV T L (oIx T L n))) = oV T L (oIx T L n) ∧ (-2147483648 ≤ oCo k (oV T L (oIx T L n)) ∧ oCo k (oV T L (oIx T L n)) ≤ 2147483647) := fun q => by
      have hv := hval q
      have e1 : oCo k (oV T L (oIx T L n)) = 15 + 32 * oV T L (oIx T L n) := if_pos q
      rw [e1]
      refine ⟨if_pos (by omega), ?_, by omega, by omega⟩
      unfold oOp2
      rw [if_pos (by omega)]
      omega
    have fac : 8 ≤ k → k ≤ 14 → oOp1 (oCo k (oV T L (oIx T L n))) = 2 ∧ oOp2 (oCo k (oV T L (oIx T L n))) = (k : Int) - 8 ∧ (-2147483648 ≤ oCo k (oV T L (oIx T L n)) ∧ oCo k (oV T L (oIx T L n)) ≤ 2147483647) := fun q1 q2 => by
      have e1 : oCo k (oV T L (oIx T L n)) = (k : Int) := if_neg (by omega)
      rw [e1]
      refine ⟨?_, ?_, by omega, by omega⟩
      · unfold oOp1
        rw [if_neg (by omega), if_neg (by omega), if_neg (by omega), if_neg (by omega), if_neg (by omega), if_neg (by omega), if_neg (by omega), if_neg (by omega), if_neg (by omega)]
      · unfold oOp2
        rw [if_neg (by omega), if_pos (by omega)]
    have notA : ∀ (M2 : SMem) (e9 : Nat), k = 7 → oDA T L N (n + 1) e (supd M 1 0 7 ((n : Int) + 1)) M2 (oTe T L (n + 1) (dd + 1)) (oTo T L (n + 1) (dd + 1)) → M2 1 0 39 = (e9 : Int) → oDA T L N n e M (oEm M2 e9 3 0) (oTe T L n dd) (oTo T L n dd) := by
      intro M2 e9 k7 hA h39
      rcases hA with hf | ⟨n2, c2, hg, hTo⟩
      · exact Or.inl (oDf_e (oDf_s ht hf (fun f q => oPt_ne (hk.symm.trans k7) hd q)) hi.2.2 ⟨by decide, by decide⟩ ⟨by decide, by decide⟩ h39)
      · have hs := oDk_s ht hg
        have g39 := hs.2.1.2.2.2.2.2.1
        have e9e : e9 = e + ([] ++ c2 : List Int).length := by omega
        subst e9e
        exact Or.inr ⟨n2, [] ++ c2 ++ [7], oDk_e hs hi.2.2 (by decide) (by decide) ⟨by decide, by decide⟩, oPt_no (hk.symm.trans k7) hd hTo⟩
    have parA : ∀ (M2 M3 : SMem) (n' e' : Nat), k = 16 → oDA T L N (n + 1) e (supd M 1 0 7 ((n : Int) + 1)) M2 (oPe T L 1 (n + 1) (dd + 1)) (fun n' cc => oQo T L 1 (n + 1) (dd + 1) n' cc ∧ (oK T L (oIx T L n') ≠ 5 ∧ oK T L (oIx T L n') ≠ 6 ∧ oK T L (oIx T L n') ≠ 20 ∧ oK T L (oIx T L n') ≠ 21 ∧ oK T L (oIx T L n') ≠ 22)) → oRS T L N n' e' M2 → ((M2 1 0 8 ≠ 0 ∧ M3 = M2) ∨ (M2 1 0 8 = 0 ∧ ((oK T L (oIx T L n') = oSg 41 ∧ M3 = supd M2 1 0 7 ((n' : Int) + 1)) ∨ (oK T L (oIx T L n') ≠ oSg 41 ∧ M3 = supd M2 1 0 8 (1 + 16 * (oIx T L n' : Int)))))) → oDA T L N n e M M3 (oTe T L n dd) (oTo T L n dd) := by
      intro M2 M3 n' e' k16 hA hS' hR
      rcases hA with hf | ⟨n2, c2, hg, hTo, hj⟩
      · have hf0 := hf
        obtain ⟨-, n9, e9, f, S9, -, -, -, -, f0, f8, -⟩ := hf
        rcases hR with ⟨q1, q2⟩ | ⟨q1, q2⟩
        · rw [q2]
          exact Or.inl (oDf_w (oDf_s ht hf0 (fun f q => oPt_oe (hk.symm.trans k16) hd q)))
        · omega
      · have hs := oDk_s ht hg
        have en : n' = n2 := by
          have a1 := hS'.2.2.2.1
          have a2 := hg.2.1.2.2.2.1
          omega
        subst en
        have z9 := hg.2.2.2.2.2.1
        rcases hR with ⟨q1, q2⟩ | ⟨q1, ⟨q2, q3⟩ | ⟨q2, q3⟩⟩
        · exact absurd z9 q1
        · rw [q3]
          have k17 : oK T L (oIx T L n') = 17 := q2.trans (by decide)
          exact Or.inr ⟨n' + 1, [] ++ c2, oDk_w (oDk_t hs (oMT_lt hS'.2.1 (oRS_i hS').2.1 (by omega))), oPt_oc (hk.symm.trans k16) hd hTo k17⟩
        · rw [q3]
          have hx' := oIx_le (T := T) (L := L) n'
          exact Or.inl (oDf_w (oDk_f hs ⟨by omega, by omega⟩ (oPt_ox (hk.symm.trans k16) hd hTo (fun q => q2 (q.trans (by decide))) hj)))
    refine cEnds_at gX10_takePart_m105 rfl ?_
    refine d_fld 0 (by simp only [cE2, sev, svl, cen, List.cons_append, List.nil_append]; omega) ?_
    rw [h8]
    refine d_br (fun h => ?_) (fun h => ?_)
    · clear h
      refine d_call (cBG_mono (show 2 ≤ D by omega) (m_hasWord (d := 0) hp (w := 7) hS (by decide))) (by simp [cAs, cE2, sev, svl, cen] <;> omega) ?_
      intro rr M' hq
      rcases hq with ⟨rfl, q4, hM'⟩ | ⟨rfl, q4, hM'⟩
      · rw [hM']
        refine ⟨rfl, ?_⟩
        refine d_br (fun h => ?_) (fun h => ?_)
        · simp only [cCmp, cE2, sev, svl, cen, List.cons_append, List.nil_append] at h
          omega
        · clear h
          refine d_rng (by simp only [clo, chi, cE2, sev, svl, cen, List.cons_append, List.nil_append]; omega) ?_
          refine d_call (hs1 S2 z8) (by simp [cAs, cE2, sev, svl, cen] <;> omega) ?_
          intro rr M2 hq
          obtain ⟨rfl, hA⟩ := hq
          obtain ⟨e9, h39, h1000⟩ := oDA_39 hA
          refine ⟨rfl, ?_⟩
          refine d_call (cBG_mono (show 1 ≤ D by omega) (m_emit (d := 0) hp (x := 3) (y := 0) h39 h1000)) (by simp [cAs, cE2, sev, svl, cen] <;> omega) ?_
          intro rr M3 hq
          obtain ⟨rfl, hM'⟩ := hq
          refine ⟨rfl, ?_⟩
          rw [hM']
          exact d_ret [] rfl (by decide) ⟨rfl, notA M2 e9 (by have := q4.2; omega) hA h39⟩
      · rw [hM']
        refine ⟨rfl, ?_⟩
        refine d_br (fun h => ?_) (fun h => ?_)
        · clear h
          refine d_call (cBG_mono (show 2 ≤ D by omega) (m_hasSign (d := 0) hp (c := 40) hS (by decide))) (by simp [cAs, cE2, sev, svl, cen] <;> omega) ?_
          intro rr M' hq
          rcases hq with ⟨rfl, q5, hM'⟩ | ⟨rfl, q5, hM'⟩
          · rw [hM']
            refine ⟨rfl, ?_⟩
            refine d_br (fun h => ?_) (fun h => ?_)
            · simp only [cCmp, cE2, sev, svl, cen, List.cons_append, List.nil_append] at h
              omega
            · clear h
              refine d_rng (by simp only [clo, chi, cE2, sev, svl, cen, List.cons_append, List.nil_append]; omega) ?_
              refine d_call (hs2 S2 z8) (by simp [cAs, cE2, sev, svl, cen] <;> omega) ?_
              intro rr M2 hq
              obtain ⟨rfl, hA⟩ := hq
              obtain ⟨n', e', hS'⟩ := oDA_S hA
              refine ⟨rfl, ?_⟩
              refine d_call (cBG_mono (show 2 ≤ D by omega) (m_takeSignB (d := 0) hp (c := 41) hS' (by decide))) (by simp [cAs, cE2, sev, svl, cen] <;> omega) ?_
              intro rr M3 hq
              obtain ⟨rfl, hR⟩ := hq
              refine ⟨rfl, ?_⟩
              exact d_ret [] rfl (by decide) ⟨rfl, parA M2 M3 n' e' (by have := q5.2; omega) hA hS' hR⟩
          · rw [hM']
            refine ⟨rfl, ?_⟩
            refine d_br (fun h => ?_) (fun h => ?_)
            · clear h
              refine d_br (fun h => ?_) (fun h => ?_)
              · simp only [cCmp, cE2, sev, svl, cen, List.cons_append, List.nil_append] at h
                first
                | omega
                | skip
                  refine d_br (fun h => ?_) (fun h => ?_)
                  · simp only [cCmp, cE2, sev, svl, cen, List.cons_append, List.nil_append] at h
                    first
                    | omega
                    | skip
                      refine d_call (cBG_mono (show 1 ≤ D by omega) (m_emit (d := 0) hp (x := 2) (y := fc) hS.2.2.2.2.2.1 (by omega))) (by simp [cAs, cE2, sev, svl, cen] <;> omega) ?_
                      intro rr M3 hq
                      obtain ⟨rfl, hM'⟩ := hq
                      have k37 : M3 1 0 7 = (n : Int) := by rw [hM', oEm_7]; exact hS.2.2.2.1
                      refine ⟨rfl, ?_⟩
                      refine d_fld 0 (by simp only [cE2, sev, svl, cen, List.cons_append, List.nil_append]; omega) ?_
                      rw [k37]
                      refine d_rng (by simp only [clo, chi, cE2, sev, svl, cen, List.cons_append, List.nil_append]; omega) ?_
                      refine d_put 0 ((n : Int) + 1) (by simp only [cE2, sev, svl, cen, List.cons_append, List.nil_append]; omega) (by simp only [cE2, sev, svl, cen, List.cons_append, List.nil_append]; omega) ?_
                      rw [hM']
                      have hkf : 8 ≤ k ∧ k ≤ 14 ∧ fc = (k : Int) - 8 := by omega
                      obtain ⟨f1, f2, f3⟩ := fac hkf.1 hkf.2.1
                      exact d_ret [] rfl (by decide) ⟨rfl, one _ 2 fc f1 (f2.trans hkf.2.2.symm) f3 (by omega) rfl⟩
                  · simp only [cCmp, cE2, sev, svl, cen, List.cons_append, List.nil_append] at h
                    first
                    | omega
                    | skip
                      refine d_fld 0 (by simp only [cE2, sev, svl, cen, List.cons_append, List.nil_append]; omega) ?_
                      rw [hS.2.2.2.1]
                      refine d_row 0 n (by simp only [cE2, sev, svl, cen, List.cons_append, List.nil_append]; omega) (by simp only [cE2, sev, svl, cen, List.cons_append, List.nil_append]; omega) (by omega) ?_
                      rw [(hval (by omega)).1]
                      refine d_opw (oV T L (oIx T L n)) (oV T L (oIx T L n)) (by simp [cE2, sev, svl, cen] <;> omega) (by simp [cE2, sev, svl, cen] <;> omega) ?_
                      rw [hc10 (by omega)]
                      refine d_call (cBG_mono (show 1 ≤ D by omega) (m_emit (d := 0) hp (x := 2) (y := (oV T L (oIx T L n))) hS.2.2.2.2.2.1 (by omega))) (by simp [cAs, cE2, sev, svl, cen] <;> omega) ?_
                      intro rr M3 hq
                      obtain ⟨rfl, hM'⟩ := hq
                      have k37 : M3 1 0 7 = (n : Int) := by rw [hM', oEm_7]; exact hS.2.2.2.1
                      refine ⟨rfl, ?_⟩
                      refine d_fld 0 (by simp only [cE2, sev, svl, cen, List.cons_append, List.nil_append]; omega) ?_
                      rw [k37]
                      refine d_rng (by simp only [clo, chi, cE2, sev, svl, cen, List.cons_append, List.nil_append]; omega) ?_
                      refine d_put 0 ((n : Int) + 1) (by simp only [cE2, sev, svl, cen, List.cons_append, List.nil_append]; omega) (by simp only [cE2, sev, svl, cen, List.cons_append, List.nil_append]; omega) ?_
                      exact d_ret [] rfl (by decide) (by omega)
              · simp only [cCmp, cE2, sev, svl, cen, List.cons_append, List.nil_append] at h
                first
                | omega
                | skip
                  refine d_br (fun h => ?_) (fun h => ?_)
                  · simp only [cCmp, cE2, sev, svl, cen, List.cons_append, List.nil_append] at h
                    first
                    | omega
                    | skip
                      refine d_call (cBG_mono (show 1 ≤ D by omega) (m_emit (d := 0) hp (x := 1) (y := fc) hS.2.2.2.2.2.1 (by omega))) (by simp [cAs, cE2, sev, svl, cen] <;> omega) ?_
                      intro rr M3 hq
                      obtain ⟨rfl, hM'⟩ := hq
                      have k37 : M3 1 0 7 = (n : Int) := by rw [hM', oEm_7]; exact hS.2.2.2.1
                      refine ⟨rfl, ?_⟩
                      refine d_fld 0 (by simp only [cE2, sev, svl, cen, List.cons_append, List.nil_append]; omega) ?_
                      rw [k37]
                      refine d_rng (by simp only [clo, chi, cE2, sev, svl, cen, List.cons_append, List.nil_append]; omega) ?_
                      refine d_put 0 ((n : Int) + 1) (by simp only [cE2, sev, svl, cen, List.cons_append, List.nil_append]; omega) (by simp only [cE2, sev, svl, cen, List.cons_append, List.nil_append]; omega) ?_
                      exact d_ret [] rfl (by decide) (by omega)
                  · simp only [cCmp, cE2, sev, svl, cen, List.cons_append, List.nil_append] at h
                    first
                    | omega
                    | skip
                      refine d_fld 0 (by simp only [cE2, sev, svl, cen, List.cons_append, List.nil_append]; omega) ?_
                      rw [hS.2.2.2.1]
                      refine d_row 0 n (by simp only [cE2, sev, svl, cen, List.cons_append, List.nil_append]; omega) (by simp only [cE2, sev, svl, cen, List.cons_append, List.nil_append]; omega) (by omega) ?_
                      rw [(hval (by omega)).1]
                      refine d_opw (oV T L (oIx T L n)) (oV T L (oIx T L n)) (by simp [cE2, sev, svl, cen] <;> omega) (by simp [cE2, sev, svl, cen] <;> omega) ?_
                      rw [hc10 (by omega)]
                      refine d_call (cBG_mono (show 1 ≤ D by omega) (m_emit (d := 0) hp (x := 1) (y := (oV T L (oIx T L n))) hS.2.2.2.2.2.1 (by omega))) (by simp [cAs, cE2, sev, svl, cen] <;> omega) ?_
                      intro rr M3 hq
                      obtain ⟨rfl, hM'⟩ := hq
                      have k37 : M3 1 0 7 = (n : Int) := by rw [hM', oEm_7]; exact hS.2.2.2.1
                      refine ⟨rfl, ?_⟩
                      refine d_fld 0 (by simp only [cE2, sev, svl, cen, List.cons_append, List.nil_append]; omega) ?_
                      rw [k37]
                      refine d_rng (by simp only [clo, chi, cE2, sev, svl, cen, List.cons_append, List.nil_append]; omega) ?_
                      refine d_put 0 ((n : Int) + 1) (by simp only [cE2, sev, svl, cen, List.cons_append, List.nil_append]; omega) (by simp only [cE2, sev, svl, cen, List.cons_append, List.nil_append]; omega) ?_
                      rw [hM']
                      have k15 : k = 15 := by omega
                      obtain ⟨f1, f2, f3⟩ := num15 k15
                      exact d_ret [] rfl (by decide) ⟨rfl, one _ 1 _ f1 f2 f3 (by omega) rfl⟩
            · simp only [cCmp, cE2, sev, svl, cen, List.cons_append, List.nil_append] at h
              omega
        · simp only [cCmp, cE2, sev, svl, cen, List.cons_append, List.nil_append] at h
          omega
    · simp only [cCmp, cE2, sev, svl, cen, List.cons_append, List.nil_append] at h
      omega
  have g95 : ∀ fc num : Int, (k = 7 ∨ k = 16 ∨ (k = 15 ∧ num = 1) ∨ (8 ≤ k ∧ k ≤ 14 ∧ num = 0 ∧ fc = (k : Int) - 8)) → cEnds (cBG tm tf EX l dC dI cA ad scrS D) (fun rr MM => rr = [] ∧ oDA T L N n e M MM (oTe T L n dd) (oTo T L n dd)) 90 gX10_takePart 95 [(dd : Int), fc, num] M := by
    intro fc num hkk
    refine cEnds_at gX10_takePart_m95 rfl ?_
    refine d_br (fun h => ?_) (fun h => ?_)
    · simp only [cCmp, cE2, sev, svl, cen, List.cons_append, List.nil_append] at h
      first
      | omega
      | skip
        refine d_cut [(dd : Int), fc, num] (by simp [cE2, sev, svl, cen] <;> omega) ?_
        exact g105 fc num (by omega) hkk
    · simp only [cCmp, cE2, sev, svl, cen, List.cons_append, List.nil_append] at h
      first
      | omega
      | skip
        refine d_call (cBG_mono (show 1 ≤ D by omega) (m_wrong (d := 0) hp (k := 5) hS h8 ⟨by omega, by omega⟩)) (by simp [cAs, cE2, sev, svl, cen] <;> omega) ?_
        intro rr M2 hq
        obtain ⟨rfl, hM'⟩ := hq
        refine ⟨rfl, ?_⟩
        refine d_cut [(dd : Int), fc, num] (by simp [cE2, sev, svl, cen] <;> omega) ?_
        exact wr 5 fc num M2 hM' (by omega) (by omega) (oPt_deep (by omega) (by omega))
  have g61 : ∀ fc num : Int, ((fc = -1 ∧ ¬ (8 ≤ k ∧ k ≤ 14)) ∨ (8 ≤ k ∧ k ≤ 14 ∧ fc = (k : Int) - 8)) → ((num = 1 ∧ k = 15) ∨ (num = 0 ∧ k ≠ 15)) → cEnds (cBG tm tf EX l dC dI cA ad scrS D) (fun rr MM => rr = [] ∧ oDA T L N n e M MM (oTe T L n dd) (oTo T L n dd)) 90 gX10_takePart 61 [(dd : Int), fc, num] M := by
    intro fc num h1 h2
    have s40 : oSg 40 = 16 := by decide
    refine cEnds_at gX10_takePart_m61 rfl ?_
    refine d_br (fun h => ?_) (fun h => ?_)
    · simp only [cCmp, cE2, sev, svl, cen, List.cons_append, List.nil_append] at h
      first
      | omega
      | skip
        refine d_cut [(dd : Int), fc, num] (by simp [cE2, sev, svl, cen] <;> omega) ?_
        exact g95 fc num (by omega)
    · simp only [cCmp, cE2, sev, svl, cen, List.cons_append, List.nil_append] at h
      first
      | omega
      | skip
        refine d_br (fun h => ?_) (fun h => ?_)
        · simp only [cCmp, cE2, sev, svl, cen, List.cons_append, List.nil_append] at h
          first
          | omega
          | skip
            refine d_cut [(dd : Int), fc, num] (by simp [cE2, sev, svl, cen] <;> omega) ?_
            exact g95 fc num (by omega)
        · simp only [cCmp, cE2, sev, svl, cen, List.cons_append, List.nil_append] at h
          first
          | omega
          | skip
            refine d_call (cBG_mono (show 1 ≤ D by omega) (m_isSign (d := 0) hp (c := 40) hS (by decide))) (by simp [cAs, cE2, sev, svl, cen] <;> omega) ?_
            intro rr M' hq
            obtain ⟨hM', hq⟩ := hq
            rw [hM']
            rcases hq with ⟨rfl, q3⟩ | ⟨rfl, q3⟩
            · refine ⟨rfl, ?_⟩
              refine d_br (fun h => ?_) (fun h => ?_)
              · clear h
                refine d_cut [(dd : Int), fc, num] (by simp [cE2, sev, svl, cen] <;> omega) ?_
                exact g95 fc num (by have := q3.2; omega)
              · simp only [cCmp, cE2, sev, svl, cen, List.cons_append, List.nil_append] at h
                omega
            · refine ⟨rfl, ?_⟩
              refine d_br (fun h => ?_) (fun h => ?_)
              · simp only [cCmp, cE2, sev, svl, cen, List.cons_append, List.nil_append] at h
                omega
              · clear h
                refine d_call (cBG_mono (show 1 ≤ D by omega) (m_isWord (d := 0) hp (w := 7) hS (by decide))) (by simp [cAs, cE2, sev, svl, cen] <;> omega) ?_
                intro rr M' hq
                obtain ⟨hM', hq⟩ := hq
                rw [hM']
                rcases hq with ⟨rfl, q4⟩ | ⟨rfl, q4⟩
                · refine ⟨rfl, ?_⟩
                  refine d_br (fun h => ?_) (fun h => ?_)
                  · clear h
                    refine d_cut [(dd : Int), fc, num] (by simp [cE2, sev, svl, cen] <;> omega) ?_
                    exact g95 fc num (by have := q4.2; omega)
                  · simp only [cCmp, cE2, sev, svl, cen, List.cons_append, List.nil_append] at h
                    omega
                · refine ⟨rfl, ?_⟩
                  refine d_br (fun h => ?_) (fun h => ?_)
                  · simp only [cCmp, cE2, sev, svl, cen, List.cons_append, List.nil_append] at h
                    omega
                  · clear h
                    refine d_call (cBG_mono (show 1 ≤ D by omega) (m_wrong (d := 0) hp (k := 1) hS h8 ⟨by omega, by omega⟩)) (by simp [cAs, cE2, sev, svl, cen] <;> omega) ?_
                    intro rr M2 hq
                    obtain ⟨rfl, hM'⟩ := hq
                    refine ⟨rfl, ?_⟩
                    refine d_cut [(dd : Int), fc, num] (by simp [cE2, sev, svl, cen] <;> omega) ?_
                    exact wr 1 fc num M2 hM' (by omega) (by omega) (oPt_bad (by omega) (by omega) (by omega))
  have loop : ∀ (m w : Nat) (fc : Int), w + m = 15 → 8 ≤ w → ((fc = -1 ∧ ¬ (8 ≤ k ∧ k < w)) ∨ (8 ≤ k ∧ k < w ∧ fc = (k : Int) - 8)) → cEnds (cBG tm tf EX l dC dI cA ad scrS D) (fun rr MM => rr = [] ∧ oDA T L N n e M MM (oTe T L n dd) (oTo T L n dd)) 90 gX10_takePart 13 [(dd : Int), fc, (w : Int)] M := by
    intro m
    induction m with
    | zero =>
      intro w fc hw h8w hf
      have h2 := hMt.2.1
      refine cEnds_at gX10_takePart_m13 rfl ?_
      refine d_br (fun h => ?_) (fun h => ?_)
      · simp only [cCmp, cE2, sev, svl, cen, List.cons_append, List.nil_append] at h
        first
        | omega
        | skip
          refine d_fld 0 (by simp only [cE2, sev, svl, cen, List.cons_append, List.nil_append]; omega) ?_
          rw [hS.2.2.2.1]
          refine d_row 0 n (by simp only [cE2, sev, svl, cen, List.cons_append, List.nil_append]; omega) (by simp only [cE2, sev, svl, cen, List.cons_append, List.nil_append]; omega) (by omega) ?_
          refine d_br (fun h => ?_) (fun h => ?_)
          · simp only [cCmp, cE2, sev, svl, cen, List.cons_append, List.nil_append] at h
            first
            | omega
            | skip
              refine d_cut [(dd : Int), fc, 0] (by simp [cE2, sev, svl, cen] <;> omega) ?_
              exact g61 fc 0 (by omega) (Or.inr ⟨rfl, fun q => by have := h2.mpr q; omega⟩)
          · simp only [cCmp, cE2, sev, svl, cen, List.cons_append, List.nil_append] at h
            first
            | omega
            | skip
              refine d_cut [(dd : Int), fc, 1] (by simp [cE2, sev, svl, cen] <;> omega) ?_
              exact g61 fc 1 (by omega) (Or.inl ⟨rfl, h2.mp (by omega)⟩)
      · simp only [cCmp, cE2, sev, svl, cen, List.cons_append, List.nil_append] at h
        first
        | omega
        | skip
          refine d_call (cBG_mono (show 1 ≤ D by omega) (m_isWord (d := 0) hp (w := w) hS (by omega))) (by simp [cAs, cE2, sev, svl, cen] <;> omega) ?_
          intro rr M' hq
          obtain ⟨hM', hq⟩ := hq
          rw [hM']
          rcases hq with ⟨rfl, q3⟩ | ⟨rfl, q3⟩
          · refine ⟨rfl, ?_⟩
            refine d_br (fun h => ?_) (fun h => ?_)
            · simp only [cCmp, cE2, sev, svl, cen, List.cons_append, List.nil_append] at h
              omega
            · clear h
              refine d_rng (by simp only [clo, chi, cE2, sev, svl, cen, List.cons_append, List.nil_append]; omega) ?_
              refine d_rng (by simp only [clo, chi, cE2, sev, svl, cen, List.cons_append, List.nil_append]; omega) ?_
              refine d_cut [(dd : Int), ((w : Int) - 8), ((w : Int) + 1)] (by simp [cE2, sev, svl, cen] <;> omega) ?_
              exact (by omega)
          · refine ⟨rfl, ?_⟩
            refine d_br (fun h => ?_) (fun h => ?_)
            · clear h
              refine d_rng (by simp only [clo, chi, cE2, sev, svl, cen, List.cons_append, List.nil_append]; omega) ?_
              refine d_cut [(dd : Int), fc, ((w : Int) + 1)] (by simp [cE2, sev, svl, cen] <;> omega) ?_
              exact (by omega)
            · simp only [cCmp, cE2, sev, svl, cen, List.cons_append, List.nil_append] at h
              omega
    | succ m ih =>
      intro w fc hw h8w hf
      refine cEnds_at gX10_takePart_m13 rfl ?_
      refine d_br (fun h => ?_) (fun h => ?_)
      · simp only [cCmp, cE2, sev, svl, cen, List.cons_append, List.nil_append] at h
        first
        | omega
        | skip
          refine d_fld 0 (by simp only [cE2, sev, svl, cen, List.cons_append, List.nil_append]; omega) ?_
          rw [hS.2.2.2.1]
          refine d_row 0 n (by simp only [cE2, sev, svl, cen, List.cons_append, List.nil_append]; omega) (by simp only [cE2, sev, svl, cen, List.cons_append, List.nil_append]; omega) (by omega) ?_
          refine d_br (fun h => ?_) (fun h => ?_)
          · simp only [cCmp, cE2, sev, svl, cen, List.cons_append, List.nil_append] at h
            first
            | omega
            | skip
              refine d_cut [(dd : Int), fc, 0] (by simp [cE2, sev, svl, cen] <;> omega) ?_
              exact (by omega)
          · simp only [cCmp, cE2, sev, svl, cen, List.cons_append, List.nil_append] at h
            first
            | omega
            | skip
              refine d_cut [(dd : Int), fc, 1] (by simp [cE2, sev, svl, cen] <;> omega) ?_
              exact (by omega)
      · simp only [cCmp, cE2, sev, svl, cen, List.cons_append, List.nil_append] at h
        first
        | omega
        | skip
          refine d_call (cBG_mono (show 1 ≤ D by omega) (m_isWord (d := 0) hp (w := w) hS (by omega))) (by simp [cAs, cE2, sev, svl, cen] <;> omega) ?_
          intro rr M' hq
          obtain ⟨hM', hq⟩ := hq
          rw [hM']
          rcases hq with ⟨rfl, q3⟩ | ⟨rfl, q3⟩
          · refine ⟨rfl, ?_⟩
            refine d_br (fun h => ?_) (fun h => ?_)
            · simp only [cCmp, cE2, sev, svl, cen, List.cons_append, List.nil_append] at h
              omega
            · clear h
              refine d_rng (by simp only [clo, chi, cE2, sev, svl, cen, List.cons_append, List.nil_append]; omega) ?_
              refine d_rng (by simp only [clo, chi, cE2, sev, svl, cen, List.cons_append, List.nil_append]; omega) ?_
              refine d_cut [(dd : Int), (w : Int) - 8, ((w + 1 : Nat) : Int)] (by simp [cE2, sev, svl, cen] <;> omega) ?_
              exact ih (w + 1) _ (by omega) (by omega) (by have := q3.2; omega)
          · refine ⟨rfl, ?_⟩
            refine d_br (fun h => ?_) (fun h => ?_)
            · clear h
              refine d_rng (by simp only [clo, chi, cE2, sev, svl, cen, List.cons_append, List.nil_append]; omega) ?_
              refine d_cut [(dd : Int), fc, ((w + 1 : Nat) : Int)] (by simp [cE2, sev, svl, cen] <;> omega) ?_
              exact ih (w + 1) fc (by omega) (by omega) (by omega)
            · simp only [cCmp, cE2, sev, svl, cen, List.cons_append, List.nil_append] at h
              omega
  refine cMeth (v := [(dd : Int)]) (Fd := 90) hp (by decide) gX10_takePart_ok gX10_takePart_m0 (by simp [cAs, cE2, sev, svl, cen]) ?_
  refine cEnds_at gX10_takePart_m0 rfl ?_
  refine d_fld 0 (by simp only [cE2, sev, svl, cen, List.cons_append, List.nil_append]; omega) ?_
  rw [h8]
  refine d_br (fun h => ?_) (fun h => ?_)
  · clear h
    refine d_cut [(dd : Int), -1, ((8 : Nat) : Int)] (by simp [cE2, sev, svl, cen] <;> omega) ?_
    exact loop 7 8 (-1) (by omega) (by omega) (by omega)
  · simp only [cCmp, cE2, sev, svl, cen, List.cons_append, List.nil_append] at h
    omega
theorem m_takePart (hp : cPl tm tc tf EX) : ∀ (e5 dd : Nat), dd + e5 = 5 → ∀ {M : SMem} {n e : Nat}, oRS T L N n e M → M 1 0 8 = 0 → cBG tm tf EX l dC dI cA ad scrS (5 * e5 + 2 + 1) kX10_takePart [(2, 1, 0), (0, 0, ((dd : Nat) : Int))] M (fun rr MM => rr = [] ∧ oDA T L N n e M MM (oTe T L n (dd)) (oTo T L n (dd))) := by
  intro e5
  induction e5 with
  | zero => exact fun dd h => m_takePartS hp (by omega) (by omega) (fun q => by omega)
  | succ e5 ih =>
    intro dd h
    refine m_takePartS hp (by omega) (by omega) (fun _ => ?_)
    have h1 : ∀ {M : SMem} {n e : Nat}, oRS T L N n e M → M 1 0 8 = 0 → cBG tm tf EX l dC dI cA ad scrS (5 * e5 + 2 + 1) kX10_takePart [(2, 1, 0), (0, 0, ((dd + 1 : Nat) : Int))] M (fun rr MM => rr = [] ∧ oDA T L N n e M MM (oTe T L n (dd + 1)) (oTo T L n (dd + 1))) := ih (dd + 1) (by omega)
    have h5 : ∀ {M : SMem} {n e : Nat}, oRS T L N n e M → M 1 0 8 = 0 → cBG tm tf EX l dC dI cA ad scrS (5 * e5 + 2 + 1 + 1 + 1 + 1 + 1) kX10_all [(2, 1, 0), (0, 0, ((dd + 1 : Nat) : Int))] M (fun rr MM => rr = [] ∧ oDA T L N n e M MM (oPe T L 1 n (dd + 1)) (fun n' cc => oQo T L 1 n (dd + 1) n' cc ∧ (oK T L (oIx T L n') ≠ 5 ∧ oK T L (oIx T L n') ≠ 6 ∧ oK T L (oIx T L n') ≠ 20 ∧ oK T L (oIx T L n') ≠ 21 ∧ oK T L (oIx T L n') ≠ 22))) := m_all hp (by omega) (m_test hp (by omega) (m_sums hp (by omega) (m_products hp (by omega) h1)))
    exact ⟨fun hS h8 => cBG_mono (by omega) (h1 hS h8), fun hS h8 => cBG_mono (by omega) (h5 hS h8)⟩
/-- what a line asks -/
theorem m_allO (hp : cPl tm tc tf EX) : ∀ {M : SMem} {n e : Nat}, oRS T L N n e M → M 1 0 8 = 0 → cBG tm tf EX l dC dI cA ad scrS 32 kX10_all [(2, 1, 0), (0, 0, ((0 : Nat) : Int))] M (fun rr MM => rr = [] ∧ oDA T L N n e M MM (oPe T L 1 n (0)) (fun n' cc => oQo T L 1 n (0) n' cc ∧ (oK T L (oIx T L n') ≠ 5 ∧ oK T L (oIx T L n') ≠ 6 ∧ oK T L (oIx T L n') ≠ 20 ∧ oK T L (oIx T L n') ≠ 21 ∧ oK T L (oIx T L n') ≠ 22))) := by
  have h1 : ∀ {M : SMem} {n e : Nat}, oRS T L N n e M → M 1 0 8 = 0 → cBG tm tf EX l dC dI cA ad scrS (5 * 5 + 2 + 1) kX10_takePart [(2, 1, 0), (0, 0, ((0 : Nat) : Int))] M (fun rr MM => rr = [] ∧ oDA T L N n e M MM (oTe T L n (0)) (oTo T L n (0))) := m_takePart hp 5 0 (by omega)
  have h5 : ∀ {M : SMem} {n e : Nat}, oRS T L N n e M → M 1 0 8 = 0 → cBG tm tf EX l dC dI cA ad scrS (5 * 5 + 2 + 1 + 1 + 1 + 1 + 1) kX10_all [(2, 1, 0), (0, 0, ((0 : Nat) : Int))] M (fun rr MM => rr = [] ∧ oDA T L N n e M MM (oPe T L 1 n (0)) (fun n' cc => oQo T L 1 n (0) n' cc ∧ (oK T L (oIx T L n') ≠ 5 ∧ oK T L (oIx T L n') ≠ 6 ∧ oK T L (oIx T L n') ≠ 20 ∧ oK T L (oIx T L n') ≠ 21 ∧ oK T L (oIx T L n') ≠ 22))) := m_all hp (by omega) (m_test hp (by omega) (m_sums hp (by omega) (m_products hp (by omega) h1)))
  intro M n e hS h8
  exact cBG_mono (by omega) (h5 hS h8)
end CO13
