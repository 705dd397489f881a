/-! an order, for both: what is behind it -/
theorem oLs_e {M : SMem} {lb cb e e' : Nat} {ls : List OLn} (he : e ≤ e') (h : oLs M lb cb e ls) : oLs M lb cb e' ls := fun k q hq => by
  obtain ⟨g1, g2, g3, a, g4, g5, g6, g7⟩ := h k q hq
  exact ⟨g1, g2, g3, a, g4, by omega, g6, g7⟩
theorem oMl_un {M MM : SMem} {r r' : Nat} {ls : List OLn} (h6 : r' < 6) (hn : r' ≠ r) (h : oUn r M MM) (g : oMl M r' ls) : oMl MM r' ls := by
  obtain ⟨h1, h2, h3⟩ := h r' h6 hn
  obtain ⟨g1, g2, g3, g4⟩ := g
  exact ⟨h1.trans g1, g2, g3, oLs_mv (fun f j hf hj => h2 f j hf (by omega)) (fun j hj => h3 j (by omega)) g4⟩
theorem oOQ_u {T : Nat → Int} {L : Nat} {U : Nat → Int} {r r' : Int} (h : oOQ T L U [r]) (h' : oOQ T L U [r']) : r = r' := by
  rcases h with ⟨f, h1, h2, h3⟩ | ⟨a, h1, h2⟩ <;> rcases h' with ⟨f', h1', h2', h3'⟩ | ⟨a', h1', h2'⟩
  · have e := h1.symm.trans h1'
    cases e
    rw [List.cons.inj h3 |>.1, List.cons.inj h3' |>.1]
  · cases h1.symm.trans h1'
  · cases h1.symm.trans h1'
  · rw [List.cons.inj h2 |>.1, List.cons.inj h2' |>.1]
theorem sGa_m {M M' : SMem} (h : ∀ f i, 37 ≤ f → f ≤ 42 → M' f 0 i = M f 0 i) (hG : sGa M (-1)) : sGa M' (-1) := fun r h6 hn => oUn_sG (r := 6) h6 (by omega) (oUn_f (fun f i h1 h2 _ => h f i h1 h2)) (hG r h6 hn)
/-- behind an order -/
def Rqo (M M2 : SMem) : Prop := sI tg M2 ∧ Ru M2 ∧ sX M2 ∧ M2 3 0 1 = M2 1 0 2 ∧ (∀ i, M2 107 0 i = M 107 0 i) ∧ M2 108 0 0 = M 108 0 0 ∧ sGa M2 (-1) ∧ sEa M2
def oPoM (T : Nat → Int) (L : Nat) (U : Nat → Int) (x : Int) (M : SMem) (rr : List Int) (MM : SMem) : Prop := (¬ (0 ≤ x ∧ x ≤ 5) ∧ rr = [-1] ∧ MM = supd (supd M 1 0 0 0) 1 0 2 0) ∨ ((0 ≤ x ∧ x ≤ 5) ∧ sI tg MM ∧ oFm oFo M MM ∧ MM 1 0 2 = 0 ∧ (∃ r : Int, rr = [r] ∧ -2147483648 ≤ r ∧ r ≤ 2147483647) ∧ oQQ T L U x M MM rr)
theorem oPoM_fr {T : Nat → Int} {L : Nat} {U : Nat → Int} {x : Int} {M : SMem} {rr : List Int} {MM : SMem} (h : oPoM T L U x M rr MM) : ∀ f j i, (f = 3 ∨ f = 10 ∨ f = 12 ∨ f = 17 ∨ (18 ≤ f ∧ f ≤ 36) ∨ (43 ≤ f ∧ f ≤ 108) ∨ f = 16) → MM f j i = M f j i := by
  intro f j i hf
  rcases h with ⟨-, -, e⟩ | ⟨-, -, e, -⟩
  · rw [e, supd_f (by omega), supd_f (by omega)]
  · exact e f j i (by omega)
theorem Ru_ord {x r : Int} {n : Nat} {M M1 M2 : SMem} {ad ad1 : SAd} {rr : List Int} (hR : Ru M) (hG : sGa M (-1)) (hO : oOV (M 57 0) n (M 58 0) x M ad r M1 ad1) (hm : oPoM (M 57 0) n (M 58 0) x M1 rr M2) : rr = [r] ∧ Rqo M M2 := by
  obtain ⟨⟨i1, x1, e1, f1, -, z1, hA⟩, hV⟩ := hO
  obtain ⟨B, g1, g2, g3, g4, g5, g6⟩ := hR
  have fr := oPoM_fr hm
  have row1 : ∀ f, f ∉ [75, 101, 102, 103, 104, 105, 9, 76, 10, 3, 74, 96, 97, 98, 99, 100, 106] → M1 f = M f := fun f y => by
    funext j i
    simp only [List.mem_cons, List.not_mem_nil, or_false, not_or] at y
    exact f1 f j i (by omega)
  have row : ∀ f, f ∉ [1, 75, 101, 102, 103, 104, 105, 9, 76, 10, 3, 74, 96, 97, 98, 99, 100, 106] → (f = 12 ∨ f = 17 ∨ (18 ≤ f ∧ f ≤ 36) ∨ (43 ≤ f ∧ f ≤ 108) ∨ f = 16) → M2 f = M f := fun f y hf => by
    simp only [List.mem_cons, List.not_mem_nil, or_false, not_or] at y
    rw [← row1 f (by simp only [List.mem_cons, List.not_mem_nil, or_false, not_or]; omega)]
    funext j i
    exact fr f j i (by omega)
  have hW : oWd M2 := oWd_m (fun k => by rw [row 16 (by decide) (by omega)]) g2
  have hRr : Rr M2 := Rr_congr (fun f hf => row f (fun y => by
    simp only [lRow, List.mem_cons, List.not_mem_nil, or_false] at hf y
    omega) (by
    simp only [lRow, List.mem_cons, List.not_mem_nil, or_false] at hf
    omega)) g1
  have hX2 : sX M2 := sX_m (fun f j k hf => fr f j k (by omega)) x1
  have hE2 : sEa M2 := sEa_m (fun f j k hf => fr f j k (by omega)) e1
  have hG1 : sGa M1 (-1) := sGa_m (fun f k q1 q2 => f1 f 0 k (by omega)) hG
  have e107 : ∀ i, M2 107 0 i = M 107 0 i := fun i => (fr 107 0 i (by omega)).trans (f1 107 0 i (by omega))
  have e108 : M2 108 0 0 = M 108 0 0 := (fr 108 0 0 (by omega)).trans (f1 108 0 0 (by omega))
  have e45 : M2 45 0 = M2 77 0 := by rw [row 45 (by decide) (by omega), row 77 (by decide) (by omega)]; exact g4
  have e46 : M2 46 0 = M2 78 0 := by rw [row 46 (by decide) (by omega), row 78 (by decide) (by omega)]; exact g5
  have oM1 : ∀ r', r' < 6 → oMl M1 r' (B r') := fun r' h => oMl_cg (fun f i q1 q2 => f1 f 0 i (by omega)) (g3 r' h).2
  have hb2 : M2 3 0 1 = 0 := (fr 3 0 1 (by omega)).trans z1
  -- nothing is told
  have keep : r ≠ 0 → oUn 6 M1 M2 → Ru M2 := fun hr hu => by
    have hV : ∀ f j i, f = 10 ∨ f = 74 ∨ (96 ≤ f ∧ f ≤ 100) ∨ f = 106 → M2 f j i = M f j i := by
      rcases hV with ⟨-, hV⟩ | ⟨z, -⟩
      · exact fun f j i hf => (fr f j i (by omega)).trans (hV f j i hf)
      · exact absurd z hr
    have e10 : ∀ i, M2 10 0 i = M 10 0 i := fun i => hV 10 0 i (by omega)
    refine ⟨B, hRr, hW, fun r' h => ⟨oCl_cg (fun f i hf => hV f r' i (by omega)) (g3 r' h).1, oMl_un h (by omega) hu (oM1 r' h)⟩, e45, e46, fun q => ?_⟩
    rw [e10] at q
    have eZ : rZ M2 = rZ M := rZ_cg (fun f hf => row f (fun y => by
      simp only [List.mem_cons, List.not_mem_nil, or_false] at hf y
      omega) (by
      simp only [List.mem_cons, List.not_mem_nil, or_false] at hf
      omega))
    rw [eZ]
    exact rCh_cg (fun f hf => row f (fun y => by
      simp only [List.mem_cons, List.not_mem_nil, or_false] at hf y
      omega) (by
      simp only [List.mem_cons, List.not_mem_nil, or_false] at hf
      omega)) (e10 12) (g6 q)
  rcases hm with ⟨q1, rfl, e2⟩ | ⟨q1, i2, f2, z2, ⟨r', rfl, -, -⟩, hQ⟩
  · have er : r = -1 := by
      rcases hA with ⟨-, z⟩ | ⟨z, -⟩
      · exact z
      · omega
    refine ⟨by rw [er], by rw [e2]; exact wI (wI i1 (lo := 0) (hi := 1) rfl ⟨by omega, by omega⟩) (lo := 0) (hi := 1000) rfl ⟨by omega, by omega⟩, keep (by omega) (oUn_f (fun f i h1 h2 _ => by rw [e2, supd_f (by omega), supd_f (by omega)])), hX2, ?_, e107, e108, sGa_m (fun f k h1 h2 => by rw [e2, supd_f (by omega), supd_f (by omega)]) hG1, hE2⟩
    rw [hb2, e2]
    exact (supd_at _ _ _ _ _).symm
  · have er : r = r' := by
      rcases hA with ⟨z, -⟩ | ⟨-, z⟩
      · omega
      · exact oOQ_u z (oQQ_O hQ)
    subst er
    refine ⟨rfl, i2, ?_, hX2, by rw [hb2, z2], e107, e108, oQQ_G hG1 hQ, hE2⟩
    rcases hQ with ⟨f, h1, h2, h3, h4⟩ | ⟨k, e, ls, h0, h1, h2, h3, h4, h5, h7, h8⟩
    · refine keep ?_ h4
      have := List.cons.inj h3
      omega
    · have hr0 : r = 0 := (List.cons.inj h2).1
      rcases hV with ⟨z, -⟩ | ⟨-, v1, k', ls', v2, v3, v4, v5, v6⟩
      · exact absurd hr0 z
      · have ek : k' = k := by omega
        subst ek
        cases h1.symm.trans v4
        refine ⟨fun r' => if r' = k' then ls else B r', hRr, hW, fun r' h => ?_, e45, e46, fun q => ?_⟩
        · by_cases z : r' = k'
          · subst z
            dsimp only
            rw [if_pos rfl]
            exact ⟨oCl_cg (fun f i hf => fr f r' i (by omega)) v5, h5, h3, oRd_mx (fun q hq => by cases hq) h1, oLs_e h4 h7⟩
          · dsimp only
            rw [if_neg z]
            exact ⟨oCl_cg (fun f i hf => (fr f r' i (by omega)).trans (v6 f r' i z (by omega))) (g3 r' h).1, oMl_un h z h8 (oM1 r' h)⟩
        · rw [fr 10 0 13 (by omega)] at q
          exact absurd v1 q
