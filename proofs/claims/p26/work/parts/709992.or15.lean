/-! the reference reads an order -/
abbrev oFo (f i : Nat) : Prop := oPj f i ∨ oPc f i ∨ (f = 1 ∧ i = 0)
def oOQ (T : Nat → Int) (L : Nat) (U : Nat → Int) (rr : List Int) : Prop := (∃ f, oRd T L U 14 0 (oS T L 0) [] = .error f ∧ 0 < f ∧ rr = [f]) ∨ ∃ ls, oRd T L U 14 0 (oS T L 0) [] = .ok ls ∧ rr = [0]
/-- the orders of reigns but one are as before -/
def oUn (r : Nat) (M MM : SMem) : Prop := ∀ r' : Nat, r' < 6 → r' ≠ r → MM 37 0 r' = M 37 0 r' ∧ (∀ f j : Nat, (f = 38 ∨ f = 39 ∨ f = 40) → j < 12 → MM f 0 (12 * r' + j) = M f 0 (12 * r' + j)) ∧ ∀ j : Nat, j < 1100 → MM 41 0 (1100 * r' + j) = M 41 0 (1100 * r' + j) ∧ MM 42 0 (1100 * r' + j) = M 42 0 (1100 * r' + j)
theorem oUn_t {r : Nat} {M M1 M2 : SMem} (h1 : oUn r M M1) (h2 : oUn r M1 M2) : oUn r M M2 := fun r' a b => by
  obtain ⟨p1, p2, p3⟩ := h1 r' a b
  obtain ⟨q1, q2, q3⟩ := h2 r' a b
  exact ⟨q1.trans p1, fun f j hf hj => (q2 f j hf hj).trans (p2 f j hf hj), fun j hj => ⟨(q3 j hj).1.trans (p3 j hj).1, (q3 j hj).2.trans (p3 j hj).2⟩⟩
theorem oUn_6 {r : Nat} {M MM : SMem} (h : oUn 6 M MM) : oUn r M MM := fun r' a _ => h r' a (by omega)
theorem oUn_f {M MM : SMem} (h : ∀ f i : Nat, 37 ≤ f → f ≤ 42 → (f = 37 → i ≠ 6) → MM f 0 i = M f 0 i) : oUn 6 M MM := fun r' a b => ⟨h 37 _ (by omega) (by omega) (by omega), fun f j hf hj => h f _ (by omega) (by omega) (by omega), fun j hj => ⟨h 41 _ (by omega) (by omega) (by omega), h 42 _ (by omega) (by omega) (by omega)⟩⟩
theorem oUn_w {r f i : Nat} {z : Int} {M MW : SMem} (hf : (f = 37 ∧ i = r) ∨ ((f = 38 ∨ f = 39 ∨ f = 40) ∧ 12 * r ≤ i ∧ i < 12 * r + 12) ∨ ((f = 41 ∨ f = 42) ∧ 1100 * r ≤ i ∧ i < 1100 * r + 1100)) (h : oUn r M MW) : oUn r M (supd MW f 0 i z) := oUn_t h (fun r' a b => by
  refine ⟨?_, fun g j hg hj => ?_, fun j hj => ⟨?_, ?_⟩⟩
  · by_cases q : f = 37
    · subst q
      exact supd_i (by omega)
    · exact supd_f (by omega)
  · by_cases q : g = f
    · subst q
      exact supd_i (by omega)
    · exact supd_f (by omega)
  · by_cases q : f = 41
    · subst q
      exact supd_i (by omega)
    · exact supd_f (by omega)
  · by_cases q : f = 42
    · subst q
      exact supd_i (by omega)
    · exact supd_f (by omega))
/-- these lines lie there, with their codes -/
def oLs (M : SMem) (lb cb e : Nat) (ls : List OLn) : Prop := ∀ (k : Nat) (q : OLn), ls[k]? = some q → oHt q.2.2 0 = some 1 ∧ M 38 0 (lb + k) = q.1 ∧ M 39 0 (lb + k) = q.2.1 ∧ ∃ a : Nat, M 40 0 (lb + k) = (a : Int) ∧ a + q.2.2.length < e ∧ (∀ (j : Nat) (x : Int), q.2.2[j]? = some x → M 41 0 (cb + a + j) = oOp1 x ∧ M 42 0 (cb + a + j) = oOp2 x) ∧ M 41 0 (cb + a + q.2.2.length) = 0
theorem oLs_mv {M MM : SMem} {lb cb lb' cb' e : Nat} {ls : List OLn} (h1 : ∀ f j : Nat, (f = 38 ∨ f = 39 ∨ f = 40) → j < ls.length → MM f 0 (lb' + j) = M f 0 (lb + j)) (h2 : ∀ j : Nat, j < e → MM 41 0 (cb' + j) = M 41 0 (cb + j) ∧ MM 42 0 (cb' + j) = M 42 0 (cb + j)) (h : oLs M lb cb e ls) : oLs MM lb' cb' e ls := by
  intro k q hk
  have hl : k < ls.length := (List.getElem?_eq_some_iff.mp hk).1
  obtain ⟨g1, g2, g3, a, g4, g5, g6, g7⟩ := h k q hk
  refine ⟨g1, by rw [h1 38 k (by omega) hl]; exact g2, by rw [h1 39 k (by omega) hl]; exact g3, a, by rw [h1 40 k (by omega) hl]; exact g4, g5, fun j x hj => ?_, ?_⟩
  · have hj9 : j < q.2.2.length := (List.getElem?_eq_some_iff.mp hj).1
    have w := h2 (a + j) (by omega)
    rw [Nat.add_assoc, w.1, w.2, ← Nat.add_assoc]
    exact g6 j x hj
  · have w := h2 (a + q.2.2.length) (by omega)
    rw [Nat.add_assoc, w.1, ← Nat.add_assoc]
    exact g7
theorem oLs_sn {M MM : SMem} {lb cb e e' : Nat} {ls : List OLn} {q : OLn} (h1 : ∀ f j : Nat, (f = 38 ∨ f = 39 ∨ f = 40) → j < ls.length → MM f 0 (lb + j) = M f 0 (lb + j)) (h2 : ∀ j : Nat, j < e → MM 41 0 (cb + j) = M 41 0 (cb + j) ∧ MM 42 0 (cb + j) = M 42 0 (cb + j)) (h : oLs M lb cb e ls) (q1 : oHt q.2.2 0 = some 1) (q2 : MM 38 0 (lb + ls.length) = q.1) (q3 : MM 39 0 (lb + ls.length) = q.2.1) (q4 : MM 40 0 (lb + ls.length) = (e : Int)) (q5 : ∀ (j : Nat) (x : Int), q.2.2[j]? = some x → MM 41 0 (cb + e + j) = oOp1 x ∧ MM 42 0 (cb + e + j) = oOp2 x) (q6 : MM 41 0 (cb + e + q.2.2.length) = 0) (he : e' = e + q.2.2.length + 1) : oLs MM lb cb e' (ls ++ [q]) := by
  intro k q' hk
  by_cases hl : k < ls.length
  · rw [List.getElem?_append_left hl] at hk
    obtain ⟨g1, g2, g3, a, g4, g5, g6⟩ := oLs_mv h1 h2 h k q' hk
    exact ⟨g1, g2, g3, a, g4, by omega, g6⟩
  · rw [List.getElem?_append_right (by omega)] at hk
    have h0 : k - ls.length < [q].length := (List.getElem?_eq_some_iff.mp hk).1
    have h0 : k - ls.length < 1 := h0
    have e0 : k = ls.length := by omega
    subst e0
    rw [Nat.sub_self] at hk
    cases hk
    exact ⟨q1, q2, q3, e, q4, by omega, q5, q6⟩
theorem oLs_sG {M : SMem} {r e : Nat} {ls : List OLn} (he : e ≤ 1000) (h12 : ls.length ≤ 12) (h37 : M 37 0 r = (ls.length : Int)) (h : oLs M (12 * r) (1100 * r) e ls) : sG M r := by
  refine ⟨by omega, fun k hk => ?_⟩
  have hl : k < ls.length := by omega
  obtain ⟨g1, g2, g3, a, g4, g5, g6, g7⟩ := h k ls[k] (List.getElem?_eq_getElem hl)
  exact ⟨a, (ls[k]).2.2.length, 1, g4, by rw [oHt_crun g6]; exact g1, g7, by omega⟩
theorem oUn_sG {r r' : Nat} {M MM : SMem} (h6 : r' < 6) (hn : r' ≠ r) (h : oUn r M MM) (g : sG M r') : sG MM r' := by
  obtain ⟨h1, h2, h3⟩ := h r' h6 hn
  obtain ⟨g1, g2⟩ := g
  refine ⟨by rw [h1]; exact g1, fun k hk => ?_⟩
  rw [h1] at hk
  obtain ⟨a, m, x, k1, k2, k3, k4⟩ := g2 k hk
  refine ⟨a, m, x, by rw [h2 40 k (by omega) (by omega)]; exact k1, ?_, ?_, k4⟩
  · rw [crun_congr (o := M 41 0) (a := M 42 0) m (1100 * r' + a) (1100 * r' + a) 0 (fun j hj => by rw [Nat.add_assoc]; exact h3 (a + j) (by omega))]
    exact k2
  · rw [Nat.add_assoc, (h3 (a + m) (by omega)).1, ← Nat.add_assoc]
    exact k3
theorem oCp9 {MW : SMem} {r k : Nat} (hr : r < 6) (hk : k < 1000) (g : ∀ j : Nat, j < k → MW 41 0 (1100 * r + j) = MW 41 0 (6600 + j) ∧ MW 42 0 (1100 * r + j) = MW 42 0 (6600 + j)) : ∀ j : Nat, j < k + 1 → supd (supd MW 41 0 (1100 * r + k) (MW 41 0 (k + 6600))) 42 0 (1100 * r + k) (MW 42 0 (k + 6600)) 41 0 (1100 * r + j) = supd (supd MW 41 0 (1100 * r + k) (MW 41 0 (k + 6600))) 42 0 (1100 * r + k) (MW 42 0 (k + 6600)) 41 0 (6600 + j) ∧ supd (supd MW 41 0 (1100 * r + k) (MW 41 0 (k + 6600))) 42 0 (1100 * r + k) (MW 42 0 (k + 6600)) 42 0 (1100 * r + j) = supd (supd MW 41 0 (1100 * r + k) (MW 41 0 (k + 6600))) 42 0 (1100 * r + k) (MW 42 0 (k + 6600)) 42 0 (6600 + j) := by
  intro j hj
  have e1 : ∀ z1 z2 : Int, supd (supd MW 41 0 (1100 * r + k) z1) 42 0 (1100 * r + k) z2 41 0 (6600 + j) = MW 41 0 (6600 + j) := fun z1 z2 => by rw [supd_f (by decide), supd_i (by omega)]
  have e2 : ∀ z1 z2 : Int, supd (supd MW 41 0 (1100 * r + k) z1) 42 0 (1100 * r + k) z2 42 0 (6600 + j) = MW 42 0 (6600 + j) := fun z1 z2 => by rw [supd_i (by omega), supd_f (by decide)]
  rw [e1, e2]
  by_cases q : j = k
  · subst q
    refine ⟨?_, ?_⟩
    · rw [supd_f (by decide), supd_at, Nat.add_comm j 6600]
    · rw [supd_at, Nat.add_comm j 6600]
  · refine ⟨?_, ?_⟩
    · rw [supd_f (by decide), supd_i (by omega)]
      exact (g j (by omega)).1
    · rw [supd_i (by omega), supd_f (by decide)]
      exact (g j (by omega)).2
theorem oCp8 {MW : SMem} {r k : Nat} (hr : r < 6) (hk : k < 12) (g : ∀ f j : Nat, (f = 38 ∨ f = 39 ∨ f = 40) → j < k → MW f 0 (12 * r + j) = MW f 0 (72 + j)) : ∀ f j : Nat, (f = 38 ∨ f = 39 ∨ f = 40) → j < k + 1 → supd (supd (supd MW 38 0 (12 * r + k) (MW 38 0 (k + 72))) 39 0 (12 * r + k) (MW 39 0 (k + 72))) 40 0 (12 * r + k) (MW 40 0 (k + 72)) f 0 (12 * r + j) = supd (supd (supd MW 38 0 (12 * r + k) (MW 38 0 (k + 72))) 39 0 (12 * r + k) (MW 39 0 (k + 72))) 40 0 (12 * r + k) (MW 40 0 (k + 72)) f 0 (72 + j) := by
  have w : ∀ (f0 : Nat) (z : Int) (M9 : SMem) (f j : Nat), supd M9 f0 0 (12 * r + k) z f 0 (72 + j) = M9 f 0 (72 + j) := fun f0 z M9 f j => by
    by_cases q : f = f0
    · subst q
      exact supd_i (by omega)
    · exact supd_f q
  have w2 : ∀ (f0 : Nat) (z : Int) (M9 : SMem) (f j : Nat), j ≠ k → supd M9 f0 0 (12 * r + k) z f 0 (12 * r + j) = M9 f 0 (12 * r + j) := fun f0 z M9 f j hj => by
    by_cases q : f = f0
    · subst q
      exact supd_i (by omega)
    · exact supd_f q
  intro f j hf hj
  rw [w, w, w]
  by_cases q : j = k
  · subst q
    rcases hf with rfl | rfl | rfl
    · rw [supd_f (by decide), supd_f (by decide), supd_at, Nat.add_comm]
    · rw [supd_f (by decide), supd_at, Nat.add_comm]
    · rw [supd_at, Nat.add_comm]
  · rw [w2 _ _ _ _ _ q, w2 _ _ _ _ _ q, w2 _ _ _ _ _ q]
    exact g f j hf (by omega)
theorem oCq8 {MW : SMem} {r k f j : Nat} {z1 z2 z3 : Int} (hr : r < 6) (hk : k < 12) : supd (supd (supd MW 38 0 (12 * r + k) z1) 39 0 (12 * r + k) z2) 40 0 (12 * r + k) z3 f 0 (72 + j) = MW f 0 (72 + j) := by
  have w : ∀ (f0 : Nat) (z : Int) (M9 : SMem) (f j : Nat), supd M9 f0 0 (12 * r + k) z f 0 (72 + j) = M9 f 0 (72 + j) := fun f0 z M9 f j => by
    by_cases q : f = f0
    · subst q
      exact supd_i (by omega)
    · exact supd_f q
  rw [w, w, w]
/-- what has become of the orders -/
def oQQ (T : Nat → Int) (L : Nat) (U : Nat → Int) (x : Int) (M MM : SMem) (rr : List Int) : Prop := (∃ f, oRd T L U 14 0 (oS T L 0) [] = .error f ∧ 0 < f ∧ rr = [f] ∧ oUn 6 M MM) ∨ ∃ (r e : Nat) (ls : List OLn), (r : Int) = x ∧ oRd T L U 14 0 (oS T L 0) [] = .ok ls ∧ rr = [0] ∧ ls.length ≤ 12 ∧ e ≤ 1000 ∧ MM 37 0 r = (ls.length : Int) ∧ oLs MM (12 * r) (1100 * r) e ls ∧ oUn r M MM
theorem oQQ_O {T : Nat → Int} {L : Nat} {U : Nat → Int} {x : Int} {M MM : SMem} {rr : List Int} (h : oQQ T L U x M MM rr) : oOQ T L U rr := by
  rcases h with ⟨f, h1, h2, h3, -⟩ | ⟨r, e, ls, -, h1, h2, -⟩
  · exact Or.inl ⟨f, h1, h2, h3⟩
  · exact Or.inr ⟨ls, h1, h2⟩
theorem oQQ_G {T : Nat → Int} {L : Nat} {U : Nat → Int} {x : Int} {M MM : SMem} {rr : List Int} (hG : sGa M (-1)) (h : oQQ T L U x M MM rr) : sGa MM (-1) := by
  intro r' h6 hn
  rcases h with ⟨f, h1, h2, h3, h4⟩ | ⟨r, e, ls, -, h1, h2, h3, h4, h5, h7, h8⟩
  · exact oUn_sG h6 (by omega) h4 (hG r' h6 hn)
  · by_cases q : r' = r
    · subst q
      exact oLs_sG h4 h3 h5 h7
    · exact oUn_sG h6 q h8 (hG r' h6 hn)
section CO15
variable {EX : SEx} {l : Launch} {dC : Nat → ClassId} {dI : Nat → Nat → Nat} {cA : Nat → ClassId} {ad : SAd} {scrS d : Nat}
variable {T U : Nat → Int} {L N : Nat}
theorem m_order2 (hp : cPl tm tc tf EX) {r e : Nat} {ls : List OLn} {x : Int} {M : SMem} (hrx : (r : Int) = x) (hls : ls.length ≤ 12) (hx : 0 ≤ x ∧ x ≤ 5) (hr : r < 6) (he : e ≤ 1000) (hR : oRd T L U 14 0 (oS T L 0) [] = .ok ls) : ∀ (m k : Nat) (MW : SMem), k + m = e → sI tg MW → oFm oFo M MW → MW 1 0 2 = 0 → MW 1 0 39 = (e : Int) → MW 37 0 r = (ls.length : Int) → oUn r M MW → oLs MW 72 6600 e ls → (∀ f j : Nat, (f = 38 ∨ f = 39 ∨ f = 40) → j < ls.length → MW f 0 (12 * r + j) = MW f 0 (72 + j)) → (∀ j : Nat, j < k → MW 41 0 (1100 * r + j) = MW 41 0 (6600 + j) ∧ MW 42 0 (1100 * r + j) = MW 42 0 (6600 + j)) → cEnds (cBG tm tf EX l dC dI cA ad scrS 33) (fun rr MM => (¬ (0 ≤ x ∧ x ≤ 5) ∧ rr = [-1] ∧ MM = supd (supd M 1 0 0 0) 1 0 2 0) ∨ ((0 ≤ x ∧ x ≤ 5) ∧ sI tg MM ∧ oFm oFo M MM ∧ MM 1 0 2 = 0 ∧ (∃ r : Int, rr = [r] ∧ -2147483648 ≤ r ∧ r ≤ 2147483647) ∧ oQQ T L U x M MM rr)) 90 gX10_order 169 [(r : Int), (k : Int)] MW := by
  intro m
  induction m with
  | zero =>
    intro k MW hk g1 g2 g3 g4 g5 g6 g7 g8 g9
    refine cEnds_at gX10_order_m169 rfl ?_
    refine d_fld 0 (by simp only [cE2, sev, svl, cen, List.cons_append, List.nil_append]; omega) ?_
    rw [g4]
    refine d_br (fun h => ?_) (fun h => ?_)
    · simp only [cCmp, cE2, sev, svl, cen, List.cons_append, List.nil_append] at h
      first
      | omega
      | skip
        exact d_ret [0] rfl (by decide) (Or.inr ⟨hx, g1, g2, g3, ⟨0, rfl, by decide, by decide⟩, Or.inr ⟨r, e, ls, hrx, hR, rfl, hls, he, g5, oLs_mv g8 (fun j hj => g9 j (by omega)) g7, g6⟩⟩)
    · simp only [cCmp, cE2, sev, svl, cen, List.cons_append, List.nil_append] at h
      first
      | omega
      | skip
        refine d_rng (by simp only [clo, chi, cE2, sev, svl, cen, List.cons_append, List.nil_append]; omega) ?_
        refine d_rng (by simp only [clo, chi, cE2, sev, svl, cen, List.cons_append, List.nil_append]; omega) ?_
        refine d_rng (by simp only [clo, chi, cE2, sev, svl, cen, List.cons_append, List.nil_append]; omega) ?_
        refine d_row 0 (k + 6600) (by simp only [cE2, sev, svl, cen, List.cons_append, List.nil_append]; omega) (by simp only [cE2, sev, svl, cen, List.cons_append, List.nil_append]; omega) (by omega) ?_
        refine d_set 0 (1100 * r + k) (MW 41 0 (k + 6600)) (by simp only [cE2, sev, svl, cen, List.cons_append, List.nil_append]; omega) (by simp only [cE2, sev, svl, cen, List.cons_append, List.nil_append]; omega) (by omega) (by simp only [cE2, sev, svl, cen, List.cons_append, List.nil_append]; omega) ?_
        refine d_rng (by simp only [clo, chi, cE2, sev, svl, cen, List.cons_append, List.nil_append]; omega) ?_
        refine d_rng (by simp only [clo, chi, cE2, sev, svl, cen, List.cons_append, List.nil_append]; omega) ?_
        refine d_rng (by simp only [clo, chi, cE2, sev, svl, cen, List.cons_append, List.nil_append]; omega) ?_
        refine d_row 0 (k + 6600) (by simp only [cE2, sev, svl, cen, List.cons_append, List.nil_append]; omega) (by simp only [cE2, sev, svl, cen, List.cons_append, List.nil_append]; omega) (by omega) ?_
        rw [supd_f (by decide)]
        refine d_set 0 (1100 * r + k) (MW 42 0 (k + 6600)) (by simp only [cE2, sev, svl, cen, List.cons_append, List.nil_append]; omega) (by simp only [cE2, sev, svl, cen, List.cons_append, List.nil_append]; omega) (by omega) (by simp only [cE2, sev, svl, cen, List.cons_append, List.nil_append]; omega) ?_
        refine d_rng (by simp only [clo, chi, cE2, sev, svl, cen, List.cons_append, List.nil_append]; omega) ?_
        refine d_cut [(r : Int), ((k : Int) + 1)] (by simp [cE2, sev, svl, cen] <;> omega) ?_
        exact (by omega)
  | succ m ih =>
    intro k MW hk g1 g2 g3 g4 g5 g6 g7 g8 g9
    have b41 := wIb (f := 41) (i := k + 6600) (lo := 0) (hi := 10) g1 0 rfl
    have b42 := wIb (f := 42) (i := k + 6600) (lo := -2147483648) (hi := 2147483647) g1 0 rfl
    refine cEnds_at gX10_order_m169 rfl ?_
    refine d_fld 0 (by simp only [cE2, sev, svl, cen, List.cons_append, List.nil_append]; omega) ?_
    rw [g4]
    refine d_br (fun h => ?_) (fun h => ?_)
    · simp only [cCmp, cE2, sev, svl, cen, List.cons_append, List.nil_append] at h
      first
      | omega
      | skip
        exact d_ret [0] rfl (by decide) (by omega)
    · simp only [cCmp, cE2, sev, svl, cen, List.cons_append, List.nil_append] at h
      first
      | omega
      | skip
        refine d_rng (by simp only [clo, chi, cE2, sev, svl, cen, List.cons_append, List.nil_append]; omega) ?_
        refine d_rng (by simp only [clo, chi, cE2, sev, svl, cen, List.cons_append, List.nil_append]; omega) ?_
        refine d_rng (by simp only [clo, chi, cE2, sev, svl, cen, List.cons_append, List.nil_append]; omega) ?_
        refine d_row 0 (k + 6600) (by simp only [cE2, sev, svl, cen, List.cons_append, List.nil_append]; omega) (by simp only [cE2, sev, svl, cen, List.cons_append, List.nil_append]; omega) (by omega) ?_
        refine d_set 0 (1100 * r + k) (MW 41 0 (k + 6600)) (by simp only [cE2, sev, svl, cen, List.cons_append, List.nil_append]; omega) (by simp only [cE2, sev, svl, cen, List.cons_append, List.nil_append]; omega) (by omega) (by simp only [cE2, sev, svl, cen, List.cons_append, List.nil_append]; omega) ?_
        refine d_rng (by simp only [clo, chi, cE2, sev, svl, cen, List.cons_append, List.nil_append]; omega) ?_
        refine d_rng (by simp only [clo, chi, cE2, sev, svl, cen, List.cons_append, List.nil_append]; omega) ?_
        refine d_rng (by simp only [clo, chi, cE2, sev, svl, cen, List.cons_append, List.nil_append]; omega) ?_
        refine d_row 0 (k + 6600) (by simp only [cE2, sev, svl, cen, List.cons_append, List.nil_append]; omega) (by simp only [cE2, sev, svl, cen, List.cons_append, List.nil_append]; omega) (by omega) ?_
        rw [supd_f (by decide)]
        refine d_set 0 (1100 * r + k) (MW 42 0 (k + 6600)) (by simp only [cE2, sev, svl, cen, List.cons_append, List.nil_append]; omega) (by simp only [cE2, sev, svl, cen, List.cons_append, List.nil_append]; omega) (by omega) (by simp only [cE2, sev, svl, cen, List.cons_append, List.nil_append]; omega) ?_
        refine d_rng (by simp only [clo, chi, cE2, sev, svl, cen, List.cons_append, List.nil_append]; omega) ?_
        refine d_cut [(r : Int), ((k + 1 : Nat) : Int)] (by simp [cE2, sev, svl, cen] <;> omega) ?_
        exact ih (k + 1) _ (by omega) (wI (wI g1 (lo := 0) (hi := 10) rfl b41) (lo := -2147483648) (hi := 2147483647) rfl b42) (oFm_p (Or.inl (Or.inl (Or.inr (Or.inl rfl)))) (oFm_p (Or.inl (Or.inl (Or.inl rfl))) g2)) (by rw [supd_f (by decide), supd_f (by decide)]; exact g3) (by rw [supd_f (by decide), supd_f (by decide)]; exact g4) (by rw [supd_f (by decide), supd_f (by decide)]; exact g5) (oUn_w (Or.inr (Or.inr ⟨Or.inr rfl, by omega, by omega⟩)) (oUn_w (Or.inr (Or.inr ⟨Or.inl rfl, by omega, by omega⟩)) g6)) (oLs_mv (fun f j hf hj => by rw [supd_f (by omega), supd_f (by omega)]) (fun j hj => ⟨by rw [supd_f (by decide), supd_i (by omega)], by rw [supd_i (by omega), supd_f (by decide)]⟩) g7) (fun f j hf hj => by rw [supd_f (by omega), supd_f (by omega), supd_f (by omega), supd_f (by omega)]; exact g8 f j hf hj) (oCp9 hr (by omega) g9)
theorem m_order1 (hp : cPl tm tc tf EX) {r e lno : Nat} {ls : List OLn} {x : Int} {M : SMem} (hrx : (r : Int) = x) (hls : ls.length = lno) (hx : 0 ≤ x ∧ x ≤ 5) (hr : r < 6) (he : e ≤ 1000) (hl : lno ≤ 12) (hR : oRd T L U 14 0 (oS T L 0) [] = .ok ls) : ∀ (m k : Nat) (MW : SMem), k + m = lno → sI tg MW → oFm oFo M MW → MW 1 0 2 = 0 → MW 1 0 39 = (e : Int) → MW 37 0 r = (lno : Int) → oUn r M MW → oLs MW 72 6600 e ls → (∀ f j : Nat, (f = 38 ∨ f = 39 ∨ f = 40) → j < k → MW f 0 (12 * r + j) = MW f 0 (72 + j)) → cEnds (cBG tm tf EX l dC dI cA ad scrS 33) (fun rr MM => (¬ (0 ≤ x ∧ x ≤ 5) ∧ rr = [-1] ∧ MM = supd (supd M 1 0 0 0) 1 0 2 0) ∨ ((0 ≤ x ∧ x ≤ 5) ∧ sI tg MM ∧ oFm oFo M MM ∧ MM 1 0 2 = 0 ∧ (∃ r : Int, rr = [r] ∧ -2147483648 ≤ r ∧ r ≤ 2147483647) ∧ oQQ T L U x M MM rr)) 90 gX10_order 91 [(r : Int), (k : Int)] MW := by
  intro m
  induction m with
  | zero =>
    intro k MW hk g1 g2 g3 g4 g5 g6 g7 g8
    refine cEnds_at gX10_order_m91 rfl ?_
    refine d_row 0 r (by simp only [cE2, sev, svl, cen, List.cons_append, List.nil_append]; omega) (by simp only [cE2, sev, svl, cen, List.cons_append, List.nil_append]; omega) (by omega) ?_
    rw [g5]
    refine d_br (fun h => ?_) (fun h => ?_)
    · simp only [cCmp, cE2, sev, svl, cen, List.cons_append, List.nil_append] at h
      first
      | omega
      | skip
        refine d_cut [(r : Int), ((0 : Nat) : Int)] (by simp [cE2, sev, svl, cen] <;> omega) ?_
        exact m_order2 hp hrx (by omega) hx hr he hR e 0 MW (by omega) g1 g2 g3 g4 (by rw [hls]; exact g5) g6 g7 (fun f j hf hj => g8 f j hf (by omega)) (fun j hj => absurd hj (Nat.not_lt_zero j))
    · simp only [cCmp, cE2, sev, svl, cen, List.cons_append, List.nil_append] at h
      first
      | omega
      | skip
        refine d_rng (by simp only [clo, chi, cE2, sev, svl, cen, List.cons_append, List.nil_append]; omega) ?_
        refine d_rng (by simp only [clo, chi, cE2, sev, svl, cen, List.cons_append, List.nil_append]; omega) ?_
        refine d_rng (by simp only [clo, chi, cE2, sev, svl, cen, List.cons_append, List.nil_append]; omega) ?_
        refine d_row 0 (k + 72) (by simp only [cE2, sev, svl, cen, List.cons_append, List.nil_append]; omega) (by simp only [cE2, sev, svl, cen, List.cons_append, List.nil_append]; omega) (by omega) ?_
        refine d_set 0 (12 * r + k) (MW 38 0 (k + 72)) (by simp only [cE2, sev, svl, cen, List.cons_append, List.nil_append]; omega) (by simp only [cE2, sev, svl, cen, List.cons_append, List.nil_append]; omega) (by omega) (by simp only [cE2, sev, svl, cen, List.cons_append, List.nil_append]; omega) ?_
        refine d_rng (by simp only [clo, chi, cE2, sev, svl, cen, List.cons_append, List.nil_append]; omega) ?_
        refine d_rng (by simp only [clo, chi, cE2, sev, svl, cen, List.cons_append, List.nil_append]; omega) ?_
        refine d_rng (by simp only [clo, chi, cE2, sev, svl, cen, List.cons_append, List.nil_append]; omega) ?_
        refine d_row 0 (k + 72) (by simp only [cE2, sev, svl, cen, List.cons_append, List.nil_append]; omega) (by simp only [cE2, sev, svl, cen, List.cons_append, List.nil_append]; omega) (by omega) ?_
        rw [supd_f (by decide)]
        refine d_set 0 (12 * r + k) (MW 39 0 (k + 72)) (by simp only [cE2, sev, svl, cen, List.cons_append, List.nil_append]; omega) (by simp only [cE2, sev, svl, cen, List.cons_append, List.nil_append]; omega) (by omega) (by simp only [cE2, sev, svl, cen, List.cons_append, List.nil_append]; omega) ?_
        refine d_rng (by simp only [clo, chi, cE2, sev, svl, cen, List.cons_append, List.nil_append]; omega) ?_
        refine d_rng (by simp only [clo, chi, cE2, sev, svl, cen, List.cons_append, List.nil_append]; omega) ?_
        refine d_rng (by simp only [clo, chi, cE2, sev, svl, cen, List.cons_append, List.nil_append]; omega) ?_
        refine d_row 0 (k + 72) (by simp only [cE2, sev, svl, cen, List.cons_append, List.nil_append]; omega) (by simp only [cE2, sev, svl, cen, List.cons_append, List.nil_append]; omega) (by omega) ?_
        rw [supd_f (by decide)]
        rw [supd_f (by decide)]
        refine d_set 0 (12 * r + k) (MW 40 0 (k + 72)) (by simp only [cE2, sev, svl, cen, List.cons_append, List.nil_append]; omega) (by simp only [cE2, sev, svl, cen, List.cons_append, List.nil_append]; omega) (by omega) (by simp only [cE2, sev, svl, cen, List.cons_append, List.nil_append]; omega) ?_
        refine d_rng (by simp only [clo, chi, cE2, sev, svl, cen, List.cons_append, List.nil_append]; omega) ?_
        refine d_cut [(r : Int), ((k : Int) + 1)] (by simp [cE2, sev, svl, cen] <;> omega) ?_
        exact (by omega)
  | succ m ih =>
    intro k MW hk g1 g2 g3 g4 g5 g6 g7 g8
    have b38 := wIb (f := 38) (i := k + 72) (lo := 0) (hi := 3) g1 0 rfl
    have b39 := wIb (f := 39) (i := k + 72) (lo := 0) (hi := 7) g1 0 rfl
    have b40 := wIb (f := 40) (i := k + 72) (lo := 0) (hi := 1000) g1 0 rfl
    refine cEnds_at gX10_order_m91 rfl ?_
    refine d_row 0 r (by simp only [cE2, sev, svl, cen, List.cons_append, List.nil_append]; omega) (by simp only [cE2, sev, svl, cen, List.cons_append, List.nil_append]; omega) (by omega) ?_
    rw [g5]
    refine d_br (fun h => ?_) (fun h => ?_)
    · simp only [cCmp, cE2, sev, svl, cen, List.cons_append, List.nil_append] at h
      first
      | omega
      | skip
        refine d_cut [(r : Int), 0] (by simp [cE2, sev, svl, cen] <;> omega) ?_
        exact (by omega)
    · simp only [cCmp, cE2, sev, svl, cen, List.cons_append, List.nil_append] at h
      first
      | omega
      | skip
        refine d_rng (by simp only [clo, chi, cE2, sev, svl, cen, List.cons_append, List.nil_append]; omega) ?_
        refine d_rng (by simp only [clo, chi, cE2, sev, svl, cen, List.cons_append, List.nil_append]; omega) ?_
        refine d_rng (by simp only [clo, chi, cE2, sev, svl, cen, List.cons_append, List.nil_append]; omega) ?_
        refine d_row 0 (k + 72) (by simp only [cE2, sev, svl, cen, List.cons_append, List.nil_append]; omega) (by simp only [cE2, sev, svl, cen, List.cons_append, List.nil_append]; omega) (by omega) ?_
        refine d_set 0 (12 * r + k) (MW 38 0 (k + 72)) (by simp only [cE2, sev, svl, cen, List.cons_append, List.nil_append]; omega) (by simp only [cE2, sev, svl, cen, List.cons_append, List.nil_append]; omega) (by omega) (by simp only [cE2, sev, svl, cen, List.cons_append, List.nil_append]; omega) ?_
        refine d_rng (by simp only [clo, chi, cE2, sev, svl, cen, List.cons_append, List.nil_append]; omega) ?_
        refine d_rng (by simp only [clo, chi, cE2, sev, svl, cen, List.cons_append, List.nil_append]; omega) ?_
        refine d_rng (by simp only [clo, chi, cE2, sev, svl, cen, List.cons_append, List.nil_append]; omega) ?_
        refine d_row 0 (k + 72) (by simp only [cE2, sev, svl, cen, List.cons_append, List.nil_append]; omega) (by simp only [cE2, sev, svl, cen, List.cons_append, List.nil_append]; omega) (by omega) ?_
        rw [supd_f (by decide)]
        refine d_set 0 (12 * r + k) (MW 39 0 (k + 72)) (by simp only [cE2, sev, svl, cen, List.cons_append, List.nil_append]; omega) (by simp only [cE2, sev, svl, cen, List.cons_append, List.nil_append]; omega) (by omega) (by simp only [cE2, sev, svl, cen, List.cons_append, List.nil_append]; omega) ?_
        refine d_rng (by simp only [clo, chi, cE2, sev, svl, cen, List.cons_append, List.nil_append]; omega) ?_
        refine d_rng (by simp only [clo, chi, cE2, sev, svl, cen, List.cons_append, List.nil_append]; omega) ?_
        refine d_rng (by simp only [clo, chi, cE2, sev, svl, cen, List.cons_append, List.nil_append]; omega) ?_
        refine d_row 0 (k + 72) (by simp only [cE2, sev, svl, cen, List.cons_append, List.nil_append]; omega) (by simp only [cE2, sev, svl, cen, List.cons_append, List.nil_append]; omega) (by omega) ?_
        rw [supd_f (by decide)]
        rw [supd_f (by decide)]
        refine d_set 0 (12 * r + k) (MW 40 0 (k + 72)) (by simp only [cE2, sev, svl, cen, List.cons_append, List.nil_append]; omega) (by simp only [cE2, sev, svl, cen, List.cons_append, List.nil_append]; omega) (by omega) (by simp only [cE2, sev, svl, cen, List.cons_append, List.nil_append]; omega) ?_
        refine d_rng (by simp only [clo, chi, cE2, sev, svl, cen, List.cons_append, List.nil_append]; omega) ?_
        refine d_cut [(r : Int), ((k + 1 : Nat) : Int)] (by simp [cE2, sev, svl, cen] <;> omega) ?_
        exact ih (k + 1) _ (by omega) (wI (wI (wI g1 (lo := 0) (hi := 3) rfl b38) (lo := 0) (hi := 7) rfl b39) (lo := 0) (hi := 1000) rfl b40) (oFm_p (Or.inl (Or.inr (Or.inr (Or.inr (Or.inr rfl))))) (oFm_p (Or.inl (Or.inr (Or.inr (Or.inr (Or.inl rfl))))) (oFm_p (Or.inl (Or.inr (Or.inr (Or.inl rfl)))) g2))) (by rw [supd_f (by decide), supd_f (by decide), supd_f (by decide)]; exact g3) (by rw [supd_f (by decide), supd_f (by decide), supd_f (by decide)]; exact g4) (by rw [supd_f (by decide), supd_f (by decide), supd_f (by decide)]; exact g5) (oUn_w (Or.inr (Or.inl ⟨by omega, by omega, by omega⟩)) (oUn_w (Or.inr (Or.inl ⟨by omega, by omega, by omega⟩)) (oUn_w (Or.inr (Or.inl ⟨by omega, by omega, by omega⟩)) g6))) (oLs_mv (fun f j hf hj => oCq8 hr (by omega)) (fun j hj => ⟨by rw [supd_f (by decide), supd_f (by decide), supd_f (by decide)], by rw [supd_f (by decide), supd_f (by decide), supd_f (by decide)]⟩) g7) (oCp8 hr (by omega) g8)
theorem m_order (hp : cPl tm tc tf EX) {x : Int} {M : SMem} (hI : sI tg M) (hW : oWd M) (hT : M 12 0 = T) (hL : M 1 0 2 = (L : Int)) (h9 : L ≤ 1000) (hU : M 17 0 = U) : cBG tm tf EX l dC dI cA ad scrS 34 kX10_order [(2, 1, 0), (0, 0, x)] M (fun rr MM => (¬ (0 ≤ x ∧ x ≤ 5) ∧ rr = [-1] ∧ MM = supd (supd M 1 0 0 0) 1 0 2 0) ∨ ((0 ≤ x ∧ x ≤ 5) ∧ sI tg MM ∧ oFm oFo M MM ∧ MM 1 0 2 = 0 ∧ (∃ r : Int, rr = [r] ∧ -2147483648 ≤ r ∧ r ≤ 2147483647) ∧ oQQ T L U x M MM rr)) := by
  obtain ⟨R0, hR0⟩ : ∃ R0, R0 = oRd T L U 14 0 (oS T L 0) [] := ⟨_, rfl⟩
  have i0 : sI tg (supd M 1 0 0 0) := wI hI (lo := 0) (hi := 1) rfl ⟨by omega, by omega⟩
  have hT0 : supd M 1 0 0 0 12 0 = T := by
    funext i
    rw [supd_f (by decide)]
    exact congrFun hT i
  have hL0 : supd M 1 0 0 0 1 0 2 = (L : Int) := (supd_i (by decide)).trans hL
  refine cMeth (v := [x]) (Fd := 90) hp (by decide) gX10_order_ok gX10_order_m0 (by simp [cAs, cE2, sev, svl, cen]) ?_
  refine cEnds_at gX10_order_m0 rfl ?_
  by_cases hx : 0 ≤ x ∧ x ≤ 5
  · obtain ⟨r, hr⟩ : ∃ r : Nat, (r : Int) = x := ⟨x.toNat, by omega⟩
    subst hr
    have hTk := oTk_of (T := T) (L := L)
    -- behind a fault
    have bad : ∀ (f : Int) (MW : SMem), 0 < f → MW 1 0 8 = f → sI tg MW → oFm oFo M MW → MW 1 0 2 = 0 → oUn 6 M MW → R0 = .error f → cEnds (cBG tm tf EX l dC dI cA ad scrS 33) (fun rr MM => (¬ (0 ≤ (r : Int) ∧ (r : Int) ≤ 5) ∧ rr = [-1] ∧ MM = supd (supd M 1 0 0 0) 1 0 2 0) ∨ ((0 ≤ (r : Int) ∧ (r : Int) ≤ 5) ∧ sI tg MM ∧ oFm oFo M MM ∧ MM 1 0 2 = 0 ∧ (∃ r : Int, rr = [r] ∧ -2147483648 ≤ r ∧ r ≤ 2147483647) ∧ oQQ T L U (r : Int) M MM rr)) 90 gX10_order 38 [(r : Int)] MW := by
      intro f MW f0 f8 g1 g2 g3 g6 gR
      have b8 := wIb (f := 1) (i := 8) (lo := 0) (hi := 16005) g1 0 rfl
      refine cEnds_at gX10_order_m38 rfl ?_
      refine d_fld 0 (by simp only [cE2, sev, svl, cen, List.cons_append, List.nil_append]; omega) ?_
      rw [f8]
      refine d_br (fun h => ?_) (fun h => ?_)
      · simp only [cCmp, cE2, sev, svl, cen, List.cons_append, List.nil_append] at h
        first
        | omega
        | skip
          refine d_fld 0 (by simp only [cE2, sev, svl, cen, List.cons_append, List.nil_append]; omega) ?_
          rw [f8]
          refine d_br (fun h => ?_) (fun h => ?_)
          · simp only [cCmp, cE2, sev, svl, cen, List.cons_append, List.nil_append] at h
            first
            | omega
            | skip
              refine d_row 0 6 (by simp only [cE2, sev, svl, cen, List.cons_append, List.nil_append]; omega) (by simp only [cE2, sev, svl, cen, List.cons_append, List.nil_append]; omega) (by omega) ?_
              refine d_set 0 r (MW 37 0 6) (by simp only [cE2, sev, svl, cen, List.cons_append, List.nil_append]; omega) (by simp only [cE2, sev, svl, cen, List.cons_append, List.nil_append]; omega) (by omega) (by simp only [cE2, sev, svl, cen, List.cons_append, List.nil_append]; omega) ?_
              refine d_cut [(r : Int), 0] (by simp [cE2, sev, svl, cen] <;> omega) ?_
              exact (by omega)
          · simp only [cCmp, cE2, sev, svl, cen, List.cons_append, List.nil_append] at h
            first
            | omega
            | skip
              refine d_fld 0 (by simp only [cE2, sev, svl, cen, List.cons_append, List.nil_append]; omega) ?_
              rw [f8]
              exact wret1 f (by simp only [cE2, sev, svl, cen, List.cons_append, List.nil_append]; omega) (by omega) (Or.inr ⟨hx, g1, g2, g3, ⟨f, rfl, by omega, by omega⟩, Or.inl ⟨f, hR0.symm.trans gR, f0, rfl, g6⟩⟩)
      · simp only [cCmp, cE2, sev, svl, cen, List.cons_append, List.nil_append] at h
        first
        | omega
        | skip
          refine d_fld 0 (by simp only [cE2, sev, svl, cen, List.cons_append, List.nil_append]; omega) ?_
          refine d_row 0 (((MW 1 0 7)).toNat) (by simp only [cE2, sev, svl, cen, List.cons_append, List.nil_append]; omega) (by simp only [cE2, sev, svl, cen, List.cons_append, List.nil_append]; omega) (by omega) ?_
          refine d_br (fun h => ?_) (fun h => ?_)
          · simp only [cCmp, cE2, sev, svl, cen, List.cons_append, List.nil_append] at h
            first
            | omega
            | skip
              refine d_fld 0 (by simp only [cE2, sev, svl, cen, List.cons_append, List.nil_append]; omega) ?_
              rw [f8]
              refine d_br (fun h => ?_) (fun h => ?_)
              · simp only [cCmp, cE2, sev, svl, cen, List.cons_append, List.nil_append] at h
                first
                | omega
                | skip
                  refine d_row 0 6 (by simp only [cE2, sev, svl, cen, List.cons_append, List.nil_append]; omega) (by simp only [cE2, sev, svl, cen, List.cons_append, List.nil_append]; omega) (by omega) ?_
                  refine d_set 0 r (MW 37 0 6) (by simp only [cE2, sev, svl, cen, List.cons_append, List.nil_append]; omega) (by simp only [cE2, sev, svl, cen, List.cons_append, List.nil_append]; omega) (by omega) (by simp only [cE2, sev, svl, cen, List.cons_append, List.nil_append]; omega) ?_
                  refine d_cut [(r : Int), 0] (by simp [cE2, sev, svl, cen] <;> omega) ?_
                  exact (by omega)
              · simp only [cCmp, cE2, sev, svl, cen, List.cons_append, List.nil_append] at h
                first
                | omega
                | skip
                  refine d_fld 0 (by simp only [cE2, sev, svl, cen, List.cons_append, List.nil_append]; omega) ?_
                  rw [f8]
                  exact wret1 f (by simp only [cE2, sev, svl, cen, List.cons_append, List.nil_append]; omega) (by omega) (by omega)
          · simp only [cCmp, cE2, sev, svl, cen, List.cons_append, List.nil_append] at h
            first
            | omega
            | skip
              refine d_call (m_readLine hp) (by simp [cAs, cE2, sev, svl, cen] <;> omega) ?_
              intro rr M' hq
              have hq9 := hq
              refine ⟨rfl, ?_⟩
              refine d_cut [(r : Int)] (by simp [cE2, sev, svl, cen] <;> omega) ?_
              exact (by omega)
    have loop : ∀ (N m lno n e : Nat) (ls : List OLn) (MW : SMem), lno + m = 14 → lno ≤ 12 → ls.length = lno → oRS T L N n e MW → MW 1 0 8 = 0 → MW 37 0 6 = (lno : Int) → MW 17 0 = U → oFm oFo M MW → MW 1 0 2 = 0 → oUn 6 M MW → oLs MW 72 6600 e ls → oRd T L U m lno (oIx T L n) ls = R0 → cEnds (cBG tm tf EX l dC dI cA ad scrS 33) (fun rr MM => (¬ (0 ≤ (r : Int) ∧ (r : Int) ≤ 5) ∧ rr = [-1] ∧ MM = supd (supd M 1 0 0 0) 1 0 2 0) ∨ ((0 ≤ (r : Int) ∧ (r : Int) ≤ 5) ∧ sI tg MM ∧ oFm oFo M MM ∧ MM 1 0 2 = 0 ∧ (∃ r : Int, rr = [r] ∧ -2147483648 ≤ r ∧ r ≤ 2147483647) ∧ oQQ T L U (r : Int) M MM rr)) 90 gX10_order 38 [(r : Int)] MW := by
      intro N m
      induction m with
      | zero => intro lno n e ls MW h1 h2; omega
      | succ m ih =>
        intro lno n e ls MW h1 h2 h3 S h8 h37 h17 g2 g3 g6 g7 gR
        have hi := oRS_i S
        have hMt := oMt_k (S.2.1.2.2.2 n hi.2.1)
        have h24 := hMt.1
        have gR : (if oK T L (oIx T L n) = 24 then .ok ls else match oLin T L U lno (oIx T L n) with
          | .error f => .error f
          | .ok q => oRd T L U m (lno + 1) q.1 (ls ++ [q.2])) = R0 := gR
        refine cEnds_at gX10_order_m38 rfl ?_
        refine d_fld 0 (by simp only [cE2, sev, svl, cen, List.cons_append, List.nil_append]; omega) ?_
        rw [h8]
        refine d_br (fun h => ?_) (fun h => ?_)
        · simp only [cCmp, cE2, sev, svl, cen, List.cons_append, List.nil_append] at h
          omega
        · clear h
          refine d_fld 0 (by simp only [cE2, sev, svl, cen, List.cons_append, List.nil_append]; omega) ?_
          rw [S.2.2.2.1]
          refine d_row 0 n (by simp only [cE2, sev, svl, cen, List.cons_append, List.nil_append]; omega) (by simp only [cE2, sev, svl, cen, List.cons_append, List.nil_append]; omega) (by omega) ?_
          refine d_br (fun h => ?_) (fun h => ?_)
          · simp only [cCmp, cE2, sev, svl, cen, List.cons_append, List.nil_append] at h
            first
            | omega
            | skip
              refine d_fld 0 (by simp only [cE2, sev, svl, cen, List.cons_append, List.nil_append]; omega) ?_
              rw [h8]
              refine d_br (fun h => ?_) (fun h => ?_)
              · clear h
                refine d_row 0 6 (by simp only [cE2, sev, svl, cen, List.cons_append, List.nil_append]; omega) (by simp only [cE2, sev, svl, cen, List.cons_append, List.nil_append]; omega) (by omega) ?_
                rw [h37]
                refine d_set 0 r (lno : Int) (by simp only [cE2, sev, svl, cen, List.cons_append, List.nil_append]; omega) (by simp only [cE2, sev, svl, cen, List.cons_append, List.nil_append]; omega) (by omega) (by simp only [cE2, sev, svl, cen, List.cons_append, List.nil_append]; omega) ?_
                rw [if_pos (h24.mp (by omega))] at gR
                refine d_cut [(r : Int), ((0 : Nat) : Int)] (by simp [cE2, sev, svl, cen] <;> omega) ?_
                exact m_order1 (e := e) hp rfl h3 hx (by omega) (by omega) h2 (hR0.symm.trans gR.symm) lno 0 _ (by omega) (wI S.1 (lo := 0) (hi := 12) rfl ⟨by omega, by omega⟩) (oFm_p (Or.inl (Or.inr (Or.inl rfl))) g2) (by rw [supd_f (by decide)]; exact g3) (by rw [supd_f (by decide)]; exact S.2.2.2.2.2.1) (supd_at _ _ _ _ _) (oUn_w (Or.inl ⟨rfl, rfl⟩) (oUn_6 g6)) (oLs_mv (fun f j hf hj => supd_f (by omega)) (fun j hj => ⟨supd_f (by decide), supd_f (by decide)⟩) g7) (fun f j hf hj => absurd hj (Nat.not_lt_zero j))
              · simp only [cCmp, cE2, sev, svl, cen, List.cons_append, List.nil_append] at h
                omega
          · simp only [cCmp, cE2, sev, svl, cen, List.cons_append, List.nil_append] at h
            first
            | omega
            | skip
              refine d_call (m_readLine (U := U) (lno := lno) hp S h8 h17 h37 h2 (fun q => by have := h24.mpr q; omega)) (by simp [cAs, cE2, sev, svl, cen] <;> omega) ?_
              intro rr M1 hq
              obtain ⟨rfl, hq9⟩ := hq
              refine ⟨rfl, ?_⟩
              refine d_cut [(r : Int)] (by simp [cE2, sev, svl, cen] <;> omega) ?_
              rw [if_neg (fun q => by have := h24.mpr q; omega)] at gR
              obtain ⟨f1, fk, fl, fn, hQ⟩ := hq9
              have F1 : oFm oFo M M1 := oFm_t g2 (oFm_w (fun _ _ q => Or.inl q) f1)
              have z2 : M1 1 0 2 = 0 := (f1 1 0 2 (by omega)).trans g3
              have z6 : oUn 6 M M1 := oUn_t g6 (fun r9 a9 b9 => ⟨fn r9 (by omega), fun f9 j9 hf9 hj9 => fl f9 _ hf9 (by omega), fun j9 hj9 => fk _ (by omega)⟩)
              rcases hQ with ⟨f, n', e', q1, q2, q3, q4⟩ | ⟨n', q, q1, q2, q3, q4, q5, q6, p1, p2, p3, p4, p5⟩
              · rw [q1] at gR; exact bad f M1 q2 q3 q4.1 F1 z2 z6 gR.symm
              rw [q1] at gR
              have h12 := oLin_lt q1
              exact ih (lno + 1) n' _ (ls ++ [q.2]) M1 (by omega) (by omega) (by rw [List.length_append, h3]; rfl) q5 q4 (by rw [q6]; rfl) ((oFm_row f1 (fun i q => by omega)).trans h17) F1 z2 z6 (oLs_sn (fun f9 j9 hf9 hj9 => fl f9 _ hf9 (by omega)) (fun j9 hj9 => fk _ (by omega)) g7 (oLin_ht q1) (by rw [h3]; exact p1) (by rw [h3]; exact p2) (by rw [h3]; exact p3) p4 p5 rfl) (by rw [← q2]; exact gR)
    refine d_put 0 0 (by simp only [cE2, sev, svl, cen, List.cons_append, List.nil_append]; omega) (by simp only [cE2, sev, svl, cen, List.cons_append, List.nil_append]; omega) ?_
    refine d_call (cBG_mono (show 1 ≤ 33 by omega) (m_within (d := 0) hp (x := (r : Int)) (y := 0) (z := 5))) (by simp [cAs, cE2, sev, svl, cen] <;> omega) ?_
    rintro rr M' ⟨hM', hq⟩
    rw [hM']
    rcases hq with ⟨rfl, q1⟩ | ⟨rfl, q1⟩
    · refine ⟨rfl, ?_⟩
      refine d_br (fun h => ?_) (fun h => ?_)
      · clear h
        refine d_call (cBG_mono (show 4 ≤ 33 by omega) (m_cutAll (d := 0) hp i0 hT0 hL0 h9)) (by simp [cAs, cE2, sev, svl, cen] <;> omega) ?_
        rintro rr M1 ⟨rfl, i1, f1, e2, e7, e8, N, hMT⟩
        refine ⟨rfl, ?_⟩
        refine d_set 0 6 0 (by simp only [cE2, sev, svl, cen, List.cons_append, List.nil_append]; omega) (by simp only [cE2, sev, svl, cen, List.cons_append, List.nil_append]; omega) (by decide) (by simp only [cE2, sev, svl, cen, List.cons_append, List.nil_append]; omega) ?_
        refine d_put 0 0 (by simp only [cE2, sev, svl, cen, List.cons_append, List.nil_append]; omega) (by simp only [cE2, sev, svl, cen, List.cons_append, List.nil_append]; omega) ?_
        refine d_cut [(r : Int)] (by simp [cE2, sev, svl, cen] <;> omega) ?_
        have F1 : oFm oFo M M1 := oFm_t (oFm_p (Or.inr (Or.inr ⟨rfl, rfl⟩)) oFm_r) (oFm_w (fun _ _ q => Or.inr (Or.inl q)) f1)
        refine loop N 14 0 0 0 [] _ (by omega) (by omega) rfl ⟨wI (wI i1 (lo := 0) (hi := 12) rfl ⟨by omega, by omega⟩) (lo := 0) (hi := 1001) rfl ⟨by omega, by omega⟩, oMT_m (fun f i hf => by rw [supd_f (by omega), supd_f (by omega)]) hMT, oWd_m (fun i => by rw [supd_f (by decide), supd_f (by decide), f1 16 0 i (by omega), supd_f (by decide)]) hW, ?_, Nat.zero_le _, supd_at _ _ _ _ _, Nat.le_refl _⟩ ?_ ?_ ?_ (oFm_p (Or.inl (Or.inl (Or.inr (Or.inr ⟨rfl, by omega⟩)))) (oFm_p (Or.inl (Or.inr (Or.inl rfl))) F1)) ?_ (oUn_f (fun f i h1 h2 h3 => ?_)) (fun k q hk => by cases hk) hR0.symm
        · rw [supd_i (by decide), supd_f (by decide)]; exact e7
        · rw [supd_i (by decide), supd_f (by decide)]; exact e8
        · rw [supd_f (by decide), supd_at]; rfl
        · funext i
          rw [supd_f (by decide), supd_f (by decide), f1 17 0 i (by omega), supd_f (by decide)]
          exact congrFun hU i
        · rw [supd_i (by decide), supd_f (by decide)]; exact e2
        · rw [supd_f (by omega)]
          by_cases q : f = 37
          · subst q
            rw [supd_i (h3 rfl), f1 37 0 i (by omega), supd_f (by decide)]
          · rw [supd_f q, f1 f 0 i (by omega), supd_f (by omega)]
      · simp only [cCmp, cE2, sev, svl, cen, List.cons_append, List.nil_append] at h
        omega
    · exact absurd hx (by omega)
  · refine d_put 0 0 (by simp only [cE2, sev, svl, cen, List.cons_append, List.nil_append]; omega) (by simp only [cE2, sev, svl, cen, List.cons_append, List.nil_append]; omega) ?_
    refine d_call (cBG_mono (show 1 ≤ 33 by omega) (m_within (d := 0) hp (x := x) (y := 0) (z := 5))) (by simp [cAs, cE2, sev, svl, cen] <;> omega) ?_
    intro rr M' hq
    obtain ⟨hM', hq⟩ := hq
    rw [hM']
    rcases hq with ⟨rfl, q1⟩ | ⟨rfl, q1⟩
    · refine ⟨rfl, ?_⟩
      refine d_br (fun h => ?_) (fun h => ?_)
      · clear h
        exact absurd q1 hx
      · simp only [cCmp, cE2, sev, svl, cen, List.cons_append, List.nil_append] at h
        omega
    · refine ⟨rfl, ?_⟩
      refine d_br (fun h => ?_) (fun h => ?_)
      · simp only [cCmp, cE2, sev, svl, cen, List.cons_append, List.nil_append] at h
        omega
      · clear h
        refine d_put 0 0 (by simp only [cE2, sev, svl, cen, List.cons_append, List.nil_append]; omega) (by simp only [cE2, sev, svl, cen, List.cons_append, List.nil_append]; omega) ?_
        exact d_ret [(-1)] rfl (by decide) (Or.inl ⟨hx, rfl, rfl⟩)
end CO15
