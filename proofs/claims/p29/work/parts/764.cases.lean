/-! the law's cases by function -/
def lvN : SL := [(0, 3, 0, (0, [])), (1, 2, 0, (0, [])), (2, 2, 1, (0, [])), (3, 2, 2, (0, [])), (4, 0, 0, (0, [(0, 1)]))]
abbrev lS26 : List CN := [(6, 0, 0, [(0, 0, (1, [(0, 1)]))]), (11, 0, 0, [(0, 0, (1, [(0, 1)]))]), (4, 0, 34, [(0, 0, (0, [(1, 1)]))]), (6, 0, 0, [(0, 0, (2, [(0, 1)]))]), (11, 0, 0, [(0, 0, (2, [(0, 1)]))]), (6, 0, 0, [(0, 0, (3, [(0, 1)]))]), (11, 0, 0, [(0, 0, (3, [(0, 1)]))]), (6, 0, 0, [(0, 0, (4, [(0, 1)]))]), (11, 0, 0, [(0, 0, (4, [(0, 1)]))]), (6, 0, 0, [(0, 0, (5, [(0, 1)]))]), (11, 0, 0, [(0, 0, (5, [(0, 1)]))]), (8, 15, 1, [(2, 0, (0, [])), (0, 0, (0, [])), (0, 0, (0, [(2, 1)])), (0, 0, (0, [(3, 1)])), (0, 0, (0, [(4, 1)])), (0, 0, (0, [(5, 1)]))]), (6, 0, 0, [(0, 0, (1, [(0, 1)]))]), (11, 0, 0, [(0, 0, (1, [(0, 1)]))]), (4, 0, 11, [(0, 0, (0, [(7, 1)]))]), (6, 0, 0, [(0, 0, (2, [(0, 1)]))]), (11, 0, 0, [(0, 0, (2, [(0, 1)]))]), (6, 0, 0, [(0, 0, (3, [(0, 1)]))]), (11, 0, 0, [(0, 0, (3, [(0, 1)]))]), (6, 0, 0, [(0, 0, (4, [(0, 1)]))]), (11, 0, 0, [(0, 0, (4, [(0, 1)]))]), (6, 0, 0, [(0, 0, (5, [(0, 1)]))]), (11, 0, 0, [(0, 0, (5, [(0, 1)]))]), (8, 155, 1, [(2, 1, (0, [])), (0, 0, (0, [])), (0, 0, (0, [(8, 1)])), (0, 0, (0, [(9, 1)])), (0, 0, (0, [(10, 1)])), (0, 0, (0, [(11, 1)]))]), (6, 0, 0, [(0, 0, (7, [(0, 1)]))]), (9, 23, 0, [(0, 0, (7, [(0, 1)]))]), (6, 0, 0, [(0, 0, (2, [(0, 1)]))]), (11, 0, 0, [(0, 0, (2, [(0, 1)]))]), (6, 0, 0, [(0, 0, (3, [(0, 1)]))]), (11, 0, 0, [(0, 0, (3, [(0, 1)]))]), (6, 0, 0, [(0, 0, (4, [(0, 1)]))]), (11, 0, 0, [(0, 0, (4, [(0, 1)]))]), (6, 0, 0, [(0, 0, (5, [(0, 1)]))]), (11, 0, 0, [(0, 0, (5, [(0, 1)]))]), (8, 155, 1, [(2, 1, (0, [])), (0, 0, (1, [])), (0, 0, (0, [(8, 1)])), (0, 0, (0, [(9, 1)])), (0, 0, (0, [(10, 1)])), (0, 0, (0, [(11, 1)]))]), (6, 0, 0, [(0, 0, (7, [(0, 1)]))]), (9, 23, 0, [(0, 0, (7, [(0, 1)]))]), (6, 0, 0, [(0, 0, (2, [(0, 1)]))]), (11, 0, 0, [(0, 0, (2, [(0, 1)]))]), (6, 0, 0, [(0, 0, (3, [(0, 1)]))]), (11, 0, 0, [(0, 0, (3, [(0, 1)]))]), (6, 0, 0, [(0, 0, (4, [(0, 1)]))]), (11, 0, 0, [(0, 0, (4, [(0, 1)]))]), (6, 0, 0, [(0, 0, (5, [(0, 1)]))]), (11, 0, 0, [(0, 0, (5, [(0, 1)]))]), (8, 15, 1, [(2, 0, (0, [])), (0, 0, (1, [])), (0, 0, (0, [(2, 1)])), (0, 0, (0, [(3, 1)])), (0, 0, (0, [(4, 1)])), (0, 0, (0, [(5, 1)]))]), (6, 0, 0, [(0, 0, (1, [(0, 1)]))]), (11, 0, 0, [(0, 0, (1, [(0, 1)]))]), (4, 0, 11, [(0, 0, (0, [(7, 1)]))]), (6, 0, 0, [(0, 0, (2, [(0, 1)]))]), (11, 0, 0, [(0, 0, (2, [(0, 1)]))]), (6, 0, 0, [(0, 0, (3, [(0, 1)]))]), (11, 0, 0, [(0, 0, (3, [(0, 1)]))]), (6, 0, 0, [(0, 0, (4, [(0, 1)]))]), (11, 0, 0, [(0, 0, (4, [(0, 1)]))]), (6, 0, 0, [(0, 0, (5, [(0, 1)]))]), (11, 0, 0, [(0, 0, (5, [(0, 1)]))]), (8, 155, 1, [(2, 1, (0, [])), (0, 0, (0, [])), (0, 0, (0, [(8, 1)])), (0, 0, (0, [(9, 1)])), (0, 0, (0, [(10, 1)])), (0, 0, (0, [(11, 1)]))]), (6, 0, 0, [(0, 0, (7, [(0, 1)]))]), (9, 23, 0, [(0, 0, (7, [(0, 1)]))]), (6, 0, 0, [(0, 0, (2, [(0, 1)]))]), (11, 0, 0, [(0, 0, (2, [(0, 1)]))]), (6, 0, 0, [(0, 0, (3, [(0, 1)]))]), (11, 0, 0, [(0, 0, (3, [(0, 1)]))]), (6, 0, 0, [(0, 0, (4, [(0, 1)]))]), (11, 0, 0, [(0, 0, (4, [(0, 1)]))]), (6, 0, 0, [(0, 0, (5, [(0, 1)]))]), (11, 0, 0, [(0, 0, (5, [(0, 1)]))]), (8, 155, 1, [(2, 1, (0, [])), (0, 0, (1, [])), (0, 0, (0, [(8, 1)])), (0, 0, (0, [(9, 1)])), (0, 0, (0, [(10, 1)])), (0, 0, (0, [(11, 1)]))]), (6, 0, 0, [(0, 0, (7, [(0, 1)]))]), (9, 23, 0, [(0, 0, (7, [(0, 1)]))])]
theorem lS26_ok : cchk1 tm tc tf [(23, lvN)] 0 1000 (1307, lvN, 1, lS26) = true := by decide +kernel
abbrev lS27 : List CN := [(6, 0, 0, [(0, 0, (1, [(0, 1)]))]), (11, 0, 0, [(0, 0, (1, [(0, 1)]))]), (8, 14, 1, [(2, 0, (0, [])), (0, 0, (0, [(1, 1)]))]), (6, 0, 0, [(0, 0, (1, [(0, 1)]))]), (11, 0, 0, [(0, 0, (1, [(0, 1)]))]), (8, 154, 1, [(2, 1, (0, [])), (0, 0, (0, [(3, 1)]))]), (4, 0, 2, [(0, 0, (0, [(2, 1), (4, -1)]))]), (6, 0, 0, [(0, 0, (7, [(0, 1)]))]), (9, 23, 0, [(0, 0, (7, [(0, 1)]))]), (10, 1, 0, [(0, 0, (0, []))])]
theorem lS27_ok : cchk1 tm tc tf [(23, lvN)] 0 1000 (1396, lvN, 1, lS27) = true := by decide +kernel
abbrev lS28 : List CN := [(6, 0, 0, [(0, 0, (1, [(0, 1)]))]), (11, 0, 0, [(0, 0, (1, [(0, 1)]))]), (8, 10, 1, [(2, 0, (0, [])), (0, 0, (0, [(1, 1)]))]), (6, 0, 0, [(0, 0, (1, [(0, 1)]))]), (11, 0, 0, [(0, 0, (1, [(0, 1)]))]), (8, 153, 1, [(2, 1, (0, [])), (0, 0, (0, [(3, 1)]))]), (6, 0, 0, [(0, 0, (7, [(0, 1)]))]), (9, 23, 0, [(0, 0, (7, [(0, 1)]))])]
theorem lS28_ok : cchk1 tm tc tf [(23, lvN)] 0 1000 (1421, lvN, 1, lS28) = true := by decide +kernel
def lE (EX : SEx) (l : Launch) (dC : Nat → ClassId) (dI : Nat → Nat → Nat) (cA : Nat → ClassId) (ad : SAd) (kc : Nat) (as : List CA) (M : SMem) (post : List Int → SMem → Prop) : Prop := cBG tm tf EX l dC dI cA ad 0 32 kc as M post ∧ ∀ rr M', post rr M' → (∀ i, M' 107 0 i = M 107 0 i) ∧ M' 108 0 0 = M 108 0 0
theorem d_op2 {E : Nat → List CA → SMem → (List Int → SMem → Prop) → Prop} {Qr : List Int → SMem → Prop} {C : Nat → List Int → SMem → Prop} {n : Nat} {r : List CN} {v : List Int} {M : SMem} {a b : Nat} {x y : SV} (p q : Int) (h1 : cE2 v x = p) (h2 : cE2 v y = q) (h : cden E Qr C n r (v ++ [cfn a p q]) M) : cden E Qr C (n + 1) ((5, a, b, [x, y]) :: r) v M := by
  subst h1 h2
  exact h
section LCS
variable {EX : SEx} {l : Launch} {dC : Nat → ClassId} {dI : Nat → Nat → Nat} {cA : Nat → ClassId} {ad : SAd} {L : Nat} {M : SMem} {i n : Nat}
/-- from a case to the loop's head -/
theorem cLaw {p : Program} {e : Env} {R : Room} {s : State} {m : MethodId} {args : Array Value} {below : List Frame} {meth : Method} {c : Code} {Q : State → Prop} {A : Nat → Prop} {scr nc ns f Fd pc : Nat} {xs : Nat → Int32} {Lc : List CN} {ws : va_W} {H : Heap} {locs : List Loc} {ls : Array Slot} {clv : ZL} {v : List Int} {C : List Int → SMem → Prop} (hp : cPl tm tc tf EX) (hchk : cchk1 tm tc tf [(23, lvN)] 0 f (pc, lvN, 1, Lc) = true) (F : sF 33 (RL, yL_law, cL_law, 7, some .boolean, 50, 5000) EX p R s m args c dC dI cA A) (hX : va_X scr L xs s s.heap) (hbl : scr < s.heap.size) (hbA : ¬ A scr) (hnc : nc ≤ R.cells) (hns : ns ≤ R.slots)
    (hC : ∀ (v : List Int) (M : SMem) (ws : va_W) (H : Heap) (locs : List Loc) (ls : Array Slot) (clv : ZL), (M 108 0 0 = (L : Int) ∧ ∀ j, j < L → M 107 0 j = (xs j).toInt) → sH tf ad M cA ws → va_P (dC, dI) vwCl ws H → va_D A ws → va_S A s.heap H locs → lv_has ls 7 clv → sls tf scr (cen v) ad lvN clv → C v M → W p l e R s m args below meth c H locs nc ns Q (F0 m 23 ls []))
    (hv : v.length = 1) (hS0 : M 108 0 0 = (L : Int) ∧ ∀ j, j < L → M 107 0 j = (xs j).toInt) (hH : sH tf ad M cA ws) (hP : va_P (dC, dI) vwCl ws H) (hD : va_D A ws) (hS : va_S A s.heap H locs) (hl : lv_has ls 7 clv) (q6 : sls tf scr (cen v) ad lvN clv) (hd : cden (lE EX l dC dI cA ad) (fun _ _ => False) (fun pc v M => pc = 23 ∧ C v M) Fd Lc v M) : W p l e R s m args below meth c H locs nc ns Q (F0 m pc ls []) := by
  obtain ⟨hEX, hI, hk9, hcl, htab⟩ := hp
  unfold cchk1 at hchk
  cases hst : cstp tm tc tf [(23, lvN)] true 0 (cgo tm tc tf [(23, lvN)] 0 f) 1 pc lvN [] with
  | none => simp only [hst] at hchk; cases hchk
  | some L2 =>
    simp only [hst] at hchk
    have eL := clq_ok cnbeq_ok hchk
    have eL : L2 = Lc := eL
    rw [← eL] at hd
    have hSx : ∀ (M : SMem) (f j i : Nat) (z : Int), f < tf.length → (M 108 0 0 = (L : Int) ∧ ∀ j, j < L → M 107 0 j = (xs j).toInt) → (supd M f j i z 108 0 0 = (L : Int) ∧ ∀ j', j' < L → supd M f j i z 107 0 j' = (xs j').toInt) := by
      intro M f j i z hf h
      have hf : f < 107 := by
        have e : tf.length ≤ 107 := by decide +kernel
        omega
      refine ⟨by rw [supd_f (by omega)]; exact h.1, fun j' hj => by rw [supd_f (by omega)]; exact h.2 j' hj⟩
    have hSxE : ∀ kc as M post, lE EX l dC dI cA ad kc as M post → (M 108 0 0 = (L : Int) ∧ ∀ j, j < L → M 107 0 j = (xs j).toInt) → ∀ rr M', post rr M' → (M' 108 0 0 = (L : Int) ∧ ∀ j, j < L → M' 107 0 j = (xs j).toInt) := by
      intro kc as M post hE h rr M' hpo
      obtain ⟨z1, z2⟩ := hE.2 rr M' hpo
      exact ⟨by rw [z2]; exact h.1, fun j hj => by rw [z1]; exact h.2 j hj⟩
    have hC9 : ∀ (pc : Nat) (T : SL), cfind pc [(23, lvN)] = some T → ∀ (v : List Int) (M : SMem) (ws : va_W) (H : Heap) (locs : List Loc) (ls : Array Slot) (clv : ZL), (M 108 0 0 = (L : Int) ∧ ∀ j, j < L → M 107 0 j = (xs j).toInt) → sH tf ad M cA ws → va_P (dC, dI) vwCl ws H → va_D A ws → va_S A s.heap H locs → lv_has ls 7 clv → sls tf scr (cen v) ad T clv → (pc = 23 ∧ C v M) → W p l e R s m args below meth c H locs nc ns Q (F0 m pc ls []) := by
      intro pc T hf v M ws H locs ls clv h1 h2 h3 h4 h5 h6 h7 h8
      obtain ⟨rfl, h8⟩ := h8
      cases hf
      exact hC v M ws H locs ls clv h1 h2 h3 h4 h5 h6 h7 h8
    have hgo := cgo_ok (k := 0) (E := lE EX l dC dI cA ad) (Qr := fun _ _ => False) (scrS := 0) (nc := nc) (ns := ns) (e := e) (below := below) (meth := meth) (Q := Q) (Sx := fun M => M 108 0 0 = (L : Int) ∧ ∀ j, j < L → M 107 0 j = (xs j).toInt) (scr := scr) (cu := [(23, lvN)]) (zc := tc) hEX hI hk9 hcl htab hSx hSxE (fun _ _ _ _ h => h.1) F rfl rfl hnc hns (fun _ => ⟨L, xs, hX, hbl, hbA, fun M h => h⟩) hC9 (fun _ _ _ _ _ _ _ _ _ _ h => h.elim) f
    exact cstp_ok (k := 0) (E := lE EX l dC dI cA ad) (Qr := fun _ _ => False) (scrS := 0) (nc := nc) (ns := ns) (e := e) (below := below) (meth := meth) (Q := Q) (Sx := fun M => M 108 0 0 = (L : Int) ∧ ∀ j, j < L → M 107 0 j = (xs j).toInt) (scr := scr) (cu := [(23, lvN)]) (zc := tc) hEX hI hk9 hcl htab hSx hSxE (fun _ _ _ _ h => h.1) F rfl rfl hnc hns (fun _ => ⟨L, xs, hX, hbl, hbA, fun M h => h⟩) hC9 (fun _ _ _ _ _ _ _ _ _ _ h => h.elim) hgo hst Fd v M ws H locs ls clv [] hv hS0 hH hP hD hS hl q6 trivial hd
set_option maxHeartbeats 4000000 in
theorem lw26 (hp : cPl tm tc tf EX) (hI : sI tg M) (hR : Rb M) (hX : sX M) (h3 : M 3 0 1 = (n : Int)) (h1 : M 1 0 2 = (n : Int)) (h9 : n ≤ 1000) (hL : M 108 0 0 = (L : Int)) (hi : i + 7 ≤ L) (hL9 : L ≤ 3584) : cden (lE EX l dC dI cA ad) (fun _ _ => False) (fun pc v M2 => pc = 23 ∧ v = [((i + 7 : Nat) : Int)] ∧ Rq M M2) 100 lS26 [(i : Int)] M := by
  have hl : M 3 0 1 = M 1 0 2 := by rw [h3, h1]
  refine d_rng (by simp only [clo, chi, cE2, sev, svl, cen, List.cons_append, List.nil_append]; omega) ?_
  refine d_scr (i + 1) (by simp only [cE2, sev, svl, cen, List.cons_append, List.nil_append]; omega) (by rw [hL]; omega) ?_
  refine d_br (fun h => ?_) (fun h => ?_)
  · refine d_rng (by simp only [clo, chi, cE2, sev, svl, cen, List.cons_append, List.nil_append]; omega) ?_
    refine d_scr (i + 2) (by simp only [cE2, sev, svl, cen, List.cons_append, List.nil_append]; omega) (by rw [hL]; omega) ?_
    refine d_rng (by simp only [clo, chi, cE2, sev, svl, cen, List.cons_append, List.nil_append]; omega) ?_
    refine d_scr (i + 3) (by simp only [cE2, sev, svl, cen, List.cons_append, List.nil_append]; omega) (by rw [hL]; omega) ?_
    refine d_rng (by simp only [clo, chi, cE2, sev, svl, cen, List.cons_append, List.nil_append]; omega) ?_
    refine d_scr (i + 4) (by simp only [cE2, sev, svl, cen, List.cons_append, List.nil_append]; omega) (by rw [hL]; omega) ?_
    refine d_rng (by simp only [clo, chi, cE2, sev, svl, cen, List.cons_append, List.nil_append]; omega) ?_
    refine d_scr (i + 5) (by simp only [cE2, sev, svl, cen, List.cons_append, List.nil_append]; omega) (by rw [hL]; omega) ?_
    refine d_call ⟨b_block (d := 30) hp (gp := 0) (n := M 107 0 (i + 2)) (x := M 107 0 (i + 3)) (y := M 107 0 (i + 4)) (z := M 107 0 (i + 5)), fun rr M9 q => ?_⟩ (by simp [cAs, cE2, sev, svl, cen]) ?_
    · obtain ⟨r, -, q⟩ := wBkX_of q
      exact ⟨fun k => wBkX_fr q 107 0 k (by decide), wBkX_fr q 108 0 0 (by decide)⟩
    intro rr M1 q
    obtain ⟨r, rfl, hx⟩ := wBkX_of q
    refine ⟨rfl, ?_⟩
    have fr := wBkX_fr hx
    have hL1 : M1 108 0 0 = (L : Int) := by rw [fr 108 0 0 (by decide), hL]
    have e107 : M1 107 0 = M 107 0 := by
      funext k
      exact fr 107 0 k (by decide)
    refine d_rng (by simp only [clo, chi, cE2, sev, svl, cen, List.cons_append, List.nil_append]; omega) ?_
    refine d_scr (i + 1) (by simp only [cE2, sev, svl, cen, List.cons_append, List.nil_append]; omega) (by rw [hL1]; omega) ?_
    rw [e107]
    refine d_br (fun hk9 => ?_) (fun hk9 => ?_)
    · refine d_rng (by simp only [clo, chi, cE2, sev, svl, cen, List.cons_append, List.nil_append]; omega) ?_
      refine d_scr (i + 2) (by simp only [cE2, sev, svl, cen, List.cons_append, List.nil_append]; omega) (by rw [hL1]; omega) ?_
      refine d_rng (by simp only [clo, chi, cE2, sev, svl, cen, List.cons_append, List.nil_append]; omega) ?_
      refine d_scr (i + 3) (by simp only [cE2, sev, svl, cen, List.cons_append, List.nil_append]; omega) (by rw [hL1]; omega) ?_
      refine d_rng (by simp only [clo, chi, cE2, sev, svl, cen, List.cons_append, List.nil_append]; omega) ?_
      refine d_scr (i + 4) (by simp only [cE2, sev, svl, cen, List.cons_append, List.nil_append]; omega) (by rw [hL1]; omega) ?_
      refine d_rng (by simp only [clo, chi, cE2, sev, svl, cen, List.cons_append, List.nil_append]; omega) ?_
      refine d_scr (i + 5) (by simp only [cE2, sev, svl, cen, List.cons_append, List.nil_append]; omega) (by rw [hL1]; omega) ?_
      rw [e107]
      refine d_call ⟨m_block (d := 30) hp (gp := 0) (n := M 107 0 (i + 2)) (x := M 107 0 (i + 3)) (y := M 107 0 (i + 4)) (z := M 107 0 (i + 5)), fun rr M9 q => ?_⟩ (by simp [cAs, cE2, sev, svl, cen]) ?_
      · obtain ⟨r, -, q⟩ := wBkM_of q
        exact ⟨fun k => wBkM_fr q 107 0 k (by decide) (by decide) (by decide) (by decide) (by decide) (by decide) (by omega), wBkM_fr q 108 0 0 (by decide) (by decide) (by decide) (by decide) (by decide) (by decide) (by decide)⟩
      intro rr M2 q
      obtain ⟨r', rfl, hm⟩ := wBkM_of q
      refine ⟨rfl, ?_⟩
      obtain ⟨er, hz⟩ := fin_block hI hR hX hl hx hm
      refine d_rng (by simp only [clo, chi, cE2, sev, svl, cen, List.cons_append, List.nil_append]; omega) ?_
      exact d_cut [((i + 7 : Nat) : Int)] (by simp [cE2, sev, svl, cen] <;> omega) ⟨rfl, rfl, hz⟩
    · exact absurd (show False by (have hh := h; have hk := hk9; simp only [cCmp, cE2, sev, svl, cen, List.cons_append, List.nil_append] at hh hk; omega)) id
  · refine d_rng (by simp only [clo, chi, cE2, sev, svl, cen, List.cons_append, List.nil_append]; omega) ?_
    refine d_scr (i + 2) (by simp only [cE2, sev, svl, cen, List.cons_append, List.nil_append]; omega) (by rw [hL]; omega) ?_
    refine d_rng (by simp only [clo, chi, cE2, sev, svl, cen, List.cons_append, List.nil_append]; omega) ?_
    refine d_scr (i + 3) (by simp only [cE2, sev, svl, cen, List.cons_append, List.nil_append]; omega) (by rw [hL]; omega) ?_
    refine d_rng (by simp only [clo, chi, cE2, sev, svl, cen, List.cons_append, List.nil_append]; omega) ?_
    refine d_scr (i + 4) (by simp only [cE2, sev, svl, cen, List.cons_append, List.nil_append]; omega) (by rw [hL]; omega) ?_
    refine d_rng (by simp only [clo, chi, cE2, sev, svl, cen, List.cons_append, List.nil_append]; omega) ?_
    refine d_scr (i + 5) (by simp only [cE2, sev, svl, cen, List.cons_append, List.nil_append]; omega) (by rw [hL]; omega) ?_
    refine d_call ⟨b_block (d := 30) hp (gp := 1) (n := M 107 0 (i + 2)) (x := M 107 0 (i + 3)) (y := M 107 0 (i + 4)) (z := M 107 0 (i + 5)), fun rr M9 q => ?_⟩ (by simp [cAs, cE2, sev, svl, cen]) ?_
    · obtain ⟨r, -, q⟩ := wBkX_of q
      exact ⟨fun k => wBkX_fr q 107 0 k (by decide), wBkX_fr q 108 0 0 (by decide)⟩
    intro rr M1 q
    obtain ⟨r, rfl, hx⟩ := wBkX_of q
    refine ⟨rfl, ?_⟩
    have fr := wBkX_fr hx
    have hL1 : M1 108 0 0 = (L : Int) := by rw [fr 108 0 0 (by decide), hL]
    have e107 : M1 107 0 = M 107 0 := by
      funext k
      exact fr 107 0 k (by decide)
    refine d_rng (by simp only [clo, chi, cE2, sev, svl, cen, List.cons_append, List.nil_append]; omega) ?_
    refine d_scr (i + 1) (by simp only [cE2, sev, svl, cen, List.cons_append, List.nil_append]; omega) (by rw [hL1]; omega) ?_
    rw [e107]
    refine d_br (fun hk9 => ?_) (fun hk9 => ?_)
    · exact absurd (show False by (have hh := h; have hk := hk9; simp only [cCmp, cE2, sev, svl, cen, List.cons_append, List.nil_append] at hh hk; omega)) id
    · refine d_rng (by simp only [clo, chi, cE2, sev, svl, cen, List.cons_append, List.nil_append]; omega) ?_
      refine d_scr (i + 2) (by simp only [cE2, sev, svl, cen, List.cons_append, List.nil_append]; omega) (by rw [hL1]; omega) ?_
      refine d_rng (by simp only [clo, chi, cE2, sev, svl, cen, List.cons_append, List.nil_append]; omega) ?_
      refine d_scr (i + 3) (by simp only [cE2, sev, svl, cen, List.cons_append, List.nil_append]; omega) (by rw [hL1]; omega) ?_
      refine d_rng (by simp only [clo, chi, cE2, sev, svl, cen, List.cons_append, List.nil_append]; omega) ?_
      refine d_scr (i + 4) (by simp only [cE2, sev, svl, cen, List.cons_append, List.nil_append]; omega) (by rw [hL1]; omega) ?_
      refine d_rng (by simp only [clo, chi, cE2, sev, svl, cen, List.cons_append, List.nil_append]; omega) ?_
      refine d_scr (i + 5) (by simp only [cE2, sev, svl, cen, List.cons_append, List.nil_append]; omega) (by rw [hL1]; omega) ?_
      rw [e107]
      refine d_call ⟨m_block (d := 30) hp (gp := 1) (n := M 107 0 (i + 2)) (x := M 107 0 (i + 3)) (y := M 107 0 (i + 4)) (z := M 107 0 (i + 5)), fun rr M9 q => ?_⟩ (by simp [cAs, cE2, sev, svl, cen]) ?_
      · obtain ⟨r, -, q⟩ := wBkM_of q
        exact ⟨fun k => wBkM_fr q 107 0 k (by decide) (by decide) (by decide) (by decide) (by decide) (by decide) (by omega), wBkM_fr q 108 0 0 (by decide) (by decide) (by decide) (by decide) (by decide) (by decide) (by decide)⟩
      intro rr M2 q
      obtain ⟨r', rfl, hm⟩ := wBkM_of q
      refine ⟨rfl, ?_⟩
      obtain ⟨er, hz⟩ := fin_block hI hR hX hl hx hm
      refine d_rng (by simp only [clo, chi, cE2, sev, svl, cen, List.cons_append, List.nil_append]; omega) ?_
      exact d_cut [((i + 7 : Nat) : Int)] (by simp [cE2, sev, svl, cen] <;> omega) ⟨rfl, rfl, hz⟩
set_option maxHeartbeats 4000000 in
theorem lw27 (hp : cPl tm tc tf EX) (hI : sI tg M) (hR : Rb M) (hX : sX M) (h3 : M 3 0 1 = (n : Int)) (h1 : M 1 0 2 = (n : Int)) (h9 : n ≤ 1000) (hL : M 108 0 0 = (L : Int)) (hi : i + 7 ≤ L) (hL9 : L ≤ 3584) : cden (lE EX l dC dI cA ad) (fun _ _ => False) (fun pc v M2 => pc = 23 ∧ v = [((i + 7 : Nat) : Int)] ∧ Rq M M2) 100 lS27 [(i : Int)] M := by
  have hl : M 3 0 1 = M 1 0 2 := by rw [h3, h1]
  refine d_rng (by simp only [clo, chi, cE2, sev, svl, cen, List.cons_append, List.nil_append]; omega) ?_
  refine d_scr (i + 1) (by simp only [cE2, sev, svl, cen, List.cons_append, List.nil_append]; omega) (by rw [hL]; omega) ?_
  refine d_call ⟨b_ways (d := 21) hp (w := M 107 0 (i + 1)) hI hR.2.2.2.2, fun rr M9 q => ⟨fun k => q.1.2.1 107 0 k (by decide) (by decide), q.1.2.1 108 0 0 (by decide) (by decide)⟩⟩ (by simp [cAs, cE2, sev, svl, cen]) ?_
  rintro rr M1 ⟨kx, r, rfl, hx⟩
  refine ⟨rfl, ?_⟩
  have fr := kx.2.1
  have hL1 : M1 108 0 0 = (L : Int) := by rw [fr 108 0 0 (by decide) (by decide), hL]
  have e107 : M1 107 0 = M 107 0 := by
    funext k
    exact fr 107 0 k (by decide) (by decide)
  refine d_rng (by simp only [clo, chi, cE2, sev, svl, cen, List.cons_append, List.nil_append]; omega) ?_
  refine d_scr (i + 1) (by simp only [cE2, sev, svl, cen, List.cons_append, List.nil_append]; omega) (by rw [hL1]; omega) ?_
  rw [e107]
  refine d_call ⟨m_ways (d := 21) hp (w := M 107 0 (i + 1)) kx.1, fun rr M9 q => ⟨fun k => q.1.2 107 0 k (by decide) (by decide) (by omega), q.1.2 108 0 0 (by decide) (by decide) (by decide)⟩⟩ (by simp [cAs, cE2, sev, svl, cen]) ?_
  rintro rr M2 ⟨km, r', rfl, hm⟩
  refine ⟨rfl, ?_⟩
  have hz := fin_ask hX hR hl kx km
  have row : ∀ f, f ≠ 90 → f ≠ 11 → M1 f 0 = M f 0 := fun f z1 z2 => by
    funext k
    exact fr f 0 k z1 z2
  rw [row 51 (by decide) (by decide), row 52 (by decide) (by decide), row 53 (by decide) (by decide), row 54 (by decide) (by decide)] at hm
  have er := fin_ways hR hx hm
  refine d_br (fun h => ?_) (fun h => ?_)
  · refine d_rng (by simp only [clo, chi, cE2, sev, svl, cen, List.cons_append, List.nil_append]; omega) ?_
    exact d_cut [((i + 7 : Nat) : Int)] (by simp [cE2, sev, svl, cen] <;> omega) ⟨rfl, rfl, hz⟩
  · simp only [cCmp, cE2, sev, svl, cen, List.cons_append, List.nil_append] at h
    omega
set_option maxHeartbeats 4000000 in
theorem lw28 (hp : cPl tm tc tf EX) (hI : sI tg M) (hR : Rb M) (hX : sX M) (h3 : M 3 0 1 = (n : Int)) (h1 : M 1 0 2 = (n : Int)) (h9 : n ≤ 1000) (hL : M 108 0 0 = (L : Int)) (hi : i + 7 ≤ L) (hL9 : L ≤ 3584) : cden (lE EX l dC dI cA ad) (fun _ _ => False) (fun pc v M2 => pc = 23 ∧ v = [((i + 7 : Nat) : Int)] ∧ Rq M M2) 100 lS28 [(i : Int)] M := by
  have hl : M 3 0 1 = M 1 0 2 := by rw [h3, h1]
  refine d_rng (by simp only [clo, chi, cE2, sev, svl, cen, List.cons_append, List.nil_append]; omega) ?_
  refine d_scr (i + 1) (by simp only [cE2, sev, svl, cen, List.cons_append, List.nil_append]; omega) (by rw [hL]; omega) ?_
  refine d_call ⟨b_back (d := 21) hp (b := M 107 0 (i + 1)) hI hR.2.2.2.2, fun rr M9 q => ⟨fun k => q.1.2.1 107 0 k (by decide) (by decide), q.1.2.1 108 0 0 (by decide) (by decide)⟩⟩ (by simp [cAs, cE2, sev, svl, cen]) ?_
  rintro rr M1 ⟨kx, r, rfl, hx⟩
  refine ⟨rfl, ?_⟩
  have fr := kx.2.1
  have hL1 : M1 108 0 0 = (L : Int) := by rw [fr 108 0 0 (by decide) (by decide), hL]
  have e107 : M1 107 0 = M 107 0 := by
    funext k
    exact fr 107 0 k (by decide) (by decide)
  refine d_rng (by simp only [clo, chi, cE2, sev, svl, cen, List.cons_append, List.nil_append]; omega) ?_
  refine d_scr (i + 1) (by simp only [cE2, sev, svl, cen, List.cons_append, List.nil_append]; omega) (by rw [hL1]; omega) ?_
  rw [e107]
  refine d_call ⟨m_back (d := 21) hp (b := M 107 0 (i + 1)) kx.1, fun rr M9 q => ⟨fun k => q.1.2 107 0 k (by decide) (by decide) (by omega), q.1.2 108 0 0 (by decide) (by decide) (by decide)⟩⟩ (by simp [cAs, cE2, sev, svl, cen]) ?_
  rintro rr M2 ⟨km, r', rfl, hm⟩
  refine ⟨rfl, ?_⟩
  have hz := fin_ask hX hR hl kx km
  refine d_rng (by simp only [clo, chi, cE2, sev, svl, cen, List.cons_append, List.nil_append]; omega) ?_
  exact d_cut [((i + 7 : Nat) : Int)] (by simp [cE2, sev, svl, cen] <;> omega) ⟨rfl, rfl, hz⟩
end LCS
