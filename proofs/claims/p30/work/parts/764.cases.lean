/-! the law's cases by function -/
def lvN : SL := [(0, 3, 0, (0, [])), (1, 2, 0, (0, [])), (2, 2, 1, (0, [])), (3, 2, 2, (0, [])), (4, 0, 0, (0, [(0, 1)]))]
abbrev lS26 : List CN := [(6, 0, 0, [(0, 0, (1, [(0, 1)]))]), (11, 0, 0, [(0, 0, (1, [(0, 1)]))]), (4, 0, 34, [(0, 0, (0, [(1, 1)]))]), (6, 0, 0, [(0, 0, (2, [(0, 1)]))]), (11, 0, 0, [(0, 0, (2, [(0, 1)]))]), (6, 0, 0, [(0, 0, (3, [(0, 1)]))]), (11, 0, 0, [(0, 0, (3, [(0, 1)]))]), (6, 0, 0, [(0, 0, (4, [(0, 1)]))]), (11, 0, 0, [(0, 0, (4, [(0, 1)]))]), (6, 0, 0, [(0, 0, (5, [(0, 1)]))]), (11, 0, 0, [(0, 0, (5, [(0, 1)]))]), (8, 15, 1, [(2, 0, (0, [])), (0, 0, (0, [])), (0, 0, (0, [(2, 1)])), (0, 0, (0, [(3, 1)])), (0, 0, (0, [(4, 1)])), (0, 0, (0, [(5, 1)]))]), (6, 0, 0, [(0, 0, (1, [(0, 1)]))]), (11, 0, 0, [(0, 0, (1, [(0, 1)]))]), (4, 0, 11, [(0, 0, (0, [(7, 1)]))]), (6, 0, 0, [(0, 0, (2, [(0, 1)]))]), (11, 0, 0, [(0, 0, (2, [(0, 1)]))]), (6, 0, 0, [(0, 0, (3, [(0, 1)]))]), (11, 0, 0, [(0, 0, (3, [(0, 1)]))]), (6, 0, 0, [(0, 0, (4, [(0, 1)]))]), (11, 0, 0, [(0, 0, (4, [(0, 1)]))]), (6, 0, 0, [(0, 0, (5, [(0, 1)]))]), (11, 0, 0, [(0, 0, (5, [(0, 1)]))]), (8, 155, 1, [(2, 1, (0, [])), (0, 0, (0, [])), (0, 0, (0, [(8, 1)])), (0, 0, (0, [(9, 1)])), (0, 0, (0, [(10, 1)])), (0, 0, (0, [(11, 1)]))]), (6, 0, 0, [(0, 0, (7, [(0, 1)]))]), (9, 23, 0, [(0, 0, (7, [(0, 1)]))]), (6, 0, 0, [(0, 0, (2, [(0, 1)]))]), (11, 0, 0, [(0, 0, (2, [(0, 1)]))]), (6, 0, 0, [(0, 0, (3, [(0, 1)]))]), (11, 0, 0, [(0, 0, (3, [(0, 1)]))]), (6, 0, 0, [(0, 0, (4, [(0, 1)]))]), (11, 0, 0, [(0, 0, (4, [(0, 1)]))]), (6, 0, 0, [(0, 0, (5, [(0, 1)]))]), (11, 0, 0, [(0, 0, (5, [(0, 1)]))]), (8, 155, 1, [(2, 1, (0, [])), (0, 0, (1, [])), (0, 0, (0, [(8, 1)])), (0, 0, (0, [(9, 1)])), (0, 0, (0, [(10, 1)])), (0, 0, (0, [(11, 1)]))]), (6, 0, 0, [(0, 0, (7, [(0, 1)]))]), (9, 23, 0, [(0, 0, (7, [(0, 1)]))]), (6, 0, 0, [(0, 0, (2, [(0, 1)]))]), (11, 0, 0, [(0, 0, (2, [(0, 1)]))]), (6, 0, 0, [(0, 0, (3, [(0, 1)]))]), (11, 0, 0, [(0, 0, (3, [(0, 1)]))]), (6, 0, 0, [(0, 0, (4, [(0, 1)]))]), (11, 0, 0, [(0, 0, (4, [(0, 1)]))]), (6, 0, 0, [(0, 0, (5, [(0, 1)]))]), (11, 0, 0, [(0, 0, (5, [(0, 1)]))]), (8, 15, 1, [(2, 0, (0, [])), (0, 0, (1, [])), (0, 0, (0, [(2, 1)])), (0, 0, (0, [(3, 1)])), (0, 0, (0, [(4, 1)])), (0, 0, (0, [(5, 1)]))]), (6, 0, 0, [(0, 0, (1, [(0, 1)]))]), (11, 0, 0, [(0, 0, (1, [(0, 1)]))]), (4, 0, 11, [(0, 0, (0, [(7, 1)]))]), (6, 0, 0, [(0, 0, (2, [(0, 1)]))]), (11, 0, 0, [(0, 0, (2, [(0, 1)]))]), (6, 0, 0, [(0, 0, (3, [(0, 1)]))]), (11, 0, 0, [(0, 0, (3, [(0, 1)]))]), (6, 0, 0, [(0, 0, (4, [(0, 1)]))]), (11, 0, 0, [(0, 0, (4, [(0, 1)]))]), (6, 0, 0, [(0, 0, (5, [(0, 1)]))]), (11, 0, 0, [(0, 0, (5, [(0, 1)]))]), (8, 155, 1, [(2, 1, (0, [])), (0, 0, (0, [])), (0, 0, (0, [(8, 1)])), (0, 0, (0, [(9, 1)])), (0, 0, (0, [(10, 1)])), (0, 0, (0, [(11, 1)]))]), (6, 0, 0, [(0, 0, (7, [(0, 1)]))]), (9, 23, 0, [(0, 0, (7, [(0, 1)]))]), (6, 0, 0, [(0, 0, (2, [(0, 1)]))]), (11, 0, 0, [(0, 0, (2, [(0, 1)]))]), (6, 0, 0, [(0, 0, (3, [(0, 1)]))]), (11, 0, 0, [(0, 0, (3, [(0, 1)]))]), (6, 0, 0, [(0, 0, (4, [(0, 1)]))]), (11, 0, 0, [(0, 0, (4, [(0, 1)]))]), (6, 0, 0, [(0, 0, (5, [(0, 1)]))]), (11, 0, 0, [(0, 0, (5, [(0, 1)]))]), (8, 155, 1, [(2, 1, (0, [])), (0, 0, (1, [])), (0, 0, (0, [(8, 1)])), (0, 0, (0, [(9, 1)])), (0, 0, (0, [(10, 1)])), (0, 0, (0, [(11, 1)]))]), (6, 0, 0, [(0, 0, (7, [(0, 1)]))]), (9, 23, 0, [(0, 0, (7, [(0, 1)]))])]
theorem lS26_ok : cchk1 tm tc tf [(23, lvN)] 0 1000 (1307, lvN, 1, lS26) = true := by decide +kernel
abbrev lS27 : List CN := [(6, 0, 0, [(0, 0, (1, [(0, 1)]))]), (11, 0, 0, [(0, 0, (1, [(0, 1)]))]), (8, 14, 1, [(2, 0, (0, [])), (0, 0, (0, [(1, 1)]))]), (6, 0, 0, [(0, 0, (1, [(0, 1)]))]), (11, 0, 0, [(0, 0, (1, [(0, 1)]))]), (8, 154, 1, [(2, 1, (0, [])), (0, 0, (0, [(3, 1)]))]), (6, 0, 0, [(0, 0, (7, [(0, 1)]))]), (9, 23, 0, [(0, 0, (7, [(0, 1)]))])]
theorem lS27_ok : cchk1 tm tc tf [(23, lvN)] 0 1000 (1396, lvN, 1, lS27) = true := by decide +kernel
abbrev lS28 : List CN := [(6, 0, 0, [(0, 0, (1, [(0, 1)]))]), (11, 0, 0, [(0, 0, (1, [(0, 1)]))]), (8, 10, 1, [(2, 0, (0, [])), (0, 0, (0, [(1, 1)]))]), (6, 0, 0, [(0, 0, (1, [(0, 1)]))]), (11, 0, 0, [(0, 0, (1, [(0, 1)]))]), (8, 153, 1, [(2, 1, (0, [])), (0, 0, (0, [(3, 1)]))]), (4, 0, 2, [(0, 0, (0, [(2, 1), (4, -1)]))]), (6, 0, 0, [(0, 0, (7, [(0, 1)]))]), (9, 23, 0, [(0, 0, (7, [(0, 1)]))]), (10, 1, 0, [(0, 0, (0, []))])]
theorem lS28_ok : cchk1 tm tc tf [(23, lvN)] 0 1000 (1421, lvN, 1, lS28) = true := by decide +kernel
def lE (EX : SEx) (l : Launch) (dC : Nat → ClassId) (dI : Nat → Nat → Nat) (cA : Nat → ClassId) (ad : SAd) (kc : Nat) (as : List CA) (M : SMem) (post : List Int → SMem → Prop) : Prop := cBG tm tf EX l dC dI cA ad 0 32 kc as M post ∧ ∀ rr M', post rr M' → (∀ i, M' 107 0 i = M 107 0 i) ∧ M' 108 0 0 = M 108 0 0
def Rs (M M2 : SMem) : Prop := sI tg M2 ∧ Rb M2 ∧ sX M2 ∧ ∀ f j i, f ∉ lDB → M2 f j i = M f j i
theorem Rs_mk {M M1 M2 : SMem} (hX : sX M) (i2 : sI tg M2) (f1 : ∀ f j i, f ∉ lDX → M1 f j i = M f j i) (f2 : ∀ f j i, f ≠ 51 → f ≠ 52 → f ≠ 53 → f ≠ 54 → f ≠ 55 → f ≠ 56 → ¬ (f = 1 ∧ (i = 0 ∨ i = 56)) → M2 f j i = M1 f j i) (hb : Rb M2) : Rs M M2 := by
  have fr : ∀ f j i, f ∉ lDB → M2 f j i = M f j i := fun f j i z => by
    simp only [lDB, List.mem_cons, List.not_mem_nil, or_false, not_or] at z
    rw [f2 f j i (by omega) (by omega) (by omega) (by omega) (by omega) (by omega) (by omega), f1 f j i (by simp only [lDX, List.mem_cons, List.not_mem_nil, or_false, not_or]; omega)]
  have e : ∀ f, f ∉ lDB → M2 f = M f := fun f z => by
    funext j i
    exact fr f j i z
  exact ⟨i2, hb, sX_congr (e 29 (by decide)) (e 27 (by decide)) (e 50 (by decide)) hX, fr⟩
theorem fin_block2 {M M1 M2 : SMem} {gp n x y z r r' : Int} (hI : sI tg M) (hR : Rb M) (hX : sX M) (hx : wBkX M gp n x y z r M1) (hm : wBkM M1 gp n x y z r' M2) : r = r' ∧ Rs M M2 := by
  have f1 := wBkX_fr hx
  have f2 := wBkM_fr hm
  obtain ⟨g1, g2, g3, g4, g5⟩ := hR
  obtain ⟨S, rfl, rfl⟩ | ⟨S, rfl, rfl⟩ := hx
  · obtain ⟨-, rfl, rfl⟩ | ⟨S', -, -⟩ := hm
    · refine ⟨rfl, Rs_mk hX ?_ f1 f2 ?_⟩
      · have i1 : sI tg (bTell M (if gp = 0 then n.toNat else n.toNat + 6) x y z) := wI (lo := 0) (hi := 1) (wI (lo := 0) (hi := 9) (wI (lo := 0) (hi := 999) (wI (lo := 0) (hi := 999) (wI (lo := 0) (hi := 1) hI rfl ⟨by omega, by omega⟩) rfl ⟨by omega, by omega⟩) rfl ⟨by omega, by omega⟩) rfl ⟨by omega, by omega⟩) rfl ⟨by omega, by omega⟩
        exact wI (lo := 0) (hi := 9) (wI (lo := 0) (hi := 999) (wI (lo := 0) (hi := 999) (wI (lo := 0) (hi := 1) (wI (lo := 0) (hi := 1) i1 rfl ⟨by omega, by omega⟩) rfl ⟨by omega, by omega⟩) rfl ⟨by omega, by omega⟩) rfl ⟨by omega, by omega⟩) rfl ⟨by omega, by omega⟩
      · unfold Rb
        generalize (if gp = 0 then n.toNat else n.toNat + 6) = a
        refine ⟨?_, ?_, ?_, ?_, fun z => absurd ?_ z⟩
        · funext k
          have := congrFun g1 k
          by_cases e : k = a <;> simp [bTellM, bTell, supd, e, this]
        · funext k
          have := congrFun g2 k
          by_cases e : k = a <;> simp [bTellM, bTell, supd, e, this]
        · funext k
          have := congrFun g3 k
          by_cases e : k = a <;> simp [bTellM, bTell, supd, e, this]
        · funext k
          have := congrFun g4 k
          by_cases e : k = a <;> simp [bTellM, bTell, supd, e, this]
        · simp [bTellM, bTell, supd]
    · exact absurd S S'
  · obtain ⟨S', -, -⟩ | ⟨-, rfl, rfl⟩ := hm
    · exact absurd S' S
    · refine ⟨rfl, Rs_mk hX (wI (lo := 0) (hi := 1) hI rfl ⟨by omega, by omega⟩) f1 f2 (Rr_congr (fun f hf => supd_ff (fun z => ?_)) ⟨g1, g2, g3, g4, g5⟩)⟩
      rw [z] at hf
      revert hf
      decide
theorem fin_ask2 {M M1 M2 : SMem} (hX : sX M) (hR : Rb M) (hx : sI tg M1 ∧ (∀ f j i, f ≠ 90 → f ≠ 11 → M1 f j i = M f j i) ∧ (M1 11 0 6 ≠ 0 → bOk M1)) (hm : sI tg M2 ∧ (∀ f j i, f ≠ 55 → f ≠ 56 → ¬ (f = 1 ∧ (i = 0 ∨ i = 56)) → M2 f j i = M1 f j i)) : Rs M M2 := by
  obtain ⟨i1, f1, k1⟩ := hx
  obtain ⟨i2, f2⟩ := hm
  obtain ⟨g1, g2, g3, g4, -⟩ := hR
  have r1 : Rb M1 := by
    have e : ∀ f, f ≠ 90 → f ≠ 11 → M1 f 0 = M f 0 := fun f z1 z2 => by
      funext i
      exact f1 f 0 i z1 z2
    refine ⟨?_, ?_, ?_, ?_, k1⟩
    · rw [e 86 (by decide) (by decide), e 51 (by decide) (by decide), g1]
    · rw [e 87 (by decide) (by decide), e 52 (by decide) (by decide), g2]
    · rw [e 88 (by decide) (by decide), e 53 (by decide) (by decide), g3]
    · rw [e 89 (by decide) (by decide), e 54 (by decide) (by decide), g4]
  refine Rs_mk hX i2 (fun f j i z => f1 f j i (fun q => z (by rw [q]; decide)) (fun q => z (by rw [q]; decide))) (fun f j i _ _ _ _ z5 z6 z7 => f2 f j i z5 z6 z7) (Rr_congr (fun f hf => ?_) r1)
  funext j i
  refine f2 f j i ?_ ?_ ?_
  · intro z; rw [z] at hf; revert hf; decide
  · intro z; rw [z] at hf; revert hf; decide
  · intro z; rw [z.1] at hf; revert hf; decide
theorem d_op2 {E : Nat → List CA → SMem → (List Int → SMem → Prop) → Prop} {Qr : List Int → SMem → Prop} {C : Nat → List Int → SMem → Prop} {n : Nat} {r : List CN} {v : List Int} {M : SMem} {a b : Nat} {x y : SV} (p q : Int) (h1 : cE2 v x = p) (h2 : cE2 v y = q) (h : cden E Qr C n r (v ++ [cfn a p q]) M) : cden E Qr C (n + 1) ((5, a, b, [x, y]) :: r) v M := by
  subst h1 h2
  exact h
section LCS
variable {EX : SEx} {l : Launch} {dC : Nat → ClassId} {dI : Nat → Nat → Nat} {cA : Nat → ClassId} {ad : SAd} {L : Nat} {M : SMem} {i n : Nat}
/-- from a case to the loop's head -/
theorem cLaw {p : Program} {e : Env} {R : Room} {s : State} {m : MethodId} {args : Array Value} {below : List Frame} {meth : Method} {c : Code} {Q : State → Prop} {A : Nat → Prop} {scr nc ns f Fd pc : Nat} {xs : Nat → Int32} {Lc : List CN} {ws : va_W} {H : Heap} {locs : List Loc} {ls : Array Slot} {clv : ZL} {v : List Int} {C : List Int → SMem → Prop} (hp : cPl tm tc tf EX) (hchk : cchk1 tm tc tf [(23, lvN)] 0 f (pc, lvN, 1, Lc) = true) (F : sF 33 (RL, yL_law, cL_law, 7, some .boolean, 50, 5000) EX p R s m args c dC dI cA A) (hX : va_X scr L xs s s.heap) (hbl : scr < s.heap.size) (hbA : ¬ A scr) (hnc : nc ≤ R.cells) (hns : ns ≤ R.slots)
    (hC : ∀ (v : List Int) (M : SMem) (ws : va_W) (H : Heap) (locs : List Loc) (ls : Array Slot) (clv : ZL), (M 108 0 0 = (L : Int) ∧ ∀ j, j < L → M 107 0 j = (xs j).toInt) → sH tf ad M cA ws → va_P (dC, dI) vwCl ws H → va_D A ws → va_S A s.heap H locs → lv_has ls 7 clv → sls tf scr (cen v) ad lvN clv → C v M → W p l e R s m args below meth c H locs nc ns Q (F0 m 23 ls []))
    (hv : v.length = 1) (hS0 : M 108 0 0 = (L : Int) ∧ ∀ j, j < L → M 107 0 j = (xs j).toInt) (hH : sH tf ad M cA ws) (hP : va_P (dC, dI) vwCl ws H) (hD : va_D A ws) (hS : va_S A s.heap H locs) (hl : lv_has ls 7 clv) (q6 : sls tf scr (cen v) ad lvN clv) (hd : cden (lE EX l dC dI cA ad) (fun _ _ => False) (fun pc v M => pc = 23 ∧ C v M) Fd Lc v M) : W p l e R s m args below meth c H locs nc ns Q (F0 m pc ls []) := by
  obtain ⟨hEX, hI, hk9, hcl, htab⟩ := hp
  unfold cchk1 at hchk
  cases hst : cstp tm tc tf [(23, lvN)] true 0 (cgo tm tc tf [(23, lvN)] 0 f) 1 pc lvN [] with
  | none => simp only [hst] at hchk; cases hchk
  | some L2 =>
    simp only [hst] at hchk
    have eL := clq_ok cnbeq_ok hchk
    have eL : L2 = Lc := eL
    rw [← eL] at hd
    have hSx : ∀ (M : SMem) (f j i : Nat) (z : Int), f < tf.length → (M 108 0 0 = (L : Int) ∧ ∀ j, j < L → M 107 0 j = (xs j).toInt) → (supd M f j i z 108 0 0 = (L : Int) ∧ ∀ j', j' < L → supd M f j i z 107 0 j' = (xs j').toInt) := by
      intro M f j i z hf h
      have hf : f < 107 := by
        have e : tf.length ≤ 107 := by decide +kernel
        omega
      refine ⟨by rw [supd_f (by omega)]; exact h.1, fun j' hj => by rw [supd_f (by omega)]; exact h.2 j' hj⟩
    have hSxE : ∀ kc as M post, lE EX l dC dI cA ad kc as M post → (M 108 0 0 = (L : Int) ∧ ∀ j, j < L → M 107 0 j = (xs j).toInt) → ∀ rr M', post rr M' → (M' 108 0 0 = (L : Int) ∧ ∀ j, j < L → M' 107 0 j = (xs j).toInt) := by
      intro kc as M post hE h rr M' hpo
      obtain ⟨z1, z2⟩ := hE.2 rr M' hpo
      exact ⟨by rw [z2]; exact h.1, fun j hj => by rw [z1]; exact h.2 j hj⟩
    have hC9 : ∀ (pc : Nat) (T : SL), cfind pc [(23, lvN)] = some T → ∀ (v : List Int) (M : SMem) (ws : va_W) (H : Heap) (locs : List Loc) (ls : Array Slot) (clv : ZL), (M 108 0 0 = (L : Int) ∧ ∀ j, j < L → M 107 0 j = (xs j).toInt) → sH tf ad M cA ws → va_P (dC, dI) vwCl ws H → va_D A ws → va_S A s.heap H locs → lv_has ls 7 clv → sls tf scr (cen v) ad T clv → (pc = 23 ∧ C v M) → W p l e R s m args below meth c H locs nc ns Q (F0 m pc ls []) := by
      intro pc T hf v M ws H locs ls clv h1 h2 h3 h4 h5 h6 h7 h8
      obtain ⟨rfl, h8⟩ := h8
      cases hf
      exact hC v M ws H locs ls clv h1 h2 h3 h4 h5 h6 h7 h8
    have hgo := cgo_ok (k := 0) (E := lE EX l dC dI cA ad) (Qr := fun _ _ => False) (scrS := 0) (nc := nc) (ns := ns) (e := e) (below := below) (meth := meth) (Q := Q) (Sx := fun M => M 108 0 0 = (L : Int) ∧ ∀ j, j < L → M 107 0 j = (xs j).toInt) (scr := scr) (cu := [(23, lvN)]) (zc := tc) hEX hI hk9 hcl htab hSx hSxE (fun _ _ _ _ h => h.1) F rfl rfl hnc hns (fun _ => ⟨L, xs, hX, hbl, hbA, fun M h => h⟩) hC9 (fun _ _ _ _ _ _ _ _ _ _ h => h.elim) f
    exact cstp_ok (k := 0) (E := lE EX l dC dI cA ad) (Qr := fun _ _ => False) (scrS := 0) (nc := nc) (ns := ns) (e := e) (below := below) (meth := meth) (Q := Q) (Sx := fun M => M 108 0 0 = (L : Int) ∧ ∀ j, j < L → M 107 0 j = (xs j).toInt) (scr := scr) (cu := [(23, lvN)]) (zc := tc) hEX hI hk9 hcl htab hSx hSxE (fun _ _ _ _ h => h.1) F rfl rfl hnc hns (fun _ => ⟨L, xs, hX, hbl, hbA, fun M h => h⟩) hC9 (fun _ _ _ _ _ _ _ _ _ _ h => h.elim) hgo hst Fd v M ws H locs ls clv [] hv hS0 hH hP hD hS hl q6 trivial hd
set_option maxHeartbeats 4000000 in
theorem lw26 (hp : cPl tm tc tf EX) (hI : sI tg M) (hR : Rb M) (hX : sX M) (hL : M 108 0 0 = (L : Int)) (hi : i + 7 ≤ L) (hL9 : L ≤ 3584) : cden (lE EX l dC dI cA ad) (fun _ _ => False) (fun pc v M2 => pc = 23 ∧ v = [((i + 7 : Nat) : Int)] ∧ Rs M M2) 100 lS26 [(i : Int)] M := by
  refine d_rng (by simp only [clo, chi, cE2, sev, svl, cen, List.cons_append, List.nil_append]; omega) ?_
  refine d_scr (i + 1) (by simp only [cE2, sev, svl, cen, List.cons_append, List.nil_append]; omega) (by rw [hL]; omega) ?_
  refine d_br (fun h => ?_) (fun h => ?_)
  · refine d_rng (by simp only [clo, chi, cE2, sev, svl, cen, List.cons_append, List.nil_append]; omega) ?_
    refine d_scr (i + 2) (by simp only [cE2, sev, svl, cen, List.cons_append, List.nil_append]; omega) (by rw [hL]; omega) ?_
    refine d_rng (by simp only [clo, chi, cE2, sev, svl, cen, List.cons_append, List.nil_append]; omega) ?_
    refine d_scr (i + 3) (by simp only [cE2, sev, svl, cen, List.cons_append, List.nil_append]; omega) (by rw [hL]; omega) ?_
    refine d_rng (by simp only [clo, chi, cE2, sev, svl, cen, List.cons_append, List.nil_append]; omega) ?_
    refine d_scr (i + 4) (by simp only [cE2, sev, svl, cen, List.cons_append, List.nil_append]; omega) (by rw [hL]; omega) ?_
    refine d_rng (by simp only [clo, chi, cE2, sev, svl, cen, List.cons_append, List.nil_append]; omega) ?_
    refine d_scr (i + 5) (by simp only [cE2, sev, svl, cen, List.cons_append, List.nil_append]; omega) (by rw [hL]; omega) ?_
    refine d_call ⟨b_block (d := 30) hp (gp := 0) (n := M 107 0 (i + 2)) (x := M 107 0 (i + 3)) (y := M 107 0 (i + 4)) (z := M 107 0 (i + 5)), fun rr M9 q => ?_⟩ (by simp [cAs, cE2, sev, svl, cen]) ?_
    · obtain ⟨r, -, q⟩ := wBkX_of q
      exact ⟨fun k => wBkX_fr q 107 0 k (by decide), wBkX_fr q 108 0 0 (by decide)⟩
    intro rr M1 q
    obtain ⟨r, rfl, hx⟩ := wBkX_of q
    refine ⟨rfl, ?_⟩
    have fr := wBkX_fr hx
    have hL1 : M1 108 0 0 = (L : Int) := by rw [fr 108 0 0 (by decide), hL]
    have e107 : M1 107 0 = M 107 0 := by
      funext k
      exact fr 107 0 k (by decide)
    refine d_rng (by simp only [clo, chi, cE2, sev, svl, cen, List.cons_append, List.nil_append]; omega) ?_
    refine d_scr (i + 1) (by simp only [cE2, sev, svl, cen, List.cons_append, List.nil_append]; omega) (by rw [hL1]; omega) ?_
    rw [e107]
    refine d_br (fun hk9 => ?_) (fun hk9 => ?_)
    · refine d_rng (by simp only [clo, chi, cE2, sev, svl, cen, List.cons_append, List.nil_append]; omega) ?_
      refine d_scr (i + 2) (by simp only [cE2, sev, svl, cen, List.cons_append, List.nil_append]; omega) (by rw [hL1]; omega) ?_
      refine d_rng (by simp only [clo, chi, cE2, sev, svl, cen, List.cons_append, List.nil_append]; omega) ?_
      refine d_scr (i + 3) (by simp only [cE2, sev, svl, cen, List.cons_append, List.nil_append]; omega) (by rw [hL1]; omega) ?_
      refine d_rng (by simp only [clo, chi, cE2, sev, svl, cen, List.cons_append, List.nil_append]; omega) ?_
      refine d_scr (i + 4) (by simp only [cE2, sev, svl, cen, List.cons_append, List.nil_append]; omega) (by rw [hL1]; omega) ?_
      refine d_rng (by simp only [clo, chi, cE2, sev, svl, cen, List.cons_append, List.nil_append]; omega) ?_
      refine d_scr (i + 5) (by simp only [cE2, sev, svl, cen, List.cons_append, List.nil_append]; omega) (by rw [hL1]; omega) ?_
      rw [e107]
      refine d_call ⟨m_block (d := 30) hp (gp := 0) (n := M 107 0 (i + 2)) (x := M 107 0 (i + 3)) (y := M 107 0 (i + 4)) (z := M 107 0 (i + 5)), fun rr M9 q => ?_⟩ (by simp [cAs, cE2, sev, svl, cen]) ?_
      · obtain ⟨r, -, q⟩ := wBkM_of q
        exact ⟨fun k => wBkM_fr q 107 0 k (by decide) (by decide) (by decide) (by decide) (by decide) (by decide) (by omega), wBkM_fr q 108 0 0 (by decide) (by decide) (by decide) (by decide) (by decide) (by decide) (by decide)⟩
      intro rr M2 q
      obtain ⟨r', rfl, hm⟩ := wBkM_of q
      refine ⟨rfl, ?_⟩
      obtain ⟨er, hz⟩ := fin_block2 hI hR hX hx hm
      refine d_rng (by simp only [clo, chi, cE2, sev, svl, cen, List.cons_append, List.nil_append]; omega) ?_
      exact d_cut [((i + 7 : Nat) : Int)] (by simp [cE2, sev, svl, cen] <;> omega) ⟨rfl, rfl, hz⟩
    · exact absurd (show False by (have hh := h; have hk := hk9; simp only [cCmp, cE2, sev, svl, cen, List.cons_append, List.nil_append] at hh hk; omega)) id
  · refine d_rng (by simp only [clo, chi, cE2, sev, svl, cen, List.cons_append, List.nil_append]; omega) ?_
    refine d_scr (i + 2) (by simp only [cE2, sev, svl, cen, List.cons_append, List.nil_append]; omega) (by rw [hL]; omega) ?_
    refine d_rng (by simp only [clo, chi, cE2, sev, svl, cen, List.cons_append, List.nil_append]; omega) ?_
    refine d_scr (i + 3) (by simp only [cE2, sev, svl, cen, List.cons_append, List.nil_append]; omega) (by rw [hL]; omega) ?_
    refine d_rng (by simp only [clo, chi, cE2, sev, svl, cen, List.cons_append, List.nil_append]; omega) ?_
    refine d_scr (i + 4) (by simp only [cE2, sev, svl, cen, List.cons_append, List.nil_append]; omega) (by rw [hL]; omega) ?_
    refine d_rng (by simp only [clo, chi, cE2, sev, svl, cen, List.cons_append, List.nil_append]; omega) ?_
    refine d_scr (i + 5) (by simp only [cE2, sev, svl, cen, List.cons_append, List.nil_append]; omega) (by rw [hL]; omega) ?_
    refine d_call ⟨b_block (d := 30) hp (gp := 1) (n := M 107 0 (i + 2)) (x := M 107 0 (i + 3)) (y := M 107 0 (i + 4)) (z := M 107 0 (i + 5)), fun rr M9 q => ?_⟩ (by simp [cAs, cE2, sev, svl, cen]) ?_
    · obtain ⟨r, -, q⟩ := wBkX_of q
      exact ⟨fun k => wBkX_fr q 107 0 k (by decide), wBkX_fr q 108 0 0 (by decide)⟩
    intro rr M1 q
    obtain ⟨r, rfl, hx⟩ := wBkX_of q
    refine ⟨rfl, ?_⟩
    have fr := wBkX_fr hx
    have hL1 : M1 108 0 0 = (L : Int) := by rw [fr 108 0 0 (by decide), hL]
    have e107 : M1 107 0 = M 107 0 := by
      funext k
      exact fr 107 0 k (by decide)
    refine d_rng (by simp only [clo, chi, cE2, sev, svl, cen, List.cons_append, List.nil_append]; omega) ?_
    refine d_scr (i + 1) (by simp only [cE2, sev, svl, cen, List.cons_append, List.nil_append]; omega) (by rw [hL1]; omega) ?_
    rw [e107]
    refine d_br (fun hk9 => ?_) (fun hk9 => ?_)
    · exact absurd (show False by (have hh := h; have hk := hk9; simp only [cCmp, cE2, sev, svl, cen, List.cons_append, List.nil_append] at hh hk; omega)) id
    · refine d_rng (by simp only [clo, chi, cE2, sev, svl, cen, List.cons_append, List.nil_append]; omega) ?_
      refine d_scr (i + 2) (by simp only [cE2, sev, svl, cen, List.cons_append, List.nil_append]; omega) (by rw [hL1]; omega) ?_
      refine d_rng (by simp only [clo, chi, cE2, sev, svl, cen, List.cons_append, List.nil_append]; omega) ?_
      refine d_scr (i + 3) (by simp only [cE2, sev, svl, cen, List.cons_append, List.nil_append]; omega) (by rw [hL1]; omega) ?_
      refine d_rng (by simp only [clo, chi, cE2, sev, svl, cen, List.cons_append, List.nil_append]; omega) ?_
      refine d_scr (i + 4) (by simp only [cE2, sev, svl, cen, List.cons_append, List.nil_append]; omega) (by rw [hL1]; omega) ?_
      refine d_rng (by simp only [clo, chi, cE2, sev, svl, cen, List.cons_append, List.nil_append]; omega) ?_
      refine d_scr (i + 5) (by simp only [cE2, sev, svl, cen, List.cons_append, List.nil_append]; omega) (by rw [hL1]; omega) ?_
      rw [e107]
      refine d_call ⟨m_block (d := 30) hp (gp := 1) (n := M 107 0 (i + 2)) (x := M 107 0 (i + 3)) (y := M 107 0 (i + 4)) (z := M 107 0 (i + 5)), fun rr M9 q => ?_⟩ (by simp [cAs, cE2, sev, svl, cen]) ?_
      · obtain ⟨r, -, q⟩ := wBkM_of q
        exact ⟨fun k => wBkM_fr q 107 0 k (by decide) (by decide) (by decide) (by decide) (by decide) (by decide) (by omega), wBkM_fr q 108 0 0 (by decide) (by decide) (by decide) (by decide) (by decide) (by decide) (by decide)⟩
      intro rr M2 q
      obtain ⟨r', rfl, hm⟩ := wBkM_of q
      refine ⟨rfl, ?_⟩
      obtain ⟨er, hz⟩ := fin_block2 hI hR hX hx hm
      refine d_rng (by simp only [clo, chi, cE2, sev, svl, cen, List.cons_append, List.nil_append]; omega) ?_
      exact d_cut [((i + 7 : Nat) : Int)] (by simp [cE2, sev, svl, cen] <;> omega) ⟨rfl, rfl, hz⟩
set_option maxHeartbeats 4000000 in
theorem lw27 (hp : cPl tm tc tf EX) (hI : sI tg M) (hR : Rb M) (hX : sX M) (hL : M 108 0 0 = (L : Int)) (hi : i + 7 ≤ L) (hL9 : L ≤ 3584) : cden (lE EX l dC dI cA ad) (fun _ _ => False) (fun pc v M2 => pc = 23 ∧ v = [((i + 7 : Nat) : Int)] ∧ Rs M M2) 100 lS27 [(i : Int)] M := by
  refine d_rng (by simp only [clo, chi, cE2, sev, svl, cen, List.cons_append, List.nil_append]; omega) ?_
  refine d_scr (i + 1) (by simp only [cE2, sev, svl, cen, List.cons_append, List.nil_append]; omega) (by rw [hL]; omega) ?_
  refine d_call ⟨b_ways (d := 21) hp (w := M 107 0 (i + 1)) hI hR.2.2.2.2, fun rr M9 q => ⟨fun k => q.1.2.1 107 0 k (by decide) (by decide), q.1.2.1 108 0 0 (by decide) (by decide)⟩⟩ (by simp [cAs, cE2, sev, svl, cen]) ?_
  rintro rr M1 ⟨kx, r, rfl, hx⟩
  refine ⟨rfl, ?_⟩
  have fr := kx.2.1
  have hL1 : M1 108 0 0 = (L : Int) := by rw [fr 108 0 0 (by decide) (by decide), hL]
  have e107 : M1 107 0 = M 107 0 := by
    funext k
    exact fr 107 0 k (by decide) (by decide)
  refine d_rng (by simp only [clo, chi, cE2, sev, svl, cen, List.cons_append, List.nil_append]; omega) ?_
  refine d_scr (i + 1) (by simp only [cE2, sev, svl, cen, List.cons_append, List.nil_append]; omega) (by rw [hL1]; omega) ?_
  rw [e107]
  refine d_call ⟨m_ways (d := 21) hp (w := M 107 0 (i + 1)) kx.1, fun rr M9 q => ⟨fun k => q.1.2 107 0 k (by decide) (by decide) (by omega), q.1.2 108 0 0 (by decide) (by decide) (by decide)⟩⟩ (by simp [cAs, cE2, sev, svl, cen]) ?_
  rintro rr M2 ⟨km, r', rfl, hm⟩
  refine ⟨rfl, ?_⟩
  have hz := fin_ask2 hX hR kx km
  refine d_rng (by simp only [clo, chi, cE2, sev, svl, cen, List.cons_append, List.nil_append]; omega) ?_
  exact d_cut [((i + 7 : Nat) : Int)] (by simp [cE2, sev, svl, cen] <;> omega) ⟨rfl, rfl, hz⟩
set_option maxHeartbeats 4000000 in
theorem lw28 (hp : cPl tm tc tf EX) (hI : sI tg M) (hR : Rb M) (hX : sX M) (hL : M 108 0 0 = (L : Int)) (hi : i + 7 ≤ L) (hL9 : L ≤ 3584) : cden (lE EX l dC dI cA ad) (fun _ _ => False) (fun pc v M2 => pc = 23 ∧ v = [((i + 7 : Nat) : Int)] ∧ Rs M M2) 100 lS28 [(i : Int)] M := by
  refine d_rng (by simp only [clo, chi, cE2, sev, svl, cen, List.cons_append, List.nil_append]; omega) ?_
  refine d_scr (i + 1) (by simp only [cE2, sev, svl, cen, List.cons_append, List.nil_append]; omega) (by rw [hL]; omega) ?_
  refine d_call ⟨b_back (d := 21) hp (b := M 107 0 (i + 1)) hI hR.2.2.2.2, fun rr M9 q => ⟨fun k => q.1.2.1 107 0 k (by decide) (by decide), q.1.2.1 108 0 0 (by decide) (by decide)⟩⟩ (by simp [cAs, cE2, sev, svl, cen]) ?_
  rintro rr M1 ⟨kx, r, rfl, hx⟩
  refine ⟨rfl, ?_⟩
  have fr := kx.2.1
  have hL1 : M1 108 0 0 = (L : Int) := by rw [fr 108 0 0 (by decide) (by decide), hL]
  have e107 : M1 107 0 = M 107 0 := by
    funext k
    exact fr 107 0 k (by decide) (by decide)
  refine d_rng (by simp only [clo, chi, cE2, sev, svl, cen, List.cons_append, List.nil_append]; omega) ?_
  refine d_scr (i + 1) (by simp only [cE2, sev, svl, cen, List.cons_append, List.nil_append]; omega) (by rw [hL1]; omega) ?_
  rw [e107]
  refine d_call ⟨m_back (d := 21) hp (b := M 107 0 (i + 1)) kx.1, fun rr M9 q => ⟨fun k => q.1.2 107 0 k (by decide) (by decide) (by omega), q.1.2 108 0 0 (by decide) (by decide) (by decide)⟩⟩ (by simp [cAs, cE2, sev, svl, cen]) ?_
  rintro rr M2 ⟨km, r', rfl, hm⟩
  refine ⟨rfl, ?_⟩
  have hz := fin_ask2 hX hR kx km
  have row : ∀ f, f ≠ 90 → f ≠ 11 → M1 f 0 = M f 0 := fun f z1 z2 => by
    funext k
    exact fr f 0 k z1 z2
  rw [row 51 (by decide) (by decide), row 52 (by decide) (by decide), row 53 (by decide) (by decide), row 54 (by decide) (by decide)] at hm
  have er := fin_back hR hx hm
  refine d_br (fun h => ?_) (fun h => ?_)
  · refine d_rng (by simp only [clo, chi, cE2, sev, svl, cen, List.cons_append, List.nil_append]; omega) ?_
    exact d_cut [((i + 7 : Nat) : Int)] (by simp [cE2, sev, svl, cen] <;> omega) ⟨rfl, rfl, hz⟩
  · simp only [cCmp, cE2, sev, svl, cen, List.cons_append, List.nil_append] at h
    omega
end LCS
