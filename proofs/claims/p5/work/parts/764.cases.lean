/-! the law's cases by function -/
def lvN : SL := [(0, 3, 0, (0, [])), (1, 2, 0, (0, [])), (2, 2, 1, (0, [])), (3, 2, 2, (0, [])), (4, 0, 0, (0, [(0, 1)]))]
abbrev lS0 : List CN := [(6, 0, 0, [(0, 0, (1, [(0, 1)]))]), (11, 0, 0, [(0, 0, (1, [(0, 1)]))]), (5, 7, 0, [(1, 0, (0, [(1, 1)])), (0, 0, (32, []))]), (6, 0, 0, [(0, 0, (2, [(0, 1)]))]), (11, 0, 0, [(0, 0, (2, [(0, 1)]))]), (5, 5, 0, [(1, 0, (0, [(3, 1)])), (1, 0, (4294967295, []))]), (5, 6, 0, [(1, 0, (0, [(2, 1)])), (1, 0, (0, [(4, 1)]))]), (6, 0, 0, [(0, 0, (3, [(0, 1)]))]), (11, 0, 0, [(0, 0, (3, [(0, 1)]))]), (5, 7, 0, [(1, 0, (0, [(6, 1)])), (0, 0, (32, []))]), (6, 0, 0, [(0, 0, (4, [(0, 1)]))]), (11, 0, 0, [(0, 0, (4, [(0, 1)]))]), (5, 5, 0, [(1, 0, (0, [(8, 1)])), (1, 0, (4294967295, []))]), (5, 6, 0, [(1, 0, (0, [(7, 1)])), (1, 0, (0, [(9, 1)]))]), (6, 0, 0, [(0, 0, (5, [(0, 1)]))]), (11, 0, 0, [(0, 0, (5, [(0, 1)]))]), (5, 7, 0, [(1, 0, (0, [(11, 1)])), (0, 0, (32, []))]), (6, 0, 0, [(0, 0, (6, [(0, 1)]))]), (11, 0, 0, [(0, 0, (6, [(0, 1)]))]), (5, 5, 0, [(1, 0, (0, [(13, 1)])), (1, 0, (4294967295, []))]), (5, 6, 0, [(1, 0, (0, [(12, 1)])), (1, 0, (0, [(14, 1)]))]), (8, 148, 1, [(2, 0, (0, [])), (1, 0, (0, [(5, 1)])), (1, 0, (0, [(10, 1)])), (1, 0, (0, [(15, 1)]))]), (6, 0, 0, [(0, 0, (1, [(0, 1)]))]), (11, 0, 0, [(0, 0, (1, [(0, 1)]))]), (5, 7, 0, [(1, 0, (0, [(17, 1)])), (0, 0, (32, []))]), (6, 0, 0, [(0, 0, (2, [(0, 1)]))]), (11, 0, 0, [(0, 0, (2, [(0, 1)]))]), (5, 5, 0, [(1, 0, (0, [(19, 1)])), (1, 0, (4294967295, []))]), (5, 6, 0, [(1, 0, (0, [(18, 1)])), (1, 0, (0, [(20, 1)]))]), (6, 0, 0, [(0, 0, (3, [(0, 1)]))]), (11, 0, 0, [(0, 0, (3, [(0, 1)]))]), (5, 7, 0, [(1, 0, (0, [(22, 1)])), (0, 0, (32, []))]), (6, 0, 0, [(0, 0, (4, [(0, 1)]))]), (11, 0, 0, [(0, 0, (4, [(0, 1)]))]), (5, 5, 0, [(1, 0, (0, [(24, 1)])), (1, 0, (4294967295, []))]), (5, 6, 0, [(1, 0, (0, [(23, 1)])), (1, 0, (0, [(25, 1)]))]), (6, 0, 0, [(0, 0, (5, [(0, 1)]))]), (11, 0, 0, [(0, 0, (5, [(0, 1)]))]), (5, 7, 0, [(1, 0, (0, [(27, 1)])), (0, 0, (32, []))]), (6, 0, 0, [(0, 0, (6, [(0, 1)]))]), (11, 0, 0, [(0, 0, (6, [(0, 1)]))]), (5, 5, 0, [(1, 0, (0, [(29, 1)])), (1, 0, (4294967295, []))]), (5, 6, 0, [(1, 0, (0, [(28, 1)])), (1, 0, (0, [(30, 1)]))]), (8, 231, 1, [(2, 1, (0, [])), (1, 0, (0, [(21, 1)])), (1, 0, (0, [(26, 1)])), (1, 0, (0, [(31, 1)]))]), (6, 0, 0, [(0, 0, (7, [(0, 1)]))]), (9, 23, 0, [(0, 0, (7, [(0, 1)]))])]
theorem lS0_ok : cchk1 tm tc tf [(23, lvN)] 0 1000 (176, lvN, 1, lS0) = true := by decide +kernel
abbrev lS1 : List CN := [(6, 0, 0, [(0, 0, (1, [(0, 1)]))]), (11, 0, 0, [(0, 0, (1, [(0, 1)]))]), (6, 0, 0, [(0, 0, (2, [(0, 1)]))]), (11, 0, 0, [(0, 0, (2, [(0, 1)]))]), (6, 0, 0, [(0, 0, (3, [(0, 1)]))]), (11, 0, 0, [(0, 0, (3, [(0, 1)]))]), (4, 0, 14, [(0, 0, (0, [(3, 1)]))]), (8, 144, 1, [(2, 0, (0, [])), (0, 0, (0, [(1, 1)])), (0, 0, (0, [(2, 1)])), (0, 0, (0, []))]), (6, 0, 0, [(0, 0, (1, [(0, 1)]))]), (11, 0, 0, [(0, 0, (1, [(0, 1)]))]), (6, 0, 0, [(0, 0, (2, [(0, 1)]))]), (11, 0, 0, [(0, 0, (2, [(0, 1)]))]), (6, 0, 0, [(0, 0, (3, [(0, 1)]))]), (11, 0, 0, [(0, 0, (3, [(0, 1)]))]), (4, 0, 3, [(0, 0, (0, [(7, 1)]))]), (8, 229, 1, [(2, 1, (0, [])), (0, 0, (0, [(5, 1)])), (0, 0, (0, [(6, 1)])), (0, 0, (0, []))]), (6, 0, 0, [(0, 0, (7, [(0, 1)]))]), (9, 23, 0, [(0, 0, (7, [(0, 1)]))]), (8, 229, 1, [(2, 1, (0, [])), (0, 0, (0, [(5, 1)])), (0, 0, (0, [(6, 1)])), (0, 0, (1, []))]), (6, 0, 0, [(0, 0, (7, [(0, 1)]))]), (9, 23, 0, [(0, 0, (7, [(0, 1)]))]), (8, 144, 1, [(2, 0, (0, [])), (0, 0, (0, [(1, 1)])), (0, 0, (0, [(2, 1)])), (0, 0, (1, []))]), (6, 0, 0, [(0, 0, (1, [(0, 1)]))]), (11, 0, 0, [(0, 0, (1, [(0, 1)]))]), (6, 0, 0, [(0, 0, (2, [(0, 1)]))]), (11, 0, 0, [(0, 0, (2, [(0, 1)]))]), (6, 0, 0, [(0, 0, (3, [(0, 1)]))]), (11, 0, 0, [(0, 0, (3, [(0, 1)]))]), (4, 0, 3, [(0, 0, (0, [(7, 1)]))]), (8, 229, 1, [(2, 1, (0, [])), (0, 0, (0, [(5, 1)])), (0, 0, (0, [(6, 1)])), (0, 0, (0, []))]), (6, 0, 0, [(0, 0, (7, [(0, 1)]))]), (9, 23, 0, [(0, 0, (7, [(0, 1)]))]), (8, 229, 1, [(2, 1, (0, [])), (0, 0, (0, [(5, 1)])), (0, 0, (0, [(6, 1)])), (0, 0, (1, []))]), (6, 0, 0, [(0, 0, (7, [(0, 1)]))]), (9, 23, 0, [(0, 0, (7, [(0, 1)]))])]
theorem lS1_ok : cchk1 tm tc tf [(23, lvN)] 0 1000 (323, lvN, 1, lS1) = true := by decide +kernel
abbrev lS3 : List CN := [(6, 0, 0, [(0, 0, (1, [(0, 1)]))]), (11, 0, 0, [(0, 0, (1, [(0, 1)]))]), (6, 0, 0, [(0, 0, (2, [(0, 1)]))]), (11, 0, 0, [(0, 0, (2, [(0, 1)]))]), (8, 138, 1, [(2, 0, (0, [])), (0, 0, (0, [(1, 1)])), (0, 0, (0, [(2, 1)]))]), (6, 0, 0, [(0, 0, (1, [(0, 1)]))]), (11, 0, 0, [(0, 0, (1, [(0, 1)]))]), (6, 0, 0, [(0, 0, (2, [(0, 1)]))]), (11, 0, 0, [(0, 0, (2, [(0, 1)]))]), (8, 226, 1, [(2, 1, (0, [])), (0, 0, (0, [(4, 1)])), (0, 0, (0, [(5, 1)]))]), (4, 0, 2, [(0, 0, (0, [(3, 1), (6, -1)]))]), (6, 0, 0, [(0, 0, (7, [(0, 1)]))]), (9, 23, 0, [(0, 0, (7, [(0, 1)]))]), (10, 1, 0, [(0, 0, (0, []))])]
theorem lS3_ok : cchk1 tm tc tf [(23, lvN)] 0 1000 (425, lvN, 1, lS3) = true := by decide +kernel
def wLg (a b : Int) : Int := cfn 6 (cfn 7 a 32) (cfn 5 b 4294967295)
/-- the names and the tapes of both are alike -/
def Rn (M : SMem) : Prop := M 57 0 = M 12 0 ∧ M 58 0 = M 17 0 ∧ M 59 0 = M 19 0 ∧ M 60 0 = M 18 0 ∧ M 61 0 = M 20 0 ∧ M 63 0 = M 21 0 ∧ ∀ i, i < 8 → M 62 0 i = wSm (M 63 0) (8 * i) (M 61 0 i).toNat
theorem Rn_congr {M M' : SMem} (h : ∀ f, f ∈ [12, 17, 18, 19, 20, 21, 57, 58, 59, 60, 61, 62, 63] → M' f 0 = M f 0) (hr : Rn M) : Rn M' := by
  unfold Rn
  rw [h 57 (by decide), h 12 (by decide), h 58 (by decide), h 17 (by decide), h 59 (by decide), h 19 (by decide), h 60 (by decide), h 18 (by decide), h 61 (by decide), h 20 (by decide), h 63 (by decide), h 21 (by decide), h 62 (by decide)]
  exact hr
/-- what a case told by function leaves as it was -/
def lDL : List Nat := [1, 3, 7, 10, 12, 17, 18, 19, 20, 21, 57, 58, 59, 60, 61, 62, 63]
def Rz (M M2 : SMem) : Prop := sI tg M2 ∧ Rn M2 ∧ M2 3 0 1 = M2 1 0 2 ∧ ∀ f j i, f ∉ lDL → M2 f j i = M f j i
def lE (EX : SEx) (l : Launch) (dC : Nat → ClassId) (dI : Nat → Nat → Nat) (cA : Nat → ClassId) (ad : SAd) (kc : Nat) (as : List CA) (M : SMem) (post : List Int → SMem → Prop) : Prop := cBG tm tf EX l dC dI cA ad 0 32 kc as M post ∧ ∀ rr M', post rr M' → (∀ i, M' 107 0 i = M 107 0 i) ∧ M' 108 0 0 = M 108 0 0
theorem wUp_eq {T D H G S L : Nat → Int} {n : Nat} {a g s r : Int} {D1 H1 G1 S1 L1 D2 H2 G2 S2 L2 : Nat → Int} (h1 : wUp T D H G S L n a g s r D1 H1 G1 S1 L1) (h2 : wUp T D H G S L n a g s r D2 H2 G2 S2 L2) : D1 = D2 ∧ H1 = H2 ∧ G1 = G2 ∧ S1 = S2 ∧ L1 = L2 := by
  by_cases hr : r = 0
  · obtain ⟨a1, a2, a3, a4, a5⟩ := h1.1 hr
    obtain ⟨b1, b2, b3, b4, b5⟩ := h2.1 hr
    exact ⟨a1.trans b1.symm, a2.trans b2.symm, a3.trans b3.symm, a4.trans b4.symm, a5.trans b5.symm⟩
  · obtain ⟨a1, a2, a3, a4, a5⟩ := h1.2 hr
    obtain ⟨b1, b2, b3, b4, b5⟩ := h2.2 hr
    exact ⟨a1.trans b1.symm, a2.trans b2.symm, a3.trans b3.symm, a4.trans b4.symm, a5.trans b5.symm⟩
/-- the widths, behind a name that is told -/
theorem wNx_wid {M MM : SMem} {n : Nat} {a g s r : Int} (hI : sI tg M) (hw : ∀ i, i < 8 → M 62 0 i = wSm (M 63 0) (8 * i) (M 61 0 i).toNat) (h : wNx M n a g s r MM) : ∀ i, i < 8 → MM 62 0 i = wSm (MM 63 0) (8 * i) (MM 61 0 i).toNat := by
  obtain ⟨i1, f1, hR, hU, u1, u2⟩ := h
  intro i hi
  by_cases hr : r = 0
  · obtain ⟨-, -, -, a4, a5⟩ := hU.1 hr
    have ht : wTx 0 (M 57 0) (wf (M 57 0) n) (wu (M 57 0) n) := by
      rcases hR with ⟨q, -⟩ | ⟨-, ⟨q, -⟩ | ⟨q, -⟩⟩
      · omega
      · omega
      · exact q
    have t1 := ht.1
    have t2 := ht.2.1
    rw [u1 hr, a4, a5]
    by_cases hk : i = a.toNat
    · rw [hk, wSt_at, wSt_at]
      have e1 : ((wu (M 57 0) n : Int) - (wf (M 57 0) n : Int)).toNat = wu (M 57 0) n - wf (M 57 0) n := by omega
      rw [e1]
      refine wSm_congr _ (fun k hk2 => ?_)
      unfold wPt
      rw [if_pos (by omega), show wf (M 57 0) n + (8 * a.toNat + k - 8 * a.toNat) = wf (M 57 0) n + k by omega]
    · rw [wSt_ne hk, wSt_ne hk, hw i hi]
      have hb := wIb (f := 61) (i := i) (lo := 0) (hi := 8) hI 0 rfl
      refine wSm_congr _ (fun k hk2 => ?_)
      unfold wPt
      rw [if_neg (by omega)]
  · obtain ⟨-, -, -, a4, a5⟩ := hU.2 hr
    rw [u2 hr, a4, a5]
    exact hw i hi
theorem d_op2 {E : Nat → List CA → SMem → (List Int → SMem → Prop) → Prop} {Qr : List Int → SMem → Prop} {C : Nat → List Int → SMem → Prop} {n : Nat} {r : List CN} {v : List Int} {M : SMem} {a b : Nat} {x y : SV} (p q : Int) (h1 : cE2 v x = p) (h2 : cE2 v y = q) (h : cden E Qr C n r (v ++ [cfn a p q]) M) : cden E Qr C (n + 1) ((5, a, b, [x, y]) :: r) v M := by
  subst h1 h2
  exact h
section LCS
variable {EX : SEx} {l : Launch} {dC : Nat → ClassId} {dI : Nat → Nat → Nat} {cA : Nat → ClassId} {ad : SAd} {L : Nat} {M : SMem} {i n : Nat}
/-- from a case to the loop's head -/
theorem cLaw {p : Program} {e : Env} {R : Room} {s : State} {m : MethodId} {args : Array Value} {below : List Frame} {meth : Method} {c : Code} {Q : State → Prop} {A : Nat → Prop} {scr nc ns f Fd pc : Nat} {xs : Nat → Int32} {Lc : List CN} {ws : va_W} {H : Heap} {locs : List Loc} {ls : Array Slot} {clv : ZL} {v : List Int} {C : List Int → SMem → Prop} (hp : cPl tm tc tf EX) (hchk : cchk1 tm tc tf [(23, lvN)] 0 f (pc, lvN, 1, Lc) = true) (F : sF 33 (RL, yL_law, cL_law, 7, some .boolean, 50, 5000) EX p R s m args c dC dI cA A) (hX : va_X scr L xs s s.heap) (hbl : scr < s.heap.size) (hbA : ¬ A scr) (hnc : nc ≤ R.cells) (hns : ns ≤ R.slots)
    (hC : ∀ (v : List Int) (M : SMem) (ws : va_W) (H : Heap) (locs : List Loc) (ls : Array Slot) (clv : ZL), (M 108 0 0 = (L : Int) ∧ ∀ j, j < L → M 107 0 j = (xs j).toInt) → sH tf ad M cA ws → va_P (dC, dI) vwCl ws H → va_D A ws → va_S A s.heap H locs → lv_has ls 7 clv → sls tf scr (cen v) ad lvN clv → C v M → W p l e R s m args below meth c H locs nc ns Q (F0 m 23 ls []))
    (hv : v.length = 1) (hS0 : M 108 0 0 = (L : Int) ∧ ∀ j, j < L → M 107 0 j = (xs j).toInt) (hH : sH tf ad M cA ws) (hP : va_P (dC, dI) vwCl ws H) (hD : va_D A ws) (hS : va_S A s.heap H locs) (hl : lv_has ls 7 clv) (q6 : sls tf scr (cen v) ad lvN clv) (hd : cden (lE EX l dC dI cA ad) (fun _ _ => False) (fun pc v M => pc = 23 ∧ C v M) Fd Lc v M) : W p l e R s m args below meth c H locs nc ns Q (F0 m pc ls []) := by
  obtain ⟨hEX, hI, hk9, hcl, htab⟩ := hp
  unfold cchk1 at hchk
  cases hst : cstp tm tc tf [(23, lvN)] true 0 (cgo tm tc tf [(23, lvN)] 0 f) 1 pc lvN [] with
  | none => simp only [hst] at hchk; cases hchk
  | some L2 =>
    simp only [hst] at hchk
    have eL := clq_ok cnbeq_ok hchk
    have eL : L2 = Lc := eL
    rw [← eL] at hd
    have hSx : ∀ (M : SMem) (f j i : Nat) (z : Int), f < tf.length → (M 108 0 0 = (L : Int) ∧ ∀ j, j < L → M 107 0 j = (xs j).toInt) → (supd M f j i z 108 0 0 = (L : Int) ∧ ∀ j', j' < L → supd M f j i z 107 0 j' = (xs j').toInt) := by
      intro M f j i z hf h
      have hf : f < 107 := by
        have e : tf.length ≤ 107 := by decide +kernel
        omega
      refine ⟨by rw [supd_f (by omega)]; exact h.1, fun j' hj => by rw [supd_f (by omega)]; exact h.2 j' hj⟩
    have hSxE : ∀ kc as M post, lE EX l dC dI cA ad kc as M post → (M 108 0 0 = (L : Int) ∧ ∀ j, j < L → M 107 0 j = (xs j).toInt) → ∀ rr M', post rr M' → (M' 108 0 0 = (L : Int) ∧ ∀ j, j < L → M' 107 0 j = (xs j).toInt) := by
      intro kc as M post hE h rr M' hpo
      obtain ⟨z1, z2⟩ := hE.2 rr M' hpo
      exact ⟨by rw [z2]; exact h.1, fun j hj => by rw [z1]; exact h.2 j hj⟩
    have hC9 : ∀ (pc : Nat) (T : SL), cfind pc [(23, lvN)] = some T → ∀ (v : List Int) (M : SMem) (ws : va_W) (H : Heap) (locs : List Loc) (ls : Array Slot) (clv : ZL), (M 108 0 0 = (L : Int) ∧ ∀ j, j < L → M 107 0 j = (xs j).toInt) → sH tf ad M cA ws → va_P (dC, dI) vwCl ws H → va_D A ws → va_S A s.heap H locs → lv_has ls 7 clv → sls tf scr (cen v) ad T clv → (pc = 23 ∧ C v M) → W p l e R s m args below meth c H locs nc ns Q (F0 m pc ls []) := by
      intro pc T hf v M ws H locs ls clv h1 h2 h3 h4 h5 h6 h7 h8
      obtain ⟨rfl, h8⟩ := h8
      cases hf
      exact hC v M ws H locs ls clv h1 h2 h3 h4 h5 h6 h7 h8
    have hgo := cgo_ok (k := 0) (E := lE EX l dC dI cA ad) (Qr := fun _ _ => False) (scrS := 0) (nc := nc) (ns := ns) (e := e) (below := below) (meth := meth) (Q := Q) (Sx := fun M => M 108 0 0 = (L : Int) ∧ ∀ j, j < L → M 107 0 j = (xs j).toInt) (scr := scr) (cu := [(23, lvN)]) (zc := tc) hEX hI hk9 hcl htab hSx hSxE (fun _ _ _ _ h => h.1) F rfl rfl hnc hns (fun _ => ⟨L, xs, hX, hbl, hbA, fun M h => h⟩) hC9 (fun _ _ _ _ _ _ _ _ _ _ h => h.elim) f
    exact cstp_ok (k := 0) (E := lE EX l dC dI cA ad) (Qr := fun _ _ => False) (scrS := 0) (nc := nc) (ns := ns) (e := e) (below := below) (meth := meth) (Q := Q) (Sx := fun M => M 108 0 0 = (L : Int) ∧ ∀ j, j < L → M 107 0 j = (xs j).toInt) (scr := scr) (cu := [(23, lvN)]) (zc := tc) hEX hI hk9 hcl htab hSx hSxE (fun _ _ _ _ h => h.1) F rfl rfl hnc hns (fun _ => ⟨L, xs, hX, hbl, hbA, fun M h => h⟩) hC9 (fun _ _ _ _ _ _ _ _ _ _ h => h.elim) hgo hst Fd v M ws H locs ls clv [] hv hS0 hH hP hD hS hl q6 trivial hd
set_option maxHeartbeats 4000000 in
theorem lc0 (hp : cPl tm tc tf EX) (hI : sI tg M) (hR : Rn M) (h3 : M 3 0 1 = (n : Int)) (h1 : M 1 0 2 = (n : Int)) (h9 : n ≤ 1000) (hL : M 108 0 0 = (L : Int)) (hi : i + 7 ≤ L) (hL9 : L ≤ 3584) : cden (lE EX l dC dI cA ad) (fun _ _ => False) (fun pc v M2 => pc = 23 ∧ v = [((i + 7 : Nat) : Int)] ∧ Rz M M2) 100 lS0 [(i : Int)] M := by
  obtain ⟨g1, g2, g3, g4, g5, g6, g7⟩ := hR
  refine d_rng (by simp only [clo, chi, cE2, sev, svl, cen, List.cons_append, List.nil_append]; omega) ?_
  refine d_scr (i + 1) (by simp only [cE2, sev, svl, cen, List.cons_append, List.nil_append]; omega) (by rw [hL]; omega) ?_
  refine d_op2 (M 107 0 (i + 1)) 32 (by simp [cE2, sev, svl, cen]) (by simp [cE2, sev, svl]) ?_
  refine d_rng (by simp only [clo, chi, cE2, sev, svl, cen, List.cons_append, List.nil_append]; omega) ?_
  refine d_scr (i + 2) (by simp only [cE2, sev, svl, cen, List.cons_append, List.nil_append]; omega) (by rw [hL]; omega) ?_
  refine d_op2 (M 107 0 (i + 2)) 4294967295 (by simp [cE2, sev, svl, cen]) (by simp [cE2, sev, svl]) ?_
  refine d_op2 (cfn 7 (M 107 0 (i + 1)) 32) (cfn 5 (M 107 0 (i + 2)) 4294967295) (by simp [cE2, sev, svl, cen]) (by simp [cE2, sev, svl, cen]) ?_
  refine d_rng (by simp only [clo, chi, cE2, sev, svl, cen, List.cons_append, List.nil_append]; omega) ?_
  refine d_scr (i + 3) (by simp only [cE2, sev, svl, cen, List.cons_append, List.nil_append]; omega) (by rw [hL]; omega) ?_
  refine d_op2 (M 107 0 (i + 3)) 32 (by simp [cE2, sev, svl, cen]) (by simp [cE2, sev, svl]) ?_
  refine d_rng (by simp only [clo, chi, cE2, sev, svl, cen, List.cons_append, List.nil_append]; omega) ?_
  refine d_scr (i + 4) (by simp only [cE2, sev, svl, cen, List.cons_append, List.nil_append]; omega) (by rw [hL]; omega) ?_
  refine d_op2 (M 107 0 (i + 4)) 4294967295 (by simp [cE2, sev, svl, cen]) (by simp [cE2, sev, svl]) ?_
  refine d_op2 (cfn 7 (M 107 0 (i + 3)) 32) (cfn 5 (M 107 0 (i + 4)) 4294967295) (by simp [cE2, sev, svl, cen]) (by simp [cE2, sev, svl, cen]) ?_
  refine d_rng (by simp only [clo, chi, cE2, sev, svl, cen, List.cons_append, List.nil_append]; omega) ?_
  refine d_scr (i + 5) (by simp only [cE2, sev, svl, cen, List.cons_append, List.nil_append]; omega) (by rw [hL]; omega) ?_
  refine d_op2 (M 107 0 (i + 5)) 32 (by simp [cE2, sev, svl, cen]) (by simp [cE2, sev, svl]) ?_
  refine d_rng (by simp only [clo, chi, cE2, sev, svl, cen, List.cons_append, List.nil_append]; omega) ?_
  refine d_scr (i + 6) (by simp only [cE2, sev, svl, cen, List.cons_append, List.nil_append]; omega) (by rw [hL]; omega) ?_
  refine d_op2 (M 107 0 (i + 6)) 4294967295 (by simp [cE2, sev, svl, cen]) (by simp [cE2, sev, svl]) ?_
  refine d_op2 (cfn 7 (M 107 0 (i + 5)) 32) (cfn 5 (M 107 0 (i + 6)) 4294967295) (by simp [cE2, sev, svl, cen]) (by simp [cE2, sev, svl, cen]) ?_
  refine d_call ⟨b_feed (d := 29) hp (x := wLg (M 107 0 (i + 1)) (M 107 0 (i + 2))) (y := wLg (M 107 0 (i + 3)) (M 107 0 (i + 4))) (z := wLg (M 107 0 (i + 5)) (M 107 0 (i + 6))) hI h3 h9, fun rr M9 q => ⟨fun i => q.2.2.1 107 0 i (by omega) (by omega), q.2.2.1 108 0 0 (by omega) (by omega)⟩⟩ (by simp [cAs, cE2, sev, svl, cen, wLg]) ?_
  rintro rr M1 ⟨rfl, t1⟩
  refine ⟨rfl, ?_⟩
  generalize hq : wTk (wBx (wLg (M 107 0 (i + 5)) (M 107 0 (i + 6)))) (wTk (wBx (wLg (M 107 0 (i + 3)) (M 107 0 (i + 4)))) (wTk (wBx (wLg (M 107 0 (i + 1)) (M 107 0 (i + 2)))) (M 57 0, n) 8) 8) 8 = q at t1 ⊢
  obtain ⟨i1, f1, u57, u31, uq⟩ := t1
  have hL1 : M1 108 0 0 = (L : Int) := by rw [f1 108 0 0 (by omega) (by omega), hL]
  have e107 : M1 107 0 = M 107 0 := by
      funext k
      exact f1 107 0 k (by omega) (by omega)
  have e12 : M1 12 0 = M 57 0 := by
      rw [g1]
      funext k
      exact f1 12 0 k (by omega) (by omega)
  refine d_rng (by simp only [clo, chi, cE2, sev, svl, cen, List.cons_append, List.nil_append]; omega) ?_
  refine d_scr (i + 1) (by simp only [cE2, sev, svl, cen, List.cons_append, List.nil_append]; omega) (by rw [hL1]; omega) ?_
  refine d_op2 (M1 107 0 (i + 1)) 32 (by simp [cE2, sev, svl, cen]) (by simp [cE2, sev, svl]) ?_
  refine d_rng (by simp only [clo, chi, cE2, sev, svl, cen, List.cons_append, List.nil_append]; omega) ?_
  refine d_scr (i + 2) (by simp only [cE2, sev, svl, cen, List.cons_append, List.nil_append]; omega) (by rw [hL1]; omega) ?_
  refine d_op2 (M1 107 0 (i + 2)) 4294967295 (by simp [cE2, sev, svl, cen]) (by simp [cE2, sev, svl]) ?_
  refine d_op2 (cfn 7 (M1 107 0 (i + 1)) 32) (cfn 5 (M1 107 0 (i + 2)) 4294967295) (by simp [cE2, sev, svl, cen]) (by simp [cE2, sev, svl, cen]) ?_
  refine d_rng (by simp only [clo, chi, cE2, sev, svl, cen, List.cons_append, List.nil_append]; omega) ?_
  refine d_scr (i + 3) (by simp only [cE2, sev, svl, cen, List.cons_append, List.nil_append]; omega) (by rw [hL1]; omega) ?_
  refine d_op2 (M1 107 0 (i + 3)) 32 (by simp [cE2, sev, svl, cen]) (by simp [cE2, sev, svl]) ?_
  refine d_rng (by simp only [clo, chi, cE2, sev, svl, cen, List.cons_append, List.nil_append]; omega) ?_
  refine d_scr (i + 4) (by simp only [cE2, sev, svl, cen, List.cons_append, List.nil_append]; omega) (by rw [hL1]; omega) ?_
  refine d_op2 (M1 107 0 (i + 4)) 4294967295 (by simp [cE2, sev, svl, cen]) (by simp [cE2, sev, svl]) ?_
  refine d_op2 (cfn 7 (M1 107 0 (i + 3)) 32) (cfn 5 (M1 107 0 (i + 4)) 4294967295) (by simp [cE2, sev, svl, cen]) (by simp [cE2, sev, svl, cen]) ?_
  refine d_rng (by simp only [clo, chi, cE2, sev, svl, cen, List.cons_append, List.nil_append]; omega) ?_
  refine d_scr (i + 5) (by simp only [cE2, sev, svl, cen, List.cons_append, List.nil_append]; omega) (by rw [hL1]; omega) ?_
  refine d_op2 (M1 107 0 (i + 5)) 32 (by simp [cE2, sev, svl, cen]) (by simp [cE2, sev, svl]) ?_
  refine d_rng (by simp only [clo, chi, cE2, sev, svl, cen, List.cons_append, List.nil_append]; omega) ?_
  refine d_scr (i + 6) (by simp only [cE2, sev, svl, cen, List.cons_append, List.nil_append]; omega) (by rw [hL1]; omega) ?_
  refine d_op2 (M1 107 0 (i + 6)) 4294967295 (by simp [cE2, sev, svl, cen]) (by simp [cE2, sev, svl]) ?_
  refine d_op2 (cfn 7 (M1 107 0 (i + 5)) 32) (cfn 5 (M1 107 0 (i + 6)) 4294967295) (by simp [cE2, sev, svl, cen]) (by simp [cE2, sev, svl, cen]) ?_
  refine d_call ⟨m_feed (d := 30) hp (x := wLg (M1 107 0 (i + 1)) (M1 107 0 (i + 2))) (y := wLg (M1 107 0 (i + 3)) (M1 107 0 (i + 4))) (z := wLg (M1 107 0 (i + 5)) (M1 107 0 (i + 6))) i1 (by rw [f1 1 0 2 (by omega) (by omega)]; exact h1) h9, fun rr M9 q => ⟨fun i => q.2.2.1 107 0 i (by omega) (by omega), q.2.2.1 108 0 0 (by omega) (by omega)⟩⟩ (by simp [cAs, cE2, sev, svl, cen, wLg]) ?_
  rintro rr M2 ⟨rfl, t2⟩
  refine ⟨rfl, ?_⟩
  have hq2 : wTk (wBm (wLg (M1 107 0 (i + 5)) (M1 107 0 (i + 6)))) (wTk (wBm (wLg (M1 107 0 (i + 3)) (M1 107 0 (i + 4)))) (wTk (wBm (wLg (M1 107 0 (i + 1)) (M1 107 0 (i + 2)))) (M1 12 0, n) 8) 8) 8 = q := by
      rw [← hq, e107, e12]
      rw [wTk_congr 8 (fun k hk => (wB_eq (wLg (M 107 0 (i + 1)) (M 107 0 (i + 2))) hk).symm), wTk_congr 8 (fun k hk => (wB_eq (wLg (M 107 0 (i + 3)) (M 107 0 (i + 4))) hk).symm), wTk_congr 8 (fun k hk => (wB_eq (wLg (M 107 0 (i + 5)) (M 107 0 (i + 6))) hk).symm)]
  rw [hq2] at t2 ⊢
  obtain ⟨i2, f2, v12, v12n, vq⟩ := t2
  refine d_rng (by simp only [clo, chi, cE2, sev, svl, cen, List.cons_append, List.nil_append]; omega) ?_
  refine d_cut [((i + 7 : Nat) : Int)] (by simp [cE2, sev, svl, cen] <;> omega) ⟨rfl, rfl, i2, ?_, ?_, fun f j k z => ?_⟩
  · have r57 : M2 57 0 = q.1 := by
      rw [← u57]
      funext k
      exact f2 57 0 k (by omega) (by omega)
    have r : ∀ f, f ≠ 1 → f ≠ 3 → f ≠ 12 → f ≠ 57 → M2 f 0 = M f 0 := fun f z1 z2 z3 z4 => by
      funext k
      rw [f2 f 0 k z3 (fun z => z1 z.1), f1 f 0 k z4 (fun z => z2 z.1)]
    unfold Rn
    rw [r57, v12, r 58 (by omega) (by omega) (by omega) (by omega), r 59 (by omega) (by omega) (by omega) (by omega), r 60 (by omega) (by omega) (by omega) (by omega), r 61 (by omega) (by omega) (by omega) (by omega), r 62 (by omega) (by omega) (by omega) (by omega), r 63 (by omega) (by omega) (by omega) (by omega), r 17 (by omega) (by omega) (by omega) (by omega), r 18 (by omega) (by omega) (by omega) (by omega), r 19 (by omega) (by omega) (by omega) (by omega), r 20 (by omega) (by omega) (by omega) (by omega), r 21 (by omega) (by omega) (by omega) (by omega)]
    exact ⟨rfl, g2, g3, g4, g5, g6, g7⟩
  · rw [v12n, f2 3 0 1 (by omega) (by omega), u31]
  · simp only [lDL, List.mem_cons, List.not_mem_nil, or_false, not_or] at z
    rw [f2 f j k (by omega) (by omega), f1 f j k (by omega) (by omega)]
set_option maxHeartbeats 4000000 in
theorem lc1 (hp : cPl tm tc tf EX) (hI : sI tg M) (hR : Rn M) (h3 : M 3 0 1 = (n : Int)) (h1 : M 1 0 2 = (n : Int)) (h9 : n ≤ 1000) (hL : M 108 0 0 = (L : Int)) (hi : i + 7 ≤ L) (hL9 : L ≤ 3584) : cden (lE EX l dC dI cA ad) (fun _ _ => False) (fun pc v M2 => pc = 23 ∧ v = [((i + 7 : Nat) : Int)] ∧ Rz M M2) 100 lS1 [(i : Int)] M := by
  obtain ⟨g1, g2, g3, g4, g5, g6, g7⟩ := hR
  refine d_rng (by simp only [clo, chi, cE2, sev, svl, cen, List.cons_append, List.nil_append]; omega) ?_
  refine d_scr (i + 1) (by simp only [cE2, sev, svl, cen, List.cons_append, List.nil_append]; omega) (by rw [hL]; omega) ?_
  refine d_rng (by simp only [clo, chi, cE2, sev, svl, cen, List.cons_append, List.nil_append]; omega) ?_
  refine d_scr (i + 2) (by simp only [cE2, sev, svl, cen, List.cons_append, List.nil_append]; omega) (by rw [hL]; omega) ?_
  refine d_rng (by simp only [clo, chi, cE2, sev, svl, cen, List.cons_append, List.nil_append]; omega) ?_
  refine d_scr (i + 3) (by simp only [cE2, sev, svl, cen, List.cons_append, List.nil_append]; omega) (by rw [hL]; omega) ?_
  have fin : ∀ (s r r' : Int) (M1 M2 : SMem), wNx M n (M 107 0 (i + 1)) (M 107 0 (i + 2)) s r M1 → M1 3 0 1 = 0 → wNm M1 n (M 107 0 (i + 1)) (M 107 0 (i + 2)) s r' M2 → r = r' ∧ Rz M M2 := by
      intro s r r' M1 M2 hx hx3 hm
      have hxw := wNx_wid hI g7 hx
      obtain ⟨i1, f1, hR1, hU1, -, -⟩ := hx
      obtain ⟨i2, f2, hR2, hU2, m2⟩ := hm
      have q : ∀ f, f ∈ [12, 17, 18, 19, 20, 21, 57] → M1 f 0 = M f 0 := fun f hf => by
        funext k
        simp only [List.mem_cons, List.not_mem_nil, or_false] at hf
        exact f1 f 0 k (by omega) (by omega) (by omega) (by omega)
      have q' : ∀ f, f ∈ [12, 57, 58, 59, 60, 61, 62, 63] → M2 f 0 = M1 f 0 := fun f hf => by
        funext k
        simp only [List.mem_cons, List.not_mem_nil, or_false] at hf
        exact f2 f 0 k (by omega) (by omega)
      rw [q 12 (by decide), q 17 (by decide), q 20 (by decide), q 21 (by decide), ← g1, ← g2, ← g5, ← g6] at hR2
      rw [q 12 (by decide), q 17 (by decide), q 18 (by decide), q 19 (by decide), q 20 (by decide), q 21 (by decide), ← g1, ← g2, ← g3, ← g4, ← g5, ← g6] at hU2
      have er := wR_eq hR1 hR2
      subst er
      obtain ⟨d1, d2, d3, d4, d5⟩ := wUp_eq hU1 hU2
      refine ⟨rfl, i2, ?_, ?_, fun f j k z => ?_⟩
      · unfold Rn
        rw [q' 57 (by decide), q' 12 (by decide), q' 58 (by decide), q' 59 (by decide), q' 60 (by decide), q' 61 (by decide), q' 62 (by decide), q' 63 (by decide), q 57 (by decide), q 12 (by decide)]
        exact ⟨g1, d1, d2, d3, d4, d5, hxw⟩
      · rw [m2, f2 3 0 1 (by decide) (by decide), hx3]
      · simp only [lDL, List.mem_cons, List.not_mem_nil, or_false, not_or] at z
        rw [f2 f j k (by omega) (by omega), f1 f j k (by omega) (by omega) (by omega) (by omega)]
  refine d_br (fun h => ?_) (fun h => ?_)
  · refine d_call ⟨b_name (d := 28) hp (a := M 107 0 (i + 1)) (g := M 107 0 (i + 2)) (s := 0) hI h3 h9 (by omega), fun rr M9 q => ?_⟩ (by simp [cAs, cE2, sev, svl, cen]) ?_
    · obtain ⟨r, -, q, -⟩ := q
      exact ⟨fun i => q.2.1 107 0 i (by decide) (by decide) (by decide) (by decide), q.2.1 108 0 0 (by decide) (by decide) (by decide) (by decide)⟩
    rintro rr M1 ⟨r, rfl, hx, hx3, hr1⟩
    refine ⟨rfl, ?_⟩
    have hL1 : M1 108 0 0 = (L : Int) := by rw [hx.2.1 108 0 0 (by decide) (by decide) (by decide) (by decide), hL]
    have e107 : M1 107 0 = M 107 0 := by
      funext k
      exact hx.2.1 107 0 k (by decide) (by decide) (by decide) (by decide)
    refine d_rng (by simp only [clo, chi, cE2, sev, svl, cen, List.cons_append, List.nil_append]; omega) ?_
    refine d_scr (i + 1) (by simp only [cE2, sev, svl, cen, List.cons_append, List.nil_append]; omega) (by rw [hL1]; omega) ?_
    refine d_rng (by simp only [clo, chi, cE2, sev, svl, cen, List.cons_append, List.nil_append]; omega) ?_
    refine d_scr (i + 2) (by simp only [cE2, sev, svl, cen, List.cons_append, List.nil_append]; omega) (by rw [hL1]; omega) ?_
    refine d_rng (by simp only [clo, chi, cE2, sev, svl, cen, List.cons_append, List.nil_append]; omega) ?_
    refine d_scr (i + 3) (by simp only [cE2, sev, svl, cen, List.cons_append, List.nil_append]; omega) (by rw [hL1]; omega) ?_
    rw [e107]
    refine d_br (fun hk9 => ?_) (fun hk9 => ?_)
    · refine d_call ⟨m_name (d := 29) hp (a := M 107 0 (i + 1)) (g := M 107 0 (i + 2)) (s := 0) hx.1 (by rw [hx.2.1 1 0 2 (by decide) (by decide) (by decide) (by decide)]; exact h1) h9 (by omega), fun rr M9 q => ?_⟩ (by simp [cAs, cE2, sev, svl, cen]) ?_
      · obtain ⟨r, -, q, -⟩ := q
        exact ⟨fun i => q.2.1 107 0 i (by decide) (by decide), q.2.1 108 0 0 (by decide) (by decide)⟩
      rintro rr M2 ⟨r', rfl, hm, -⟩
      refine ⟨rfl, ?_⟩
      obtain ⟨er, hz⟩ := fin 0 r r' M1 M2 hx hx3 hm
      refine d_rng (by simp only [clo, chi, cE2, sev, svl, cen, List.cons_append, List.nil_append]; omega) ?_
      exact d_cut [((i + 7 : Nat) : Int)] (by simp [cE2, sev, svl, cen] <;> omega) ⟨rfl, rfl, hz⟩
    · exact absurd (show False by (have hh := h; have hk := hk9; simp only [cCmp, cE2, sev, svl, cen, List.cons_append, List.nil_append] at hh hk; omega)) id
  · refine d_call ⟨b_name (d := 28) hp (a := M 107 0 (i + 1)) (g := M 107 0 (i + 2)) (s := 1) hI h3 h9 (by omega), fun rr M9 q => ?_⟩ (by simp [cAs, cE2, sev, svl, cen]) ?_
    · obtain ⟨r, -, q, -⟩ := q
      exact ⟨fun i => q.2.1 107 0 i (by decide) (by decide) (by decide) (by decide), q.2.1 108 0 0 (by decide) (by decide) (by decide) (by decide)⟩
    rintro rr M1 ⟨r, rfl, hx, hx3, hr1⟩
    refine ⟨rfl, ?_⟩
    have hL1 : M1 108 0 0 = (L : Int) := by rw [hx.2.1 108 0 0 (by decide) (by decide) (by decide) (by decide), hL]
    have e107 : M1 107 0 = M 107 0 := by
      funext k
      exact hx.2.1 107 0 k (by decide) (by decide) (by decide) (by decide)
    refine d_rng (by simp only [clo, chi, cE2, sev, svl, cen, List.cons_append, List.nil_append]; omega) ?_
    refine d_scr (i + 1) (by simp only [cE2, sev, svl, cen, List.cons_append, List.nil_append]; omega) (by rw [hL1]; omega) ?_
    refine d_rng (by simp only [clo, chi, cE2, sev, svl, cen, List.cons_append, List.nil_append]; omega) ?_
    refine d_scr (i + 2) (by simp only [cE2, sev, svl, cen, List.cons_append, List.nil_append]; omega) (by rw [hL1]; omega) ?_
    refine d_rng (by simp only [clo, chi, cE2, sev, svl, cen, List.cons_append, List.nil_append]; omega) ?_
    refine d_scr (i + 3) (by simp only [cE2, sev, svl, cen, List.cons_append, List.nil_append]; omega) (by rw [hL1]; omega) ?_
    rw [e107]
    refine d_br (fun hk9 => ?_) (fun hk9 => ?_)
    · exact absurd (show False by (have hh := h; have hk := hk9; simp only [cCmp, cE2, sev, svl, cen, List.cons_append, List.nil_append] at hh hk; omega)) id
    · refine d_call ⟨m_name (d := 29) hp (a := M 107 0 (i + 1)) (g := M 107 0 (i + 2)) (s := 1) hx.1 (by rw [hx.2.1 1 0 2 (by decide) (by decide) (by decide) (by decide)]; exact h1) h9 (by omega), fun rr M9 q => ?_⟩ (by simp [cAs, cE2, sev, svl, cen]) ?_
      · obtain ⟨r, -, q, -⟩ := q
        exact ⟨fun i => q.2.1 107 0 i (by decide) (by decide), q.2.1 108 0 0 (by decide) (by decide)⟩
      rintro rr M2 ⟨r', rfl, hm, -⟩
      refine ⟨rfl, ?_⟩
      obtain ⟨er, hz⟩ := fin 1 r r' M1 M2 hx hx3 hm
      refine d_rng (by simp only [clo, chi, cE2, sev, svl, cen, List.cons_append, List.nil_append]; omega) ?_
      exact d_cut [((i + 7 : Nat) : Int)] (by simp [cE2, sev, svl, cen] <;> omega) ⟨rfl, rfl, hz⟩
set_option maxHeartbeats 4000000 in
theorem lc3 (hp : cPl tm tc tf EX) (hI : sI tg M) (hR : Rn M) (h3 : M 3 0 1 = (n : Int)) (h1 : M 1 0 2 = (n : Int)) (h9 : n ≤ 1000) (hL : M 108 0 0 = (L : Int)) (hi : i + 7 ≤ L) (hL9 : L ≤ 3584) : cden (lE EX l dC dI cA ad) (fun _ _ => False) (fun pc v M2 => pc = 23 ∧ v = [((i + 7 : Nat) : Int)] ∧ Rz M M2) 100 lS3 [(i : Int)] M := by
  have hRn := hR
  obtain ⟨g1, g2, g3, g4, g5, g6, g7⟩ := hR
  refine d_rng (by simp only [clo, chi, cE2, sev, svl, cen, List.cons_append, List.nil_append]; omega) ?_
  refine d_scr (i + 1) (by simp only [cE2, sev, svl, cen, List.cons_append, List.nil_append]; omega) (by rw [hL]; omega) ?_
  refine d_rng (by simp only [clo, chi, cE2, sev, svl, cen, List.cons_append, List.nil_append]; omega) ?_
  refine d_scr (i + 2) (by simp only [cE2, sev, svl, cen, List.cons_append, List.nil_append]; omega) (by rw [hL]; omega) ?_
  refine d_call ⟨b_alike (d := 29) hp (a := M 107 0 (i + 1)) (b := M 107 0 (i + 2)) hI, fun rr M9 q => ⟨fun i => by rw [q.1], by rw [q.1]⟩⟩ (by simp [cAs, cE2, sev, svl, cen]) ?_
  rintro rr M1 ⟨rfl, r, rfl, hx⟩
  refine ⟨rfl, ?_⟩
  refine d_rng (by simp only [clo, chi, cE2, sev, svl, cen, List.cons_append, List.nil_append]; omega) ?_
  refine d_scr (i + 1) (by simp only [cE2, sev, svl, cen, List.cons_append, List.nil_append]; omega) (by rw [hL]; omega) ?_
  refine d_rng (by simp only [clo, chi, cE2, sev, svl, cen, List.cons_append, List.nil_append]; omega) ?_
  refine d_scr (i + 2) (by simp only [cE2, sev, svl, cen, List.cons_append, List.nil_append]; omega) (by rw [hL]; omega) ?_
  refine d_call ⟨m_alike (d := 29) hp (a := M1 107 0 (i + 1)) (b := M1 107 0 (i + 2)) hI, fun rr M9 q => ⟨fun i => q.2.1 107 0 i (by omega), q.2.1 108 0 0 (by decide)⟩⟩ (by simp [cAs, cE2, sev, svl, cen]) ?_
  rintro rr M2 ⟨i2, f2, r', rfl, hm⟩
  refine ⟨rfl, ?_⟩
  rw [← g2, ← g5, ← g6] at hm
  have er := wLk_eq hx hm
  refine d_br (fun h => ?_) (fun h => ?_)
  · refine d_rng (by simp only [clo, chi, cE2, sev, svl, cen, List.cons_append, List.nil_append]; omega) ?_
    refine d_cut [((i + 7 : Nat) : Int)] (by simp [cE2, sev, svl, cen] <;> omega) ⟨rfl, rfl, i2, Rn_congr (fun f hf => ?_) hRn, ?_, fun f j k z => f2 f j k (fun q => z (by rw [q.1]; decide))⟩
    · funext k
      refine f2 f 0 k (fun q => ?_)
      rw [q.1] at hf
      revert hf
      decide
    · rw [f2 3 0 1 (by decide), f2 1 0 2 (by decide), h3, h1]
  · simp only [cCmp, cE2, sev, svl, cen, List.cons_append, List.nil_append] at h
    omega
end LCS
