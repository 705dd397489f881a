/-! one turn of the law's loop; names and tapes are alike at its head -/
def lmd : List (Nat × Nat) := [(1, 0), (1, 2), (1, 3), (1, 7), (1, 8), (1, 39), (1, 50), (1, 56), (2, 0), (3, 1), (9, 3), (9, 4), (9, 5), (9, 6), (9, 7), (9, 9), (9, 10), (9, 11), (10, 12), (10, 13), (11, 5), (11, 6), (13, 0), (14, 0), (15, 0), (37, 0), (38, 0), (39, 0), (40, 0), (41, 0), (42, 0), (43, 0), (44, 0), (45, 0), (46, 0), (47, 0), (48, 0), (49, 0), (50, 0), (51, 0), (52, 0), (53, 0), (54, 0), (55, 0), (56, 0), (74, 0), (74, 1), (75, 0), (75, 1), (76, 0), (77, 0), (78, 0), (79, 0), (80, 0), (81, 0), (82, 0), (83, 0), (84, 0), (85, 0), (86, 0), (87, 0), (88, 0), (89, 0), (90, 0), (96, 0), (97, 0), (98, 0), (99, 0), (100, 0), (100, 999999), (101, 0), (102, 0), (103, 0), (104, 0), (105, 0), (106, 0)]
def lwN (nc ns : Nat) : SW := (([(3, (0, []), (1, []), (0, [(2, 1)])), (1, (0, []), (2, []), (0, [(2, 1)])), (108, (0, []), (0, []), (0, [(1, 1)]))], [(2, [(-1, [])]), (6, [])]), 3, ([(0, 0, 3584), (1, 0, 3584), (2, 0, 1000)], []), nc, ns)
def lrk : SE := (3584, [(0, -1)])
def lB : SCu := (23, lvN, [], lwN 1 1000, lrk)
/-- at the cases told by function -/
def lwC : SW := (([(3, (0, []), (1, []), (0, [(2, 1)])), (1, (0, []), (2, []), (0, [(2, 1)])), (108, (0, []), (0, []), (0, [(1, 1)]))], [(2, [(-1, [])]), (6, [])]), 3, ([(0, 0, 3584), (1, 0, 3584), (2, 0, 1000)], [(-7, [(0, -1), (1, 1)])]), 0, 0)
def lrC : SE := (3583, [(0, -1)])
def lC0 : SCu := (176, lvN, [], lwC, lrC)
def lC1 : SCu := (323, lvN, [], lwC, lrC)
def lC4 : SCu := (462, lvN, [], lwC, lrC)
def lC5 : SCu := (535, lvN, [], lwC, lrC)
def lC6 : SCu := (596, lvN, [], lwC, lrC)
def lC7 : SCu := (621, lvN, [], lwC, lrC)
def lC11 : SCu := (784, lvN, [], lwC, lrC)
def lC12 : SCu := (821, lvN, [], lwC, lrC)
def lC13 : SCu := (846, lvN, [], lwC, lrC)
def lC14 : SCu := (883, lvN, [], lwC, lrC)
def lC15 : SCu := (920, lvN, [], lwC, lrC)
def lC16 : SCu := (957, lvN, [], lwC, lrC)
def lC17 : SCu := (994, lvN, [], lwC, lrC)
def lC18 : SCu := (1019, lvN, [], lwC, lrC)
def lawE (Y : SS) : Bool := cond (Nat.beq Y.1 1478) (match Y.2.2.1 with
  | [v] => Nat.beq v.1 0 && (sbeq v.2.2 (1, []) && (Nat.ble Y.2.2.2.2.2.2.1 50 && Nat.ble Y.2.2.2.2.2.2.2 5000))
  | _ => false) (sis (scut tg 0 (some lrk) Y.1 Y.2.1 Y.2.2.1 [lB, lC0, lC1, lC4, lC5, lC6, lC7, lC11, lC12, lC13, lC14, lC15, lC16, lC17, lC18] Y.2.2.2))
noncomputable def lawR : SX := sstep tm tc tf tg tcs lmd [] 99999 33 [23, 176, 323, 462, 535, 596, 621, 784, 821, 846, 883, 920, 957, 994, 1019] true (sgo tm tc tf tg tcs lmd [] 99999 33 [23, 176, 323, 462, 535, 596, 621, 784, 821, 846, 883, 920, 957, 994, 1019] 3000) 0 33 23 lvN [] (lwN 0 0)
noncomputable def lawT : Bool := match lawR with
  | some ys => sall lawE ys
  | none => false
theorem lawT_ok : lawT = true := by decide +kernel
theorem lawE_ok {ys : List SS} (h : lawR = some ys) : sall lawE ys = true := by
  have h9 := lawT_ok
  unfold lawT at h9
  rw [h] at h9
  exact h9
def lSM : List Nat := 7 :: lSR
theorem lmd_row : ∀ f, f ∈ lSM → ∀ c, (f, c) ∉ lmd := by
  have h : lmd.all (fun q => !(lSM.contains q.1)) = true := by decide +kernel
  intro f hf c hc
  have h1 := List.all_eq_true.mp h (f, c) hc
  rw [Bool.not_eq_true'] at h1
  have h2 : lSM.contains f = true := List.contains_iff_mem.mpr hf
  rw [h2] at h1
  cases h1
theorem lmd_1 : ∀ i, i ∈ [28, 32, 34] → (1, scl tg 1 i) ∉ lmd := by
  intro i hi
  rw [scl_1]
  have h : [28, 32, 34].all (fun i => !(lmd.contains (1, i))) = true := by decide +kernel
  have h1 := List.all_eq_true.mp h i hi
  rw [Bool.not_eq_true'] at h1
  intro z
  rw [List.contains_iff_mem.mpr z] at h1
  cases h1
def spe (f : Nat) : SF := match tf[f]? with
  | some en => en
  | none => (0, 0, 0, .inr (0, 0, 0, 0))
section SLW
variable {l : Launch} {dC : Nat → ClassId} {dI : Nat → Nat → Nat} {cA : Nat → ClassId} {aK aV sa : Nat} {tx : String} {p : Program} {e : Env} {R : Room} {s : State} {m : MethodId} {args : Array Value} {below : List Frame} {meth : Method} {c : Code} {Q : State → Prop} {A : Nat → Prop} {scr : Nat} {ρP : Nat → Int}
set_option maxHeartbeats 4000000 in
theorem tLoop (hst : l.stackTraces = false) (F : sF 33 (RL, yL_law, cL_law, 7, some .boolean, 50, 5000) (zEX aK aV sa tx) p R s m args c dC dI cA A) {nE sE : Nat} (Hf : ∀ (H : Heap) (locs : List Loc) (ls : Array Slot), va_S A s.heap H locs → W p l e R s m args below meth c H locs nE sE Q (F0 m 1478 ls [.int 1])) (hE1 : nE ≤ R.cells) (hE2 : sE ≤ R.slots) : ∀ (n : Nat) (ρ : Nat → Int) (M : SMem) (ad : SAd) (ws : va_W) (H : Heap) (locs : List Loc) (ls : Array Slot) (clv : ZL) (cst : List Value) (nc ns : Nat), sRel tf tg sX sfI (lmd, []) scr 0 ρP M ad dC dI cA A s.heap 7 lvN [] (lwN 0 0) ρ M ad ws H locs ls clv cst → Rs M → sSCR tg scr s A M (lmd, []) → sev ρ lrk < (n : Int) → nc + n + 50 ≤ nE → ns + 1000 * n + 5000 ≤ sE → W p l e R s m args below meth c H locs nc ns Q (F0 m 23 ls cst) := by
  have hX : sCtx tm tf tg (zEX aK aV sa tx) l dC dI cA aK tcs 99999 := zCtx (fun kc Cs h C hC hlt => tAll hst 99999 kc Cs h C hC hlt) (fun _ => tLAY hst)
  have hp : cPl tm tc tf (zEX aK aV sa tx) := ⟨hX.1, tInj, tfmok, hX.2.2.2.2.2.1, ttab⟩
  have hgo := sgo_ok (md := lmd) (wl := []) (D0 := 33) (cuts := [23, 176, 323, 462, 535, 596, 621, 784, 821, 846, 883, 920, 957, 994, 1019]) hX ttab 3000
  have hstp := sstep_ok (cuts := [23, 176, 323, 462, 535, 596, 621, 784, 821, 846, 883, 920, 957, 994, 1019]) hX ttab hgo true
  intro n
  induction n with
  | zero =>
    intro ρ M ad ws H locs ls clv cst nc ns hr hR hscr hlt
    have h0 := hr.1.2.2.1 (0, 0, 3584) (List.Mem.head _)
    simp only [lrk, sev, svl] at hlt h0
    omega
  | succ n ih =>
    intro ρ M ad ws H locs ls clv cst nc ns hr hR hscr hlt hn1 hn2
    -- from a case told by function on
    have hcmp : ∀ (pc : Nat) (Lc : List CN), cchk1 tm tc tf [(23, lvN)] 0 1000 (pc, lvN, 1, Lc) = true → (∀ {L : Nat} (ad : SAd) (n i : Nat) (M : SMem), sI tg M → Rs M → sX M → M 3 0 1 = (n : Int) → M 1 0 2 = (n : Int) → n ≤ 1000 → M 108 0 0 = (L : Int) → i + 7 ≤ L → L ≤ 3584 → cden (lE (zEX aK aV sa tx) l dC dI cA ad) (fun _ _ => False) (fun pc v M2 => pc = 23 ∧ v = [((i + 7 : Nat) : Int)] ∧ Rqs M M2) 100 Lc [(i : Int)] M) → ∀ (ρ : Nat → Int) (M : SMem) (ad : SAd) (ws : va_W) (H : Heap) (locs : List Loc) (ls : Array Slot) (clv : ZL) (cst : List Value), sRel tf tg sX sfI (lmd, []) scr 0 ρP M ad dC dI cA A s.heap 7 lvN [] lwC ρ M ad ws H locs ls clv cst → Rs M → sSCR tg scr s A M (lmd, []) → sev ρ lrC < (n : Int) → W p l e R s m args below meth c H locs nc ns Q (F0 m pc ls cst) := by
      intro pc Lc hchk hcd ρ M ad ws H locs ls clv cst hr hR hscr hlt
      obtain ⟨⟨-, -, hK1, hK2⟩, ⟨m1, ⟨m2, m2x⟩, ⟨m3, m4⟩, m5⟩, q1, q2, q3, q4, q5, q6⟩ := hr
      cases svs_nil q6
      have b0 : 0 ≤ ρ 0 ∧ ρ 0 ≤ 3584 := hK1 (0, 0, 3584) (List.Mem.head _)
      have b1 : 0 ≤ ρ 1 ∧ ρ 1 ≤ 3584 := hK1 (1, 0, 3584) (List.Mem.tail _ (List.Mem.head _))
      have b2 : 0 ≤ ρ 2 ∧ ρ 2 ≤ 1000 := hK1 (2, 0, 1000) (List.Mem.tail _ (List.Mem.tail _ (List.Mem.head _)))
      have br := hK2 (-7, [(0, -1), (1, 1)]) (List.Mem.head _)
      simp only [sev, svl] at br
      have k1 : M 3 0 1 = ρ 2 := by
        obtain ⟨jj, ii, e1, e2, e3⟩ := m3 (3, (0, []), (1, []), (0, [(2, 1)])) (List.Mem.head _)
        simp only [sev, svl] at e1 e2 e3
        have w1 : jj = 0 := by omega
        have w2 : ii = 1 := by omega
        subst w1 w2
        omega
      have k2 : M 1 0 2 = ρ 2 := by
        obtain ⟨jj, ii, e1, e2, e3⟩ := m3 (1, (0, []), (2, []), (0, [(2, 1)])) (List.Mem.tail _ (List.Mem.head _))
        simp only [sev, svl] at e1 e2 e3
        have w1 : jj = 0 := by omega
        have w2 : ii = 2 := by omega
        subst w1 w2
        omega
      have k3 : M 108 0 0 = ρ 1 := by
        obtain ⟨jj, ii, e1, e2, e3⟩ := m3 (108, (0, []), (0, []), (0, [(1, 1)])) (List.Mem.tail _ (List.Mem.tail _ (List.Mem.head _)))
        simp only [sev, svl] at e1 e2 e3
        have w1 : jj = 0 := by omega
        have w2 : ii = 0 := by omega
        subst w1 w2
        omega
      obtain ⟨L, xs, hX, hbl, hbA, hL31, hLm, hxs, h107, h108, h79⟩ := hscr
      obtain ⟨nn, hnn⟩ : ∃ nn : Nat, (nn : Int) = ρ 2 := ⟨(ρ 2).toNat, by omega⟩
      obtain ⟨ii, hii⟩ : ∃ ii : Nat, (ii : Int) = ρ 0 := ⟨(ρ 0).toNat, by omega⟩
      have hd := hcd (L := L) ad nn ii M m2 hR m2x (by omega) (by omega) (by omega) hLm (by omega) (by omega)
      have e0 : ρ 0 = cen [(ii : Int)] 0 := hii.symm
      have hls : sls tf scr (cen [(ii : Int)]) ad lvN clv := sls_ag (n := 1) (fun t ht => by
        have : t = 0 := by omega
        subst this
        exact e0.symm) (by decide) q5
      refine cLaw hp hchk F hX hbl hbA (by omega) (by omega) (fun v M2 ws2 H2 locs2 ls2 clv2 hS2 h2 p2 d2 s2 l2 c2 hC2 => ?_) rfl ⟨hLm, hxs⟩ m1 q1 q2 q3 q4 hls hd
      obtain ⟨rfl, hI2, hR2, hx2, hl2, hfr⟩ := hC2
      obtain ⟨ρ2, hρ2⟩ : ∃ ρ2 : Nat → Int, ρ2 = fun t => if t = 0 then ρ 0 + 7 else if t = 1 then ρ 1 else M2 3 0 1 := ⟨_, rfl⟩
      have t0 : ρ2 0 = ρ 0 + 7 := by rw [hρ2]; rfl
      have t1 : ρ2 1 = ρ 1 := by rw [hρ2]; rfl
      have t2 : ρ2 2 = M2 3 0 1 := by rw [hρ2]; rfl
      have b3 : 0 ≤ M2 3 0 1 ∧ M2 3 0 1 ≤ 1000 := hI2.1 3 1 (0, 1000) rfl 0
      refine ih ρ2 M2 ad ws2 H2 locs2 ls2 clv2 [] nc ns ⟨⟨fun t ht => absurd ht (Nat.not_lt_zero t), Nat.zero_le _, ⟨fun q hq => ?_, fun q hq => by cases hq⟩⟩, ⟨h2, ⟨hI2, hx2⟩, ⟨fun q hq => ?_, fun q hq => ?_⟩, ⟨fun _ _ _ _ => rfl, fun _ _ _ => rfl, fun q hq => by cases hq⟩⟩, p2, d2, s2, l2, ?_, trivial⟩ hR2 ⟨L, xs, hX, hbl, hbA, hL31, hS2.1, hS2.2, h107, h108, h79⟩ ?_ (by omega) (by omega)
      · simp only [lwN, List.mem_cons, List.not_mem_nil, or_false] at hq
        rcases hq with rfl | rfl | rfl
        · simp only [t0]; omega
        · simp only [t1]; omega
        · simp only [t2]; omega
      · simp only [lwN, List.mem_cons, List.not_mem_nil, or_false] at hq
        rcases hq with rfl | rfl | rfl
        · refine ⟨0, 1, rfl, rfl, ?_⟩
          simp only [sev, svl, t2]; omega
        · refine ⟨0, 2, rfl, rfl, ?_⟩
          rw [← hl2]
          simp only [sev, svl, t2]; omega
        · refine ⟨0, 0, rfl, rfl, ?_⟩
          rw [hfr _ _ _ (by decide)]
          simp only [sev, svl, t1]; omega
      · simp only [lwN, List.mem_cons, List.not_mem_nil, or_false] at hq
        rcases hq with rfl | rfl
        · have h4 := m4 (2, [(-1, [])]) (List.Mem.head _)
          refine sfI_congr (fun d hd j i _ _ => ?_) h4
          simp only [sfdv, List.map_cons, List.map_nil, List.mem_cons, List.not_mem_nil, or_false] at hd
          rcases hd with rfl | rfl | rfl | rfl <;> exact hfr _ _ _ (by decide)
        · have h4 := m4 (6, []) (List.Mem.tail _ (List.Mem.head _))
          refine sfI_congr (fun d hd j i _ _ => ?_) h4
          simp only [sfdv, List.map_nil, List.mem_cons, List.not_mem_nil, or_false] at hd
          rcases hd with rfl | rfl | rfl <;> exact hfr _ _ _ (by decide)
      · exact sls_ag (n := 1) (fun t ht => by
          have : t = 0 := by omega
          subst this
          rw [t0]
          show ρ 0 + 7 = ((ii + 7 : Nat) : Int)
          omega) (by decide) c2
      · simp only [lrk, lrC, sev, svl, t0] at hlt ⊢
        omega
    have rebase : ∀ {lvA : SL} {wA : SW} {ρ' : Nat → Int} {M' : SMem} {ad' : SAd} {ws' : va_W} {H' : Heap} {locs' : List Loc} {ls' : Array Slot} {clv' : ZL} {cst' : List Value}, sRel tf tg sX sfI (lmd, []) scr 0 ρP M ad dC dI cA A s.heap 7 lvA [] wA ρ' M' ad' ws' H' locs' ls' clv' cst' → sRel tf tg sX sfI (lmd, []) scr 0 ρP M' ad' dC dI cA A s.heap 7 lvA [] wA ρ' M' ad' ws' H' locs' ls' clv' cst' := fun h => ⟨h.1, ⟨h.2.1.1, h.2.1.2.1, h.2.1.2.2.1, ⟨fun _ _ _ _ => rfl, fun _ _ _ => rfl, fun q hq => by cases hq⟩⟩, h.2.2⟩
    have hrow : ∀ {lvA : SL} {wA : SW} {ρ' : Nat → Int} {M' : SMem} {ad' : SAd} {ws' : va_W} {H' : Heap} {locs' : List Loc} {ls' : Array Slot} {clv' : ZL} {cst' : List Value}, sRel tf tg sX sfI (lmd, []) scr 0 ρP M ad dC dI cA A s.heap 7 lvA [] wA ρ' M' ad' ws' H' locs' ls' clv' cst' → ∀ f, f ∈ lSM → M' f = M f := fun h f hf => by
      funext j i
      exact h.2.1.2.2.2.1 f j i (lmd_row f hf _)
    have hcg : ∀ {lvA : SL} {wA : SW} {ρ' : Nat → Int} {M' : SMem} {ad' : SAd} {ws' : va_W} {H' : Heap} {locs' : List Loc} {ls' : Array Slot} {clv' : ZL} {cst' : List Value}, sRel tf tg sX sfI (lmd, []) scr 0 ρP M ad dC dI cA A s.heap 7 lvA [] wA ρ' M' ad' ws' H' locs' ls' clv' cst' → Rs M → Rs M' := fun h hR => Rs_congr (fun f hf => hrow h f (List.mem_cons_of_mem _ hf)) (fun i _ => by rw [hrow h 7 (List.Mem.head _)]) (fun i hi => h.2.1.2.2.2.1 1 0 i (lmd_1 i hi)) hR
    have hscr2 : ∀ {lvA : SL} {wA : SW} {ρ' : Nat → Int} {M' : SMem} {ad' : SAd} {ws' : va_W} {H' : Heap} {locs' : List Loc} {ls' : Array Slot} {clv' : ZL} {cst' : List Value}, sRel tf tg sX sfI (lmd, []) scr 0 ρP M ad dC dI cA A s.heap 7 lvA [] wA ρ' M' ad' ws' H' locs' ls' clv' cst' → sSCR tg scr s A M' (lmd, []) := fun h => by
      obtain ⟨L, xs, hX, hbl, hbA, hL31, hLm, hxs, h107, h108, h79⟩ := hscr
      exact ⟨L, xs, hX, hbl, hbA, hL31, by rw [h.2.1.2.2.2.1 108 0 0 (h108 0)]; exact hLm, fun j hj => by rw [h.2.1.2.2.2.1 107 0 j (h107 j)]; exact hxs j hj, h107, h108, h79⟩
    cases hys : lawR with
    | none =>
      have h9 := lawT_ok
      unfold lawT at h9
      rw [hys] at h9
      cases h9
    | some ys =>
      have hall := lawE_ok hys
      have hW := hstp 0 33 23 lvN [] (lwN 0 0) ys (Nat.le_refl _) ⟨ys, hys, fun _ h => h⟩ (RL, yL_law, cL_law, 7, some .boolean, 50, 5000) rfl p e R s m args below meth c Q A (lmd, []) scr 3 ρ M ad nc ns F (show nc + 50 ≤ R.cells by omega) (show ns + 5000 ≤ R.slots by omega) ⟨rfl, fun q hq => by cases hq⟩ (fun _ => hscr) (fun q => absurd rfl q) (fun Y hY => ?_)
      · exact hW ρ M ad ws H locs ls clv cst ⟨⟨fun _ _ => rfl, Nat.le_refl _, hr.1.2.2⟩, hr.2⟩
      · have hce := sall_ok hall Y hY
        intro ρ' M' ad' ws' H' locs' ls' clv' cst' hr'
        unfold lawE at hce
        cases h78 : Nat.beq Y.1 1478 with
        | true =>
          rw [h78, cond_true] at hce
          have e78 := Nat.beq_eq.mp h78
          obtain ⟨pcY, lvY, stY, wY⟩ := Y
          simp only at e78 hce hr' ⊢
          subst e78
          match stY, hce, hr' with
          | [v], hce, hr' =>
            simp only [Bool.and_eq_true] at hce
            obtain ⟨g1, g2, g3, g4⟩ := hce
            have c1 := Nat.le_of_ble_eq_true g3
            have c2 := Nat.le_of_ble_eq_true g4
            obtain ⟨cv, cr, rfl, h7, h8⟩ := svs_cons hr'.2.2.2.2.2.2.2
            cases svs_nil h8
            obtain ⟨x, rfl, ex⟩ := sv_int g1 h7
            rw [sbeq_ok g2] at ex
            have e1 : x = 1 := Int32.toInt_inj.mp ex
            subst e1
            exact W.widen (by omega) (by omega) (Hf H' locs' ls' hr'.2.2.2.2.1)
        | false =>
          rw [h78, cond_false] at hce
          obtain ⟨xs, hs⟩ := sis_ok hce
          obtain ⟨B, hB, e1, ρB, clvB, b1, b2, b3, b4⟩ := scut_ok (ρP := ρP) tST (Nat.zero_le _) (fun t ht => absurd ht (Nat.not_lt_zero t)) (fun a ha => by cases ha; rfl) (fun B hB => Nat.zero_le _) hr' hs
          rcases List.mem_cons.mp hB with rfl | hB
          · have hlt2 := b4 _ rfl
            have e1 : 23 = Y.1 := e1
            have b2 : Y.2.2.2.2.2.2.1 ≤ 1 := b2
            have b3 : Y.2.2.2.2.2.2.2 ≤ 1000 := b3
            rw [← e1]
            exact ih ρB M' ad' ws' H' locs' ls' clvB cst' _ _ (rebase b1) (hcg b1 hR) (hscr2 b1) (by have : sev ρB lrk < sev ρ lrk := hlt2; omega) (by omega) (by omega)
          · rcases List.mem_cons.mp hB with rfl | hB
            · have hlt2 : sev ρB lrC < sev ρ lrk := b4 _ rfl
              have e1 : 176 = Y.1 := e1
              have b2 : Y.2.2.2.2.2.2.1 ≤ 0 := b2
              have b3 : Y.2.2.2.2.2.2.2 ≤ 0 := b3
              rw [← e1]
              refine W.widen (k := nc) (n := ns) (by omega) (by omega) ?_
              exact hcmp 176 lS0 lS0_ok (fun ad n i M hI hR hX h3 h1 h9 hL hi hL9 => lw0 hp (tBu hst hp) hI hR hX h3 h1 h9 hL hi hL9) ρB M' ad' ws' H' locs' ls' clvB cst' (rebase b1) (hcg b1 hR) (hscr2 b1) (by omega)
            · rcases List.mem_cons.mp hB with rfl | hB
              · have hlt2 : sev ρB lrC < sev ρ lrk := b4 _ rfl
                have e1 : 323 = Y.1 := e1
                have b2 : Y.2.2.2.2.2.2.1 ≤ 0 := b2
                have b3 : Y.2.2.2.2.2.2.2 ≤ 0 := b3
                rw [← e1]
                refine W.widen (k := nc) (n := ns) (by omega) (by omega) ?_
                exact hcmp 323 lS1 lS1_ok (fun ad n i M hI hR hX h3 h1 h9 hL hi hL9 => lw1 hp (tBu hst hp) hI hR hX h3 h1 h9 hL hi hL9) ρB M' ad' ws' H' locs' ls' clvB cst' (rebase b1) (hcg b1 hR) (hscr2 b1) (by omega)
              · rcases List.mem_cons.mp hB with rfl | hB
                · have hlt2 : sev ρB lrC < sev ρ lrk := b4 _ rfl
                  have e1 : 462 = Y.1 := e1
                  have b2 : Y.2.2.2.2.2.2.1 ≤ 0 := b2
                  have b3 : Y.2.2.2.2.2.2.2 ≤ 0 := b3
                  rw [← e1]
                  refine W.widen (k := nc) (n := ns) (by omega) (by omega) ?_
                  exact hcmp 462 lS4 lS4_ok (fun ad n i M hI hR hX h3 h1 h9 hL hi hL9 => lw4 hp (tBu hst hp) hI hR hX h3 h1 h9 hL hi hL9) ρB M' ad' ws' H' locs' ls' clvB cst' (rebase b1) (hcg b1 hR) (hscr2 b1) (by omega)
                · rcases List.mem_cons.mp hB with rfl | hB
                  · have hlt2 : sev ρB lrC < sev ρ lrk := b4 _ rfl
                    have e1 : 535 = Y.1 := e1
                    have b2 : Y.2.2.2.2.2.2.1 ≤ 0 := b2
                    have b3 : Y.2.2.2.2.2.2.2 ≤ 0 := b3
                    rw [← e1]
                    refine W.widen (k := nc) (n := ns) (by omega) (by omega) ?_
                    exact hcmp 535 lS5 lS5_ok (fun ad n i M hI hR hX h3 h1 h9 hL hi hL9 => lw5 hp (tBu hst hp) hI hR hX h3 h1 h9 hL hi hL9) ρB M' ad' ws' H' locs' ls' clvB cst' (rebase b1) (hcg b1 hR) (hscr2 b1) (by omega)
                  · rcases List.mem_cons.mp hB with rfl | hB
                    · have hlt2 : sev ρB lrC < sev ρ lrk := b4 _ rfl
                      have e1 : 596 = Y.1 := e1
                      have b2 : Y.2.2.2.2.2.2.1 ≤ 0 := b2
                      have b3 : Y.2.2.2.2.2.2.2 ≤ 0 := b3
                      rw [← e1]
                      refine W.widen (k := nc) (n := ns) (by omega) (by omega) ?_
                      exact hcmp 596 lS6 lS6_ok (fun ad n i M hI hR hX h3 h1 h9 hL hi hL9 => lw6 hp (tBu hst hp) hI hR hX h3 h1 h9 hL hi hL9) ρB M' ad' ws' H' locs' ls' clvB cst' (rebase b1) (hcg b1 hR) (hscr2 b1) (by omega)
                    · rcases List.mem_cons.mp hB with rfl | hB
                      · have hlt2 : sev ρB lrC < sev ρ lrk := b4 _ rfl
                        have e1 : 621 = Y.1 := e1
                        have b2 : Y.2.2.2.2.2.2.1 ≤ 0 := b2
                        have b3 : Y.2.2.2.2.2.2.2 ≤ 0 := b3
                        rw [← e1]
                        refine W.widen (k := nc) (n := ns) (by omega) (by omega) ?_
                        exact hcmp 621 lS7 lS7_ok (fun ad n i M hI hR hX h3 h1 h9 hL hi hL9 => lw7 hp (tBu hst hp) hI hR hX h3 h1 h9 hL hi hL9) ρB M' ad' ws' H' locs' ls' clvB cst' (rebase b1) (hcg b1 hR) (hscr2 b1) (by omega)
                      · rcases List.mem_cons.mp hB with rfl | hB
                        · have hlt2 : sev ρB lrC < sev ρ lrk := b4 _ rfl
                          have e1 : 784 = Y.1 := e1
                          have b2 : Y.2.2.2.2.2.2.1 ≤ 0 := b2
                          have b3 : Y.2.2.2.2.2.2.2 ≤ 0 := b3
                          rw [← e1]
                          refine W.widen (k := nc) (n := ns) (by omega) (by omega) ?_
                          exact hcmp 784 lS11 lS11_ok (fun ad n i M hI hR hX h3 h1 h9 hL hi hL9 => lw11 hp (tBu hst hp) hI hR hX h3 h1 h9 hL hi hL9) ρB M' ad' ws' H' locs' ls' clvB cst' (rebase b1) (hcg b1 hR) (hscr2 b1) (by omega)
                        · rcases List.mem_cons.mp hB with rfl | hB
                          · have hlt2 : sev ρB lrC < sev ρ lrk := b4 _ rfl
                            have e1 : 821 = Y.1 := e1
                            have b2 : Y.2.2.2.2.2.2.1 ≤ 0 := b2
                            have b3 : Y.2.2.2.2.2.2.2 ≤ 0 := b3
                            rw [← e1]
                            refine W.widen (k := nc) (n := ns) (by omega) (by omega) ?_
                            exact hcmp 821 lS12 lS12_ok (fun ad n i M hI hR hX h3 h1 h9 hL hi hL9 => lw12 hp (tBu hst hp) hI hR hX h3 h1 h9 hL hi hL9) ρB M' ad' ws' H' locs' ls' clvB cst' (rebase b1) (hcg b1 hR) (hscr2 b1) (by omega)
                          · rcases List.mem_cons.mp hB with rfl | hB
                            · have hlt2 : sev ρB lrC < sev ρ lrk := b4 _ rfl
                              have e1 : 846 = Y.1 := e1
                              have b2 : Y.2.2.2.2.2.2.1 ≤ 0 := b2
                              have b3 : Y.2.2.2.2.2.2.2 ≤ 0 := b3
                              rw [← e1]
                              refine W.widen (k := nc) (n := ns) (by omega) (by omega) ?_
                              exact hcmp 846 lS13 lS13_ok (fun ad n i M hI hR hX h3 h1 h9 hL hi hL9 => lw13 hp (tBu hst hp) hI hR hX h3 h1 h9 hL hi hL9) ρB M' ad' ws' H' locs' ls' clvB cst' (rebase b1) (hcg b1 hR) (hscr2 b1) (by omega)
                            · rcases List.mem_cons.mp hB with rfl | hB
                              · have hlt2 : sev ρB lrC < sev ρ lrk := b4 _ rfl
                                have e1 : 883 = Y.1 := e1
                                have b2 : Y.2.2.2.2.2.2.1 ≤ 0 := b2
                                have b3 : Y.2.2.2.2.2.2.2 ≤ 0 := b3
                                rw [← e1]
                                refine W.widen (k := nc) (n := ns) (by omega) (by omega) ?_
                                exact hcmp 883 lS14 lS14_ok (fun ad n i M hI hR hX h3 h1 h9 hL hi hL9 => lw14 hp (tBu hst hp) hI hR hX h3 h1 h9 hL hi hL9) ρB M' ad' ws' H' locs' ls' clvB cst' (rebase b1) (hcg b1 hR) (hscr2 b1) (by omega)
                              · rcases List.mem_cons.mp hB with rfl | hB
                                · have hlt2 : sev ρB lrC < sev ρ lrk := b4 _ rfl
                                  have e1 : 920 = Y.1 := e1
                                  have b2 : Y.2.2.2.2.2.2.1 ≤ 0 := b2
                                  have b3 : Y.2.2.2.2.2.2.2 ≤ 0 := b3
                                  rw [← e1]
                                  refine W.widen (k := nc) (n := ns) (by omega) (by omega) ?_
                                  exact hcmp 920 lS15 lS15_ok (fun ad n i M hI hR hX h3 h1 h9 hL hi hL9 => lw15 hp (tBu hst hp) hI hR hX h3 h1 h9 hL hi hL9) ρB M' ad' ws' H' locs' ls' clvB cst' (rebase b1) (hcg b1 hR) (hscr2 b1) (by omega)
                                · rcases List.mem_cons.mp hB with rfl | hB
                                  · have hlt2 : sev ρB lrC < sev ρ lrk := b4 _ rfl
                                    have e1 : 957 = Y.1 := e1
                                    have b2 : Y.2.2.2.2.2.2.1 ≤ 0 := b2
                                    have b3 : Y.2.2.2.2.2.2.2 ≤ 0 := b3
                                    rw [← e1]
                                    refine W.widen (k := nc) (n := ns) (by omega) (by omega) ?_
                                    exact hcmp 957 lS16 lS16_ok (fun ad n i M hI hR hX h3 h1 h9 hL hi hL9 => lw16 hp (tBu hst hp) hI hR hX h3 h1 h9 hL hi hL9) ρB M' ad' ws' H' locs' ls' clvB cst' (rebase b1) (hcg b1 hR) (hscr2 b1) (by omega)
                                  · rcases List.mem_cons.mp hB with rfl | hB
                                    · have hlt2 : sev ρB lrC < sev ρ lrk := b4 _ rfl
                                      have e1 : 994 = Y.1 := e1
                                      have b2 : Y.2.2.2.2.2.2.1 ≤ 0 := b2
                                      have b3 : Y.2.2.2.2.2.2.2 ≤ 0 := b3
                                      rw [← e1]
                                      refine W.widen (k := nc) (n := ns) (by omega) (by omega) ?_
                                      exact hcmp 994 lS17 lS17_ok (fun ad n i M hI hR hX h3 h1 h9 hL hi hL9 => lw17 hp (tBu hst hp) hI hR hX h3 h1 h9 hL hi hL9) ρB M' ad' ws' H' locs' ls' clvB cst' (rebase b1) (hcg b1 hR) (hscr2 b1) (by omega)
                                    · rcases List.mem_cons.mp hB with rfl | hB
                                      · have hlt2 : sev ρB lrC < sev ρ lrk := b4 _ rfl
                                        have e1 : 1019 = Y.1 := e1
                                        have b2 : Y.2.2.2.2.2.2.1 ≤ 0 := b2
                                        have b3 : Y.2.2.2.2.2.2.2 ≤ 0 := b3
                                        rw [← e1]
                                        refine W.widen (k := nc) (n := ns) (by omega) (by omega) ?_
                                        exact hcmp 1019 lS18 lS18_ok (fun ad n i M hI hR hX h3 h1 h9 hL hi hL9 => lw18 hp (tBu hst hp) hI hR hX h3 h1 h9 hL hi hL9) ρB M' ad' ws' H' locs' ls' clvB cst' (rebase b1) (hcg b1 hR) (hscr2 b1) (by omega)
                                      · cases hB
end SLW
