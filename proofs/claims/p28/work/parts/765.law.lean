/-! one turn of the law's loop -/
def lmd : List (Nat × Nat) := [(1, 0), (1, 2), (1, 3), (1, 7), (1, 8), (1, 10), (1, 11), (1, 28), (1, 32), (1, 34), (1, 39), (1, 50), (1, 56), (2, 0), (3, 1), (3, 2), (3, 3), (6, 0), (7, 3), (7, 4), (7, 14), (7, 15), (7, 16), (7, 17), (7, 18), (9, 3), (9, 4), (9, 5), (9, 6), (9, 7), (9, 9), (9, 10), (9, 11), (10, 12), (10, 13), (11, 5), (11, 6), (12, 0), (13, 0), (14, 0), (15, 0), (17, 0), (18, 0), (19, 0), (20, 0), (21, 0), (22, 0), (23, 0), (24, 0), (25, 0), (26, 0), (27, 0), (28, 0), (29, 0), (30, 0), (31, 0), (32, 0), (33, 0), (34, 0), (35, 0), (36, 0), (37, 0), (38, 0), (39, 0), (40, 0), (41, 0), (42, 0), (43, 0), (44, 0), (45, 0), (46, 0), (47, 0), (48, 0), (49, 0), (50, 0), (51, 0), (52, 0), (53, 0), (54, 0), (55, 0), (56, 0), (57, 0), (58, 0), (59, 0), (60, 0), (61, 0), (62, 0), (63, 0), (64, 0), (64, 1), (64, 2), (64, 3), (64, 4), (64, 5), (65, 0), (66, 0), (67, 0), (68, 0), (69, 0), (70, 0), (71, 0), (72, 0), (73, 0), (74, 0), (74, 1), (75, 0), (75, 1), (76, 0), (77, 0), (78, 0), (79, 0), (80, 0), (81, 0), (82, 0), (83, 0), (84, 0), (85, 0), (86, 0), (87, 0), (88, 0), (89, 0), (90, 0), (91, 0), (92, 0), (93, 0), (94, 0), (95, 0), (96, 0), (97, 0), (98, 0), (99, 0), (100, 0), (100, 999999), (101, 0), (102, 0), (103, 0), (104, 0), (105, 0), (106, 0)]
def lvN : SL := [(0, 3, 0, (0, [])), (1, 2, 0, (0, [])), (2, 2, 1, (0, [])), (3, 2, 2, (0, [])), (4, 0, 0, (0, [(0, 1)]))]
def lwN (nc ns : Nat) : SW := (([(108, (0, []), (0, []), (0, [(1, 1)]))], [(2, [(-1, [])]), (6, [])]), 2, ([(0, 0, 3584), (1, 0, 3584)], []), nc, ns)
def lrk : SE := (3584, [(0, -1)])
def lB : SCu := (23, lvN, [], lwN 1 1000, lrk)
def lawE (Y : SS) : Bool := cond (Nat.beq Y.1 1478) (match Y.2.2.1 with
  | [v] => Nat.beq v.1 0 && (sbeq v.2.2 (1, []) && (Nat.ble Y.2.2.2.2.2.2.1 50 && Nat.ble Y.2.2.2.2.2.2.2 5000))
  | _ => false) (sis (scut tg 0 (some lrk) Y.1 Y.2.1 Y.2.2.1 [lB] Y.2.2.2))
noncomputable def lawR : SX := sstep tm tc tf tg tcs lmd [] 99999 33 [23] true (sgo tm tc tf tg tcs lmd [] 99999 33 [23] 3000) 0 33 23 lvN [] (lwN 0 0)
noncomputable def lawT : Bool := match lawR with
  | some ys => sall lawE ys
  | none => false
theorem lawT_ok : lawT = true := by decide +kernel
theorem lawE_ok {ys : List SS} (h : lawR = some ys) : sall lawE ys = true := by
  have h9 := lawT_ok
  unfold lawT at h9
  rw [h] at h9
  exact h9
section SLW
variable {l : Launch} {dC : Nat → ClassId} {dI : Nat → Nat → Nat} {cA : Nat → ClassId} {aK aV sa : Nat} {tx : String} {p : Program} {e : Env} {R : Room} {s : State} {m : MethodId} {args : Array Value} {below : List Frame} {meth : Method} {c : Code} {Q : State → Prop} {A : Nat → Prop} {scr : Nat} {ρP : Nat → Int} {M0 : SMem} {ad0 : SAd}
set_option maxHeartbeats 4000000 in
theorem tLoop (hst : l.stackTraces = false) (F : sF 33 (RL, yL_law, cL_law, 7, some .boolean, 50, 5000) (zEX aK aV sa tx) p R s m args c dC dI cA A) (hscr : sSCR tg scr s A M0 (lmd, [])) {nE sE : Nat} (Hf : ∀ (H : Heap) (locs : List Loc) (ls : Array Slot), va_S A s.heap H locs → W p l e R s m args below meth c H locs nE sE Q (F0 m 1478 ls [.int 1])) (hE1 : nE ≤ R.cells) (hE2 : sE ≤ R.slots) : ∀ (n : Nat) (ρ : Nat → Int) (M : SMem) (ad : SAd) (ws : va_W) (H : Heap) (locs : List Loc) (ls : Array Slot) (clv : ZL) (cst : List Value) (nc ns : Nat), sRel tf tg sX sfI (lmd, []) scr 0 ρP M0 ad0 dC dI cA A s.heap 7 lvN [] (lwN 0 0) ρ M ad ws H locs ls clv cst → sev ρ lrk < (n : Int) → nc + n + 50 ≤ nE → ns + 1000 * n + 5000 ≤ sE → W p l e R s m args below meth c H locs nc ns Q (F0 m 23 ls cst) := by
  have hX : sCtx tm tf tg (zEX aK aV sa tx) l dC dI cA aK tcs 99999 := zCtx (fun kc Cs h C hC hlt => tAll hst 99999 kc Cs h C hC hlt) (fun _ => tLAY hst)
  have hgo := sgo_ok (md := lmd) (wl := []) (D0 := 33) (cuts := [23]) hX ttab 3000
  have hstp := sstep_ok (cuts := [23]) hX ttab hgo true
  intro n
  induction n with
  | zero =>
    intro ρ M ad ws H locs ls clv cst nc ns hr hlt
    have h0 := hr.1.2.2.1 (0, 0, 3584) (List.Mem.head _)
    simp only [lrk, sev, svl] at hlt h0
    omega
  | succ n ih =>
    intro ρ M ad ws H locs ls clv cst nc ns hr hlt hn1 hn2
    cases hys : lawR with
    | none =>
      have h9 := lawT_ok
      unfold lawT at h9
      rw [hys] at h9
      cases h9
    | some ys =>
      have hall := lawE_ok hys
      have hW := hstp 0 33 23 lvN [] (lwN 0 0) ys (Nat.le_refl _) ⟨ys, hys, fun _ h => h⟩ (RL, yL_law, cL_law, 7, some .boolean, 50, 5000) rfl p e R s m args below meth c Q A (lmd, []) scr 2 ρ M0 ad0 nc ns F (show nc + 50 ≤ R.cells by omega) (show ns + 5000 ≤ R.slots by omega) ⟨rfl, fun q hq => by cases hq⟩ (fun _ => hscr) (fun q => absurd rfl q) (fun Y hY => ?_)
      · exact hW ρ M ad ws H locs ls clv cst ⟨⟨fun _ _ => rfl, Nat.le_refl _, hr.1.2.2⟩, hr.2⟩
      · have hce := sall_ok hall Y hY
        intro ρ' M' ad' ws' H' locs' ls' clv' cst' hr'
        unfold lawE at hce
        cases h78 : Nat.beq Y.1 1478 with
        | true =>
          rw [h78, cond_true] at hce
          have e78 := Nat.beq_eq.mp h78
          obtain ⟨pcY, lvY, stY, wY⟩ := Y
          simp only at e78 hce hr' ⊢
          subst e78
          match stY, hce, hr' with
          | [v], hce, hr' =>
            simp only [Bool.and_eq_true] at hce
            obtain ⟨g1, g2, g3, g4⟩ := hce
            have c1 := Nat.le_of_ble_eq_true g3
            have c2 := Nat.le_of_ble_eq_true g4
            obtain ⟨cv, cr, rfl, h7, h8⟩ := svs_cons hr'.2.2.2.2.2.2.2
            cases svs_nil h8
            obtain ⟨x, rfl, ex⟩ := sv_int g1 h7
            rw [sbeq_ok g2] at ex
            have e1 : x = 1 := Int32.toInt_inj.mp ex
            subst e1
            exact W.widen (by omega) (by omega) (Hf H' locs' ls' hr'.2.2.2.2.1)
        | false =>
          rw [h78, cond_false] at hce
          obtain ⟨xs, hs⟩ := sis_ok hce
          obtain ⟨B, hB, e1, ρB, clvB, b1, b2, b3, b4⟩ := scut_ok (ρP := ρP) tST (Nat.zero_le _) (fun t ht => absurd ht (Nat.not_lt_zero t)) (fun a ha => by cases ha; rfl) (fun B hB => Nat.zero_le _) hr' hs
          rcases List.mem_cons.mp hB with rfl | hB
          · have hlt2 := b4 _ rfl
            have e1 : 23 = Y.1 := e1
            have b2 : Y.2.2.2.2.2.2.1 ≤ 1 := b2
            have b3 : Y.2.2.2.2.2.2.2 ≤ 1000 := b3
            rw [← e1]
            exact ih ρB M' ad' ws' H' locs' ls' clvB cst' _ _ b1 (by have : sev ρB lrk < sev ρ lrk := hlt2; omega) (by omega) (by omega)
          · cases hB
end SLW
