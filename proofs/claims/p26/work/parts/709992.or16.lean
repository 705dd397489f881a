/-! the class takes an order -/
noncomputable def ochk (cu : List (Nat × SL)) (k f n pc : Nat) (lv : SL) (st : List SV) (L : List CN) : Bool := match cgo tm tc tf cu k f n pc lv st with
  | some L' => clq cnbeq L' L
  | none => false
theorem ochk_ok {cu : List (Nat × SL)} {k f n pc : Nat} {lv : SL} {st : List SV} {L : List CN} (h : ochk cu k f n pc lv st L = true) : cgo tm tc tf cu k f n pc lv st = some L := by
  unfold ochk at h
  cases hc : cgo tm tc tf cu k f n pc lv st with
  | none => rw [hc] at h; cases h
  | some L' =>
    rw [hc] at h
    exact congrArg some (clq_ok cnbeq_ok h)
theorem oK0 : ochk [(23, oLv)] kX9_order 400 1 0 (sargs 0 oAsy) [] oL0 = true := by decide +kernel
theorem oK1 : ochk [] kX9_order 400 2 39 oLv [] oL1 = true := by decide +kernel
/-- the contract of the copying, as the symbolic engine has it -/
def oC1 : SC := (1, kX3_copy, [(2, 74, (0, [(0, 1)])), (2, 75, (0, []))], (([(75, (0, []), (1, []), (0, [(1, 1)])), (75, (0, []), (0, []), (0, [(2, 1)]))], [(7, [(0, [(1, 1)]), (0, [(2, 1)])]), (6, [])]), 3, ([(0, 0, 5), (1, 0, 1000), (2, 0, 12)], []), 0, 0), [(74, 0), (74, 1), (96, 0), (97, 0), (98, 0), (99, 0), (100, 0), (100, 999999), (106, 0)], [], [([], (([], [(6, [])]), 3, ([], []), 0, 0))], 1)
def oCts : List (List SC) := List.replicate kX3_copy [] ++ [[oC1]]
def oMd : List (Nat × Nat) := [(74, 0), (74, 1), (96, 0), (97, 0), (98, 0), (99, 0), (100, 0), (100, 999999), (106, 0)]
def oW9 : SW := (([(75, (0, []), (1, []), (0, [(2, 1)])), (75, (0, []), (0, []), (0, [(3, 1)]))], [(7, [(0, [(2, 1)]), (0, [(3, 1)])]), (6, [])]), 4, ([(0, 0, 5), (1, 0, 0), (2, 0, 1000), (3, 0, 12)], []), 0, 0)
def oEe (X : SS) : Bool := Nat.beq X.1 39 && (clq (fun a b => Nat.beq a.1 b.1 && cvbeq a.2 b.2) X.2.1 oLv && ((match X.2.2.1 with
  | [] => true
  | _ => false) && (Nat.ble X.2.2.2.2.2.2.1 1 && (Nat.ble X.2.2.2.2.2.2.2 1000 && X.2.2.2.1.2.any (fun q => Nat.beq q.1 6 && q.2.isEmpty)))))
noncomputable def oEr : Bool := match sgo tm tc tf tg oCts oMd [] 2 12 [39] 300 kX9_order 12 23 oLv [] oW9 with
  | some ys => sall oEe ys
  | none => false
theorem oEr_ok : oEr = true := by decide +kernel
/-- where taking an order writes -/
abbrev oXo (f i : Nat) : Prop := oPl f i ∨ f = 10 ∨ (f = 3 ∧ i = 1) ∨ f = 74 ∨ f = 96 ∨ f = 97 ∨ f = 98 ∨ f = 99 ∨ f = 100 ∨ f = 106
def oOP (T : Nat → Int) (L : Nat) (U : Nat → Int) (x : Int) (M : SMem) (ad : SAd) (r : Int) (M' : SMem) (ad' : SAd) : Prop := sI tg M' ∧ sX M' ∧ sEa M' ∧ oFm oXo M M' ∧ (∀ f j, f ≠ 100 → ad' f j = ad f j) ∧ M' 3 0 1 = 0 ∧ ((¬ (0 ≤ x ∧ x < 6) ∧ r = -1) ∨ ((0 ≤ x ∧ x < 6) ∧ oOQ T L U [r]))
def oC23 (T : Nat → Int) (L : Nat) (U : Nat → Int) (x : Int) (M M1 : SMem) : Prop := (0 ≤ x ∧ x < 6) ∧ sI tg M1 ∧ oFm oPl M M1 ∧ ∃ ls c, oRd T L U 14 0 (oS T L 0) [] = .ok ls ∧ ls.length ≤ 12 ∧ oSl M1 ls c
theorem sEa_m {M M' : SMem} (h : ∀ f j i, (f = 74 ∨ f = 99 ∨ f = 106) → M' f j i = M f j i) (hE : sEa M) : sEa M' := by
  intro r l hl hk
  rw [h 74 _ _ (by omega)] at hk
  rw [h 99 _ _ (by omega), h 106 _ _ (by omega)]
  exact hE r l hl hk
theorem sX_m {M M' : SMem} (h : ∀ f j i, (f = 27 ∨ f = 29 ∨ f = 50) → M' f j i = M f j i) (hE : sX M) : sX M' := sX_congr (by funext j i; exact h 29 j i (by omega)) (by funext j i; exact h 27 j i (by omega)) (by funext j i; exact h 50 j i (by omega)) hE
theorem oRd_ht {T : Nat → Int} {L : Nat} {U : Nat → Int} : ∀ {m lno s : Nat} {ls ls' : List OLn}, (∀ q ∈ ls, oHt q.2.2 0 = some 1) → oRd T L U m lno s ls = .ok ls' → ∀ q ∈ ls', oHt q.2.2 0 = some 1 := by
  intro m
  induction m with
  | zero => intro lno s ls ls' _ h; cases h
  | succ m ih =>
    intro lno s ls ls' h0 h
    have h : (if oK T L s = 24 then .ok ls else match oLin T L U lno s with
      | .error f => .error f
      | .ok q => oRd T L U m (lno + 1) q.1 (ls ++ [q.2])) = Except.ok ls' := h
    split at h
    · cases h
      exact h0
    · cases hl : oLin T L U lno s with
      | error f => rw [hl] at h; cases h
      | ok q =>
        rw [hl] at h
        refine ih (fun q' hq' => ?_) h
        rcases List.mem_append.mp hq' with z | z
        · exact h0 q' z
        · cases List.mem_singleton.mp z
          exact oLin_ht hl
theorem oSl_Es {M : SMem} {ls : List OLn} {c : List Int} (h0 : ∀ q ∈ ls, oHt q.2.2 0 = some 1) (h : oSl M ls c) : sEs M (M 75 0 1) (M 75 0 0) := by
  intro k hk
  rw [h.1] at hk
  have hl : k < ls.length := by omega
  have hg := List.getElem?_eq_getElem hl
  obtain ⟨-, -, fr, -, g2, g3⟩ := h.2.2.2 k ls[k] hg
  have h1 := h0 ls[k] (List.getElem_mem hl)
  have hne : ls[k].2.2.length ≠ 0 := fun q => by
    rw [List.length_eq_zero_iff.mp q] at h1
    cases h1
  obtain ⟨y, hy⟩ : ∃ y, ls[k].2.2[ls[k].2.2.length - 1]? = some y := ⟨_, List.getElem?_eq_getElem (l := ls[k].2.2) (i := ls[k].2.2.length - 1) (by omega)⟩
  have g4 := (List.getElem?_eq_some_iff.mp (g3 _ y hy)).1
  rw [g2, h.2.1]
  omega
section CO16
variable {EX : SEx} {l : Launch} {dC : Nat → ClassId} {dI : Nat → Nat → Nat} {cA : Nat → ClassId} {ad : SAd} {scrS : Nat} {T U : Nat → Int} {L : Nat}
set_option maxHeartbeats 4000000 in
theorem b_order (hp : cPl tm tc tf EX) (hX : sCtx tm tf tg EX l dC dI cA scrS oCts 2) {x : Int} {M : SMem} (hI : sI tg M) (hsX : sX M) (hEa : sEa M) (hT : M 57 0 = T) (hL : M 3 0 1 = (L : Int)) (hU : M 58 0 = U) (h9 : L ≤ 1000) {ws : va_W} {cas : List Value} (hH : sH tf ad M cA ws) (hs : svs tf scrS (fun _ => 0) ad ((cAs [x] oAsy).map cK) cas) : sRun 12 oMe EX l dC dI cA ws cas (fun rr ws' => ∃ (r : Int) (M' : SMem) (ad' : SAd), (∃ y : Int32, rr = [Value.int y] ∧ y.toInt = r) ∧ sH tf ad' M' cA ws' ∧ oOP T L U x M ad r M' ad') := by
  have htab : sTab tm tc := hp.2.2.2.2
  have hch : cCh EX l dC dI cA scrS := ⟨hX.2.2.2.1, hX.2.2.2.2.1⟩
  intro p e R s m args below meth c Q A ls F hP hD hl hend
  have hbc : 1 ≤ R.cells ∧ 1000 ≤ R.slots := F.2.2.2.2.2.2.2.2.1
  have hcl := hX.2.2.2.2.2.1
  -- behind the copying
  have tail : ∀ (M1 : SMem) (ad1 : SAd) (ws1 : va_W) (H1 : Heap) (locs1 : List Loc) (ls1 : Array Slot) (clv1 : ZL) (nc ns : Nat), nc ≤ 1 → ns ≤ 1000 → sI tg M1 → sX M1 → sEa M1 → oFm oXo M M1 → (∀ f j, f ≠ 100 → ad1 f j = ad f j) → (0 ≤ x ∧ x < 6) → oOQ T L U [0] → sH tf ad1 M1 cA ws1 → va_P (dC, dI) vwCl ws1 H1 → va_D A ws1 → va_S A s.heap H1 locs1 → lv_has ls1 3 clv1 → sls tf scrS (cen [x, 0]) ad1 oLv clv1 → W p l e R s m args below meth c H1 locs1 nc ns Q (F0 m 39 ls1 []) := by
    intro M1 ad1 ws1 H1 locs1 ls1 clv1 nc ns hn1 hn2 i1 x1 e1 f1 a1 hx hq k1 k2 k3 k4 k5 k6
    have hgo := cgo_ok (ad := ad1) (E := cBG tm tf EX l dC dI cA ad1 scrS 11) (scrS := scrS) (nc := nc) (ns := ns) (e := e) (below := below) (meth := meth) (Q := Q) (Sx := fun _ => True) (scr := scrS) (cu := []) (zc := tc) (C := fun _ _ _ => False) (Qr := fun rr M' => ∃ r : Int, rr = [r] ∧ oOP T L U x M ad r M' ad1) hX.1 hp.2.1 hp.2.2.1 hcl htab (fun _ _ _ _ _ _ _ => trivial) (fun _ _ _ _ _ _ _ _ _ => trivial) (fun _ _ _ _ h => h) F oMe_at rfl (by omega) (by omega) (fun q => by cases q) (fun q => absurd q (by decide)) (fun pc T hf => by cases hf) (fun pc rv rr M' ws' H' locs' ls' g1 g2 g3 _ g4 g5 g6 g7 => by
      obtain ⟨r, rfl, g3⟩ := g3
      obtain ⟨xs, rfl, hxs⟩ := g2
      match xs, hxs with
      | [y], hxs =>
        refine hend pc ls' [.int y] ws' H' locs' nc ns g1 ⟨r, M', ad1, ⟨y, rfl, ?_⟩, g4, g3⟩ g5 g6 g7 hn1 hn2
        have := congrArg List.head? hxs
        simpa using this) 400 2 39 oLv [] oL1 (ochk_ok oK1)
    refine hgo 90 [x, 0] M1 ws1 H1 locs1 ls1 clv1 [] rfl trivial k1 k2 k3 k4 k5 k6 trivial ?_
    refine d_call (b_forget5 (d := 10) hp i1) (by simp [cAs, cE2, sev, svl, cen]) ?_
    rintro rr M2 ⟨rfl, i2, f2⟩
    refine ⟨rfl, ?_⟩
    refine d_put 0 0 (by simp only [cE2, sev, svl, cen, List.cons_append, List.nil_append]; omega) (by simp only [cE2, sev, svl, cen, List.cons_append, List.nil_append]; omega) ?_
    refine d_ret [0] rfl (by decide) ⟨0, rfl, wI i2 (lo := 0) (hi := 1000) rfl ⟨by omega, by omega⟩, sX_m (fun f j i hf => ?_) x1, sEa_m (fun f j i hf => ?_) e1, fun f j i hf => ?_, a1, supd_at _ _ _ _ _, Or.inr ⟨hx, hq⟩⟩
    · rw [supd_f (by omega), f2 f j i (by omega)]
    · rw [supd_f (by omega), f2 f j i (by omega)]
    · rw [supd_n (by omega), f2 f j i (by omega)]
      exact f1 f j i hf
  -- up to the copying
  have hgo := cgo_ok (ad := ad) (E := cBG tm tf EX l dC dI cA ad scrS 11) (scrS := scrS) (nc := 0) (ns := 0) (e := e) (below := below) (meth := meth) (Q := Q) (Sx := fun _ => True) (scr := scrS) (cu := [(23, oLv)]) (zc := tc) (C := fun pc v M1 => pc = 23 ∧ v = [x, 0] ∧ oC23 T L U x M M1) (Qr := fun rr M' => ∃ r : Int, rr = [r] ∧ oOP T L U x M ad r M' ad) hX.1 hp.2.1 hp.2.2.1 hcl htab (fun _ _ _ _ _ _ _ => trivial) (fun _ _ _ _ _ _ _ _ _ => trivial) (fun _ _ _ _ h => h) F oMe_at rfl (Nat.zero_le _) (Nat.zero_le _) (fun q => by cases q) (fun q => absurd q (by decide)) (fun pc T9 hf v M1 ws1 H1 locs1 ls1 clv1 _ k1 k2 k3 k4 k5 k6 hC => ?_) (fun pc rv rr M' ws' H' locs' ls' g1 g2 g3 _ g4 g5 g6 g7 => by
      obtain ⟨r, rfl, g3⟩ := g3
      obtain ⟨xs, rfl, hxs⟩ := g2
      match xs, hxs with
      | [y], hxs =>
        refine hend pc ls' [.int y] ws' H' locs' 0 0 g1 ⟨r, M', ad, ⟨y, rfl, ?_⟩, g4, g3⟩ g5 g6 g7 (Nat.zero_le _) (Nat.zero_le _)
        have := congrArg List.head? hxs
        simpa using this) 400 1 0 (sargs 0 oAsy) [] oL0 (ochk_ok oK0)
  · refine hgo 90 [x] M ws s.heap [] ls (lv_args 0 cas) [] rfl trivial hH hP hD va_S.rf hl (sls_args 0 (svs_cback hs)) trivial ?_
    refine d_call (cBG_mono (show 1 ≤ 11 by omega) (b_isBelow (d := 0) hp (x := x) (y := 6))) (by simp [cAs, cE2, sev, svl, cen] <;> omega) ?_
    rintro rr M0 ⟨hM0, hq⟩
    rw [hM0]
    rcases hq with ⟨rfl, q1⟩ | ⟨rfl, q1⟩
    · refine ⟨rfl, ?_⟩
      refine d_br (fun h => ?_) (fun h => ?_)
      · simp only [cCmp, cE2, sev, svl, cen, List.cons_append, List.nil_append] at h
        omega
      · clear h
        refine d_call (b_read (d := 2) hp hch hI hT hL hU h9) (by simp [cAs, cE2, sev, svl, cen] <;> omega) ?_
        rintro rr M1 ⟨i1, f1, hq⟩
        rcases hq with ⟨f, e1, e2, rfl, e3⟩ | ⟨ls9, c9, e1, e2, rfl, e3⟩
        · refine ⟨rfl, ?_⟩
          refine d_br (fun h => ?_) (fun h => ?_)
          · clear h
            refine d_put 0 0 (by simp only [cE2, sev, svl, cen, List.cons_append, List.nil_append]; omega) (by simp only [cE2, sev, svl, cen, List.cons_append, List.nil_append]; omega) ?_
            refine d_ret [f] (by simp [cE2, sev, svl, cen] <;> omega) (fun z hz => ?_) ⟨f, rfl, wI i1 (lo := 0) (hi := 1000) rfl ⟨by omega, by omega⟩, sX_m (fun f' j i hf => ?_) hsX, sEa_m (fun f' j i hf => ?_) hEa, fun f' j i hf => ?_, fun _ _ _ => rfl, supd_at _ _ _ _ _, Or.inr ⟨q1, Or.inl ⟨f, e1, e2, rfl⟩⟩⟩
            · cases List.mem_singleton.mp hz
              simp only [clo, chi]
              omega
            · rw [supd_f (by omega), f1 f' j i (by omega)]
            · rw [supd_f (by omega), f1 f' j i (by omega)]
            · rw [supd_n (by omega)]
              exact f1 f' j i (fun q => hf (Or.inl q))
          · simp only [cCmp, cE2, sev, svl, cen, List.cons_append, List.nil_append] at h
            omega
        · refine ⟨rfl, ?_⟩
          refine d_br (fun h => ?_) (fun h => ?_)
          · simp only [cCmp, cE2, sev, svl, cen, List.cons_append, List.nil_append] at h
            omega
          · clear h
            exact d_cut [x, 0] (by simp [cE2, sev, svl, cen] <;> omega) ⟨rfl, rfl, q1, i1, f1, ls9, c9, e1, e2, e3⟩
    · refine ⟨rfl, ?_⟩
      refine d_br (fun h => ?_) (fun h => ?_)
      · clear h
        refine d_put 0 0 (by simp only [cE2, sev, svl, cen, List.cons_append, List.nil_append]; omega) (by simp only [cE2, sev, svl, cen, List.cons_append, List.nil_append]; omega) ?_
        refine d_ret [-1] rfl (by decide) ⟨-1, rfl, wI hI (lo := 0) (hi := 1000) rfl ⟨by omega, by omega⟩, sX_m (fun f j i hf => supd_f (by omega)) hsX, sEa_m (fun f j i hf => supd_f (by omega)) hEa, fun f j i hf => supd_n (by omega), fun _ _ _ => rfl, supd_at _ _ _ _ _, Or.inl ⟨q1, rfl⟩⟩
      · simp only [cCmp, cE2, sev, svl, cen, List.cons_append, List.nil_append] at h
        omega
  · obtain ⟨rfl, rfl, hx, i1, f1, ls9, c9, e1, e2, e3⟩ := hC
    cases hf
    have hr9 := oEr_ok
    unfold oEr at hr9
    have b1 := wIb (f := 75) (i := 1) (lo := 0) (hi := 1000) i1 0 rfl
    have b0 := e3.1
    cases hys : sgo tm tc tf tg oCts oMd [] 2 12 [39] 300 kX9_order 12 23 oLv [] oW9 with
    | none => rw [hys] at hr9; cases hr9
    | some ys =>
      rw [hys] at hr9
      obtain ⟨ρ, hρ⟩ : ∃ ρ : Nat → Int, ρ = fun t => if t = 0 then x else if t = 1 then 0 else if t = 2 then M1 75 0 1 else M1 75 0 0 := ⟨_, rfl⟩
      have r0 : ρ 0 = x := by rw [hρ]; rfl
      have r1 : ρ 1 = 0 := by rw [hρ]; rfl
      have r2 : ρ 2 = M1 75 0 1 := by rw [hρ]; rfl
      have r3 : ρ 3 = M1 75 0 0 := by rw [hρ]; rfl
      have hag : ∀ (ρ' : Nat → Int), (∀ t, t < 4 → ρ' t = ρ t) → ∀ t, t < 2 → cen [x, 0] t = ρ' t := fun ρ' h t ht => by
        rw [h t (by omega)]
        have : t = 0 ∨ t = 1 := by omega
        rcases this with rfl | rfl
        · exact r0.symm
        · exact r1.symm
      have hW := sgo_ok (md := oMd) (wl := []) (D0 := 12) (cuts := [39]) hX htab 300 kX9_order 12 23 oLv [] oW9 ys (Nat.le_refl _) ⟨ys, hys, fun _ h => h⟩ oMe oMe_at p e R s m args below meth c Q A (oMd, []) scrS 4 ρ M1 ad 0 0 F (show 0 + 1 ≤ R.cells by omega) (show 0 + 1000 ≤ R.slots by omega) ⟨rfl, fun q hq => by cases hq⟩ (fun q => absurd q (by decide)) (fun _ => rfl) (fun X hX9 => ?_)
      · refine hW ρ M1 ad ws1 H1 locs1 ls1 clv1 [] ⟨⟨fun _ _ => rfl, Nat.le_refl _, ⟨fun q hq => ?_, fun q hq => by cases hq⟩⟩, ⟨k1, ⟨i1, sX_m (fun f j i hf => f1 f j i (by omega)) hsX⟩, ⟨fun q hq => ?_, fun q hq => ?_⟩, ⟨fun _ _ _ _ => rfl, fun _ _ _ => rfl, fun q hq => by cases hq⟩⟩, k2, k3, k4, k5, sls_ag (n := 2) (fun t ht => (hag ρ (fun _ _ => rfl) t ht).symm) (by decide) k6, trivial⟩
        · simp only [oW9, List.mem_cons, List.not_mem_nil, or_false] at hq
          rcases hq with rfl | rfl | rfl | rfl
          · simp only [r0]; omega
          · simp only [r1]; omega
          · simp only [r2]; omega
          · simp only [r3]; omega
        · simp only [oW9, List.mem_cons, List.not_mem_nil, or_false] at hq
          rcases hq with rfl | rfl
          · refine ⟨0, 1, rfl, rfl, ?_⟩
            simp only [sev, svl, r2]; omega
          · refine ⟨0, 0, rfl, rfl, ?_⟩
            simp only [sev, svl, r3]; omega
        · simp only [oW9, List.mem_cons, List.not_mem_nil, or_false] at hq
          rcases hq with rfl | rfl
          · have h7 := oSl_Es (oRd_ht (fun q hq => by cases hq) e1) e3
            show sfI 7 [sev ρ (0, [(2, 1)]), sev ρ (0, [(3, 1)])] M1
            rw [show sev ρ (0, [(2, 1)]) = M1 75 0 1 by simp only [sev, svl, r2]; omega, show sev ρ (0, [(3, 1)]) = M1 75 0 0 by simp only [sev, svl, r3]; omega]
            exact h7
          · exact sEa_m (fun f j i hf => f1 f j i (by omega)) hEa
      · have hce := sall_ok hr9 X hX9
        intro ρ' M2 ad2 ws2 H2 locs2 ls2 clv2 cst2 hr2
        unfold oEe at hce
        simp only [Bool.and_eq_true] at hce
        obtain ⟨c1, c2, c3, c4, c5, c6⟩ := hce
        obtain ⟨pcX, lvX, stX, wX⟩ := X
        have e39 : pcX = 39 := Nat.beq_eq.mp c1
        have elv : lvX = oLv := clq_ok (fun a b hab => by
          rw [Bool.and_eq_true] at hab
          exact Prod.ext (Nat.beq_eq.mp hab.1) (cvbeq_ok hab.2)) c2
        subst e39 elv
        match stX, c3, hr2 with
        | [], _, hr2 =>
          obtain ⟨⟨w1, -, -⟩, ⟨p1, ⟨p2, p3⟩, ⟨-, p5⟩, ⟨p6, p7, -⟩⟩, q1, q2, q3, q4, q5, q6⟩ := hr2
          cases svs_nil q6
          have c4 := Nat.le_of_ble_eq_true c4
          have c5 := Nat.le_of_ble_eq_true c5
          obtain ⟨z, hz, hz2⟩ := List.any_eq_true.mp c6
          rw [Bool.and_eq_true] at hz2
          obtain ⟨z1, z2⟩ := z
          have ez1 : z1 = 6 := Nat.beq_eq.mp hz2.1
          have ez2 : z2 = [] := List.isEmpty_iff.mp hz2.2
          subst ez1 ez2
          refine tail M2 ad2 ws2 H2 locs2 ls2 clv2 _ _ (by rw [Nat.zero_add]; exact c4) (by rw [Nat.zero_add]; exact c5) p2 p3 (p5 (6, []) hz) (fun f j i hf => ?_) (fun f j hf => ?_) hx (Or.inr ⟨ls9, e1, rfl⟩) p1 q1 q2 q3 q4 (sls_ag (n := 2) (hag ρ' w1) (by decide) q5)
          · refine (p6 f j i (fun h => ?_)).trans (f1 f j i (fun q => hf (Or.inl q)))
            simp only [oMd, List.mem_cons, Prod.mk.injEq, List.not_mem_nil, or_false] at h
            omega
          · refine p7 f j (fun h => ?_)
            simp only [oMd, List.mem_cons, Prod.mk.injEq, List.not_mem_nil, or_false] at h
            omega
end CO16
