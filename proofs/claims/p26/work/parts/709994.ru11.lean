/-! the class takes an order, with what it then holds -/
/-- what an order that is copied holds then -/
def oVc (M0 : SMem) (j : Nat) (M : SMem) : Prop := M 74 j 0 = M0 75 0 0 ∧ M 74 j 1 = M0 75 0 1 ∧ M0 75 0 1 ≤ M 106 j 0 ∧ (∀ i : Nat, (i : Int) < M0 75 0 1 → M 100 j i = M0 105 0 i) ∧ (∀ i : Nat, i < 12 → M 96 j i = M0 101 0 i) ∧ (∀ i : Nat, i < 12 → M 97 j i = M0 102 0 i) ∧ (∀ i : Nat, i < 12 → M 98 j i = M0 103 0 i) ∧ ∀ i : Nat, i < 12 → M 99 j i = M0 104 0 i
def oVi (M0 : SMem) (j : Nat) (M : SMem) : Prop := (∀ f j' i', f ∉ [74, 96, 97, 98, 99, 100, 106] → M f j' i' = M0 f j' i') ∧ (∀ f j' i', j' ≠ j → M f j' i' = M0 f j' i') ∧ (∀ j' i', 2 ≤ i' → M 74 j' i' = M0 74 j' i') ∧ sI tg M
/-- the contract of the copying that is wanted -/
def oVx (EX : SEx) (l : Launch) (dC : Nat → ClassId) (dI : Nat → Nat → Nat) (cA : Nat → ClassId) : Prop := ∀ {M0 : SMem} {ad0 : SAd} {ws : va_W} {j : Nat}, j < 6 → sH tf ad0 M0 cA ws → sI tg M0 → sRun 1 (RX3, yX3_copy, cX3_copy, 2, none, 1, 1000) EX l dC dI cA ws [.ref (ad0 74 j), .ref (ad0 75 0)] (fun rr ws' => rr = [] ∧ ∃ (M : SMem) (ad : SAd), sH tf ad M cA ws' ∧ (∀ f j', f ≠ 100 → ad f j' = ad0 f j') ∧ oVi M0 j M ∧ oVc M0 j M)
theorem hNe (q : OLn) (h : oHt q.2.2 0 = some 1) : q.2.2.length ≠ 0 := fun z => by
  rw [List.length_eq_zero_iff.mp z] at h
  cases h
theorem oCl_of {M0 M : SMem} {j : Nat} {ls : List OLn} {c : List Int} (hk : ∀ q ∈ ls, oLnk q) (hh : ∀ q ∈ ls, oHt q.2.2 0 = some 1) (h12 : ls.length ≤ 12) (hI : sI tg M0) (h : oVc M0 j M) (g : oSl M0 ls c) : oCl M j ls := by
  obtain ⟨h1, h2, h3, h4, h5, h6, h7, h8⟩ := h
  obtain ⟨g1, g2, g3, g4⟩ := g
  have b1 := wIb (f := 75) (i := 1) (lo := 0) (hi := 1000) hI 0 rfl
  rw [g2] at h3 h4 b1
  refine ⟨h1.trans g1, h12, fun k q hq => ?_⟩
  have hkl : k < ls.length := (List.getElem?_eq_some_iff.mp hq).1
  obtain ⟨k1, k2, fr, k3, k4, k5⟩ := g4 k q hq
  have qk := hk q (by obtain ⟨x, y⟩ := List.getElem?_eq_some_iff.mp hq; rw [← y]; exact List.getElem_mem x)
  have hfr : fr + q.2.2.length ≤ c.length ∨ q.2.2.length = 0 := by
    by_cases z : q.2.2.length = 0
    · exact Or.inr z
    · obtain ⟨x, hx⟩ : ∃ x, q.2.2[q.2.2.length - 1]? = some x := ⟨_, List.getElem?_eq_getElem (show q.2.2.length - 1 < q.2.2.length by omega)⟩
      have := (List.getElem?_eq_some_iff.mp (k5 _ x hx)).1
      exact Or.inl (by omega)
  have b3 := wIb (f := 103) (i := k) (lo := 0) (hi := 1000) hI 0 rfl
  have b4 := wIb (f := 104) (i := k) (lo := 0) (hi := 1000) hI 0 rfl
  rw [k4] at b4
  refine ⟨qk, (h5 k (by omega)).trans k1, (h6 k (by omega)).trans k2, fr, (h7 k (by omega)).trans k3, (h8 k (by omega)).trans k4, ?_, by omega, fun i x hi => ?_⟩
  · rcases hfr with z | z
    · omega
    · exact absurd z (hNe q (hh q (by obtain ⟨x, y⟩ := List.getElem?_eq_some_iff.mp hq; rw [← y]; exact List.getElem_mem x)))
  · have w := k5 i x hi
    have wl := (List.getElem?_eq_some_iff.mp w).1
    rw [h4 (fr + i) (by omega)]
    exact g3 (fr + i) x w
/-- behind an order, with values -/
def oOV (T : Nat → Int) (L : Nat) (U : Nat → Int) (x : Int) (M : SMem) (ad : SAd) (r : Int) (M' : SMem) (ad' : SAd) : Prop := oOP T L U x M ad r M' ad' ∧ ((r ≠ 0 ∧ ∀ f j i, f = 10 ∨ f = 74 ∨ (96 ≤ f ∧ f ≤ 100) ∨ f = 106 → M' f j i = M f j i) ∨ (r = 0 ∧ M' 10 0 13 = 0 ∧ ∃ (k : Nat) (ls : List OLn), (k : Int) = x ∧ k < 6 ∧ oRd T L U 14 0 (oS T L 0) [] = .ok ls ∧ oCl M' k ls ∧ ∀ f j i, j ≠ k → (f = 74 ∨ (96 ≤ f ∧ f ≤ 100) ∨ f = 106) → M' f j i = M f j i))
theorem oL9c : Cond.fieldLink RX9 45 (TX9 5).1 (TX9 5).2.1 (TX9 5).2.2.1 ∈ zT := zchk_ok (ws := [_]) (is := [526]) (by decide +kernel) _ (List.Mem.head _)
theorem oL9d : Cond.fieldLink RX9 57 (TX9 6).1 (TX9 6).2.1 (TX9 6).2.2.1 ∈ zT := zchk_ok (ws := [_]) (is := [527]) (by decide +kernel) _ (List.Mem.head _)
theorem oL9e : Cond.fieldLink RX9 222 (TX4 2).1 (TX4 2).2.1 (TX4 2).2.2.1 ∈ zT := zchk_ok (ws := [_]) (is := [397]) (by decide +kernel) _ (List.Mem.head _)
theorem oD23 : decode cX9_order 23 = .ok (.aload_n 0, 1) := by decide +kernel
theorem oD24 : decode cX9_order 24 = .ok (.getfield 45, 3) := by decide +kernel
theorem oD27 : decode cX9_order 27 = .ok (.iload_n 1, 1) := by decide +kernel
theorem oD28 : decode cX9_order 28 = .ok (.aaload, 1) := by decide +kernel
theorem oD29 : decode cX9_order 29 = .ok (.aload_n 0, 1) := by decide +kernel
theorem oD30 : decode cX9_order 30 = .ok (.getfield 57, 3) := by decide +kernel
theorem oD33 : decode cX9_order 33 = .ok (.getfield 222, 3) := by decide +kernel
theorem oD36 : decode cX9_order 36 = .ok (.invokevirtual 226, 3) := by decide +kernel
section CRG
variable {p : Program} {l : Launch} {e : Env} {R : Room} {s : State} {m : MethodId} {args : Array Value} {below : List Frame} {meth : Method} {c : Code} {Q : State → Prop} {dC : Nat → ClassId} {dI : Nat → Nat → Nat} {cA : Nat → ClassId} {A : Nat → Prop} {cc : ByteArray} {own : String} {pc nc ns : Nat} {fm : List SF} {ad : SAd} {M : SMem} {ws : va_W} {H : Heap} {locs : List Loc} {ls : Array Slot} {rest : List Value}
theorem rgetR (hx : p.tables.exec = Jvm.exec) (hb : c.code = cc) (hown : s.vm.findClass own = some m.cls) (hts : ∀ w ∈ zT, w.before args s = true) (hKv : va_K (dC, dI) vwCl (ztys cA) s) {C : String} {T : u_T} {N f j fi idx f2 k2 : Nat} {en : SF} {o : Nat × List (Nat × Nat × Nat)} (hin : ∀ w ∈ u_ws C T N, w ∈ zT) (hc : vwCl[o.1]? = some (C, T, N)) (hH : sH fm ad M cA ws) (hP : va_P (dC, dI) vwCl ws H) (hen : fm[f]? = some en) (ho : en.2.2.2 = .inl o) (hj : j < en.2.2.1) (hf : fi < N) (hsp : o.2[fi]? = some (1, f2, k2)) (hlk : Cond.fieldLink own idx (T fi).1 (T fi).2.1 (T fi).2.2.1 ∈ zT) (hdg : decode cc pc = .ok (.getfield idx, 3))
    (kk : W p l e R s m args below meth c H locs nc ns Q (F0 m (pc + 3) ls (.ref (ad f2 (cond (Nat.beq k2 0) 0 j)) :: rest))) : W p l e R s m args below meth c H locs nc ns Q (F0 m pc ls (.ref (ad f j) :: rest)) := by
  obtain ⟨wv, hwv, hse⟩ := hH f en hen j hj
  unfold sHe at hse
  rw [ho] at hse
  obtain ⟨gs, rfl, hgl, hg⟩ := hse
  have hx1 := (hg fi _ hsp).2 rfl
  exact va_get hx hb hts hin hown hKv hP _ hwv hc fi hf (hts _ hlk) (fun _ z => z) hx1 hdg kk
theorem raald (hx : p.tables.exec = Jvm.exec) (hb : c.code = cc) (hKv : va_K (dC, dI) vwCl (ztys cA) s) {f j f2 : Nat} {en : SF} {a : Nat × Nat × Nat × Nat} (hH : sH fm ad M cA ws) (hP : va_P (dC, dI) vwCl ws H) (hen : fm[f]? = some en) (ha : en.2.2.2 = .inr a) (hj : j < en.2.2.1) (ha1 : a.1 = 5) (ha2 : a.2.1 = 0) (ha3 : a.2.2.2 = f2) {iv : Int32} (h0 : 0 ≤ iv.toInt) (h1 : iv.toInt < (a.2.2.1 : Int)) (hdg : decode cc pc = .ok (.aaload, 1))
    (kk : W p l e R s m args below meth c H locs nc ns Q (F0 m (pc + 1) ls (.ref (ad f2 iv.toInt.toNat) :: rest))) : W p l e R s m args below meth c H locs nc ns Q (F0 m pc ls (.int iv :: .ref (ad f j) :: rest)) := by
  obtain ⟨wv, hwv, hse⟩ := hH f en hen j hj
  unfold sHe at hse
  rw [ha] at hse
  have hsl : slen M j a = a.2.2.1 := csl0 (by rw [ha2]; rfl)
  have hcl := sclamp (x := iv) h0
  have hin : vp_in iv (slen M j a) := vp_in_iff.mpr ⟨h0, by rw [hsl]; omega⟩
  obtain ⟨g, rfl, hg⟩ := hse.2.2 (by omega)
  have hgi := hg iv.toNatClampNeg (by rw [hsl]; omega)
  rw [ha1] at hwv
  refine va_aldq hx hb hKv hP _ 5 hwv rfl hin hdg ?_
  rw [hgi, ha3, show iv.toNatClampNeg = iv.toInt.toNat by omega]
  exact kk
end CRG
section CR11
variable {EX : SEx} {l : Launch} {dC : Nat → ClassId} {dI : Nat → Nat → Nat} {cA : Nat → ClassId} {ad : SAd} {scrS : Nat} {T U : Nat → Int} {L : Nat}
set_option maxHeartbeats 4000000 in
theorem b_orderV (hp : cPl tm tc tf EX) (hch : cCh EX l dC dI cA scrS) (hcp : oVx EX l dC dI cA) {x : Int} {M : SMem} (hI : sI tg M) (hsX : sX M) (hEa : sEa M) (hT : M 57 0 = T) (hL : M 3 0 1 = (L : Int)) (hU : M 58 0 = U) (h9 : L ≤ 1000) {ws : va_W} {cas : List Value} (hH : sH tf ad M cA ws) (hs : svs tf scrS (fun _ => 0) ad ((cAs [x] oAsy).map cK) cas) : sRun 12 oMe EX l dC dI cA ws cas (fun rr ws' => ∃ (r : Int) (M' : SMem) (ad' : SAd), (∃ y : Int32, rr = [Value.int y] ∧ y.toInt = r) ∧ sH tf ad' M' cA ws' ∧ oOV T L U x M ad r M' ad') := by
  have htab : sTab tm tc := hp.2.2.2.2
  intro p e R s m args below meth c Q A ls F hP hD hl hend
  have hbc : 1 ≤ R.cells ∧ 1000 ≤ R.slots := F.2.2.2.2.2.2.2.2.1
  have hcl := hp.2.2.2.1
  -- behind the copying
  have tail : ∀ (M1 : SMem) (ad1 : SAd) (ws1 : va_W) (H1 : Heap) (locs1 : List Loc) (ls1 : Array Slot) (clv1 : ZL) (nc ns : Nat), nc ≤ 1 → ns ≤ 1000 → sI tg M1 → sX M1 → sEa M1 → oFm oXo M M1 → (∀ f j, f ≠ 100 → ad1 f j = ad f j) → (0 ≤ x ∧ x < 6) → oOQ T L U [0] → (∃ (k : Nat) (ls : List OLn), (k : Int) = x ∧ k < 6 ∧ oRd T L U 14 0 (oS T L 0) [] = .ok ls ∧ oCl M1 k ls ∧ ∀ f j i, j ≠ k → (f = 74 ∨ (96 ≤ f ∧ f ≤ 100) ∨ f = 106) → M1 f j i = M f j i) → sH tf ad1 M1 cA ws1 → va_P (dC, dI) vwCl ws1 H1 → va_D A ws1 → va_S A s.heap H1 locs1 → lv_has ls1 3 clv1 → sls tf scrS (cen [x, 0]) ad1 oLv clv1 → W p l e R s m args below meth c H1 locs1 nc ns Q (F0 m 39 ls1 []) := by
    intro M1 ad1 ws1 H1 locs1 ls1 clv1 nc ns hn1 hn2 i1 x1 e1 f1 a1 hx hq hv k1 k2 k3 k4 k5 k6
    have hgo := cgo_ok (ad := ad1) (E := cBG tm tf EX l dC dI cA ad1 scrS 11) (scrS := scrS) (nc := nc) (ns := ns) (e := e) (below := below) (meth := meth) (Q := Q) (Sx := fun _ => True) (scr := scrS) (cu := []) (zc := tc) (C := fun _ _ _ => False) (Qr := fun rr M' => ∃ r : Int, rr = [r] ∧ oOV T L U x M ad r M' ad1) hp.1 hp.2.1 hp.2.2.1 hcl htab (fun _ _ _ _ _ _ _ => trivial) (fun _ _ _ _ _ _ _ _ _ => trivial) (fun _ _ _ _ h => h) F oMe_at rfl (by omega) (by omega) (fun q => by cases q) (fun q => absurd q (by decide)) (fun pc T hf => by cases hf) (fun pc rv rr M' ws' H' locs' ls' g1 g2 g3 _ g4 g5 g6 g7 => by
      obtain ⟨r, rfl, g3⟩ := g3
      obtain ⟨xs, rfl, hxs⟩ := g2
      match xs, hxs with
      | [y], hxs =>
        refine hend pc ls' [.int y] ws' H' locs' nc ns g1 ⟨r, M', ad1, ⟨y, rfl, ?_⟩, g4, g3⟩ g5 g6 g7 hn1 hn2
        have := congrArg List.head? hxs
        simpa using this) 400 2 39 oLv [] oL1 (ochk_ok oK1)
    refine hgo 90 [x, 0] M1 ws1 H1 locs1 ls1 clv1 [] rfl trivial k1 k2 k3 k4 k5 k6 trivial ?_
    refine d_call (cBG_mono (show 1 ≤ 11 by omega) (b_forget5x (d := 0) hp)) (by simp [cAs, cE2, sev, svl, cen]) ?_
    rintro rr M2 ⟨rfl, e2⟩
    have i2 : sI tg M2 := by rw [e2]; exact wI (lo := 0) (hi := 1) i1 rfl ⟨by omega, by omega⟩
    have f2 : ∀ f j i, f ≠ 10 → M2 f j i = M1 f j i := fun f j i q => by rw [e2]; exact supd_f q
    refine ⟨rfl, ?_⟩
    refine d_put 0 0 (by simp only [cE2, sev, svl, cen, List.cons_append, List.nil_append]; omega) (by simp only [cE2, sev, svl, cen, List.cons_append, List.nil_append]; omega) ?_
    refine d_ret [0] rfl (by decide) ⟨0, rfl, ⟨wI i2 (lo := 0) (hi := 1000) rfl ⟨by omega, by omega⟩, sX_m (fun f j i hf => ?_) x1, sEa_m (fun f j i hf => ?_) e1, fun f j i hf => ?_, a1, supd_at _ _ _ _ _, Or.inr ⟨hx, hq⟩⟩, Or.inr ⟨rfl, ?_, ?_⟩⟩
    · rw [supd_f (by omega), f2 f j i (by omega)]
    · rw [supd_f (by omega), f2 f j i (by omega)]
    · rw [supd_n (by omega), f2 f j i (by omega)]
      exact f1 f j i hf
    · rw [supd_f (by decide), e2]
      exact supd_at _ _ _ _ _
    · obtain ⟨k, ls, v1, v2, v3, v4, v5⟩ := hv
      exact ⟨k, ls, v1, v2, v3, oCl_cg (fun f i hf => by rw [supd_f (by omega), f2 f k i (by omega)]) v4, fun f j i h1 h2 => by rw [supd_f (by omega), f2 f j i (by omega)]; exact v5 f j i h1 h2⟩
  -- up to the copying
  have hgo := cgo_ok (ad := ad) (E := cBG tm tf EX l dC dI cA ad scrS 11) (scrS := scrS) (nc := 0) (ns := 0) (e := e) (below := below) (meth := meth) (Q := Q) (Sx := fun _ => True) (scr := scrS) (cu := [(23, oLv)]) (zc := tc) (C := fun pc v M1 => pc = 23 ∧ v = [x, 0] ∧ oC23 T L U x M M1) (Qr := fun rr M' => ∃ r : Int, rr = [r] ∧ oOV T L U x M ad r M' ad) hp.1 hp.2.1 hp.2.2.1 hcl htab (fun _ _ _ _ _ _ _ => trivial) (fun _ _ _ _ _ _ _ _ _ => trivial) (fun _ _ _ _ h => h) F oMe_at rfl (Nat.zero_le _) (Nat.zero_le _) (fun q => by cases q) (fun q => absurd q (by decide)) (fun pc T9 hf v M1 ws1 H1 locs1 ls1 clv1 _ k1 k2 k3 k4 k5 k6 hC => ?_) (fun pc rv rr M' ws' H' locs' ls' g1 g2 g3 _ g4 g5 g6 g7 => by
      obtain ⟨r, rfl, g3⟩ := g3
      obtain ⟨xs, rfl, hxs⟩ := g2
      match xs, hxs with
      | [y], hxs =>
        refine hend pc ls' [.int y] ws' H' locs' 0 0 g1 ⟨r, M', ad, ⟨y, rfl, ?_⟩, g4, g3⟩ g5 g6 g7 (Nat.zero_le _) (Nat.zero_le _)
        have := congrArg List.head? hxs
        simpa using this) 400 1 0 (sargs 0 oAsy) [] oL0 (ochk_ok oK0)
  · refine hgo 90 [x] M ws s.heap [] ls (lv_args 0 cas) [] rfl trivial hH hP hD va_S.rf hl (sls_args 0 (svs_cback hs)) trivial ?_
    refine d_call (cBG_mono (show 1 ≤ 11 by omega) (b_isBelow (d := 0) hp (x := x) (y := 6))) (by simp [cAs, cE2, sev, svl, cen] <;> omega) ?_
    rintro rr M0 ⟨hM0, hq⟩
    rw [hM0]
    rcases hq with ⟨rfl, q1⟩ | ⟨rfl, q1⟩
    · refine ⟨rfl, ?_⟩
      refine d_br (fun h => ?_) (fun h => ?_)
      · simp only [cCmp, cE2, sev, svl, cen, List.cons_append, List.nil_append] at h
        omega
      · clear h
        refine d_call (b_read (d := 2) hp hch hI hT hL hU h9) (by simp [cAs, cE2, sev, svl, cen] <;> omega) ?_
        rintro rr M1 ⟨i1, f1, hq⟩
        rcases hq with ⟨f, e1, e2, rfl, e3⟩ | ⟨ls9, c9, e1, e2, rfl, e3⟩
        · refine ⟨rfl, ?_⟩
          refine d_br (fun h => ?_) (fun h => ?_)
          · clear h
            refine d_put 0 0 (by simp only [cE2, sev, svl, cen, List.cons_append, List.nil_append]; omega) (by simp only [cE2, sev, svl, cen, List.cons_append, List.nil_append]; omega) ?_
            refine d_ret [f] (by simp [cE2, sev, svl, cen] <;> omega) (fun z hz => ?_) ⟨f, rfl, ⟨wI i1 (lo := 0) (hi := 1000) rfl ⟨by omega, by omega⟩, sX_m (fun f' j i hf => ?_) hsX, sEa_m (fun f' j i hf => ?_) hEa, fun f' j i hf => ?_, fun _ _ _ => rfl, supd_at _ _ _ _ _, Or.inr ⟨q1, Or.inl ⟨f, e1, e2, rfl⟩⟩⟩, Or.inl ⟨by omega, fun f' j i hf => ?_⟩⟩
            · cases List.mem_singleton.mp hz
              simp only [clo, chi]
              omega
            · rw [supd_f (by omega), f1 f' j i (by omega)]
            · rw [supd_f (by omega), f1 f' j i (by omega)]
            · rw [supd_n (by omega)]
              exact f1 f' j i (fun q => hf (Or.inl q))
            · rw [supd_f (by omega), f1 f' j i (by omega)]
          · simp only [cCmp, cE2, sev, svl, cen, List.cons_append, List.nil_append] at h
            omega
        · refine ⟨rfl, ?_⟩
          refine d_br (fun h => ?_) (fun h => ?_)
          · simp only [cCmp, cE2, sev, svl, cen, List.cons_append, List.nil_append] at h
            omega
          · clear h
            exact d_cut [x, 0] (by simp [cE2, sev, svl, cen] <;> omega) ⟨rfl, rfl, q1, i1, f1, ls9, c9, e1, e2, e3⟩
    · refine ⟨rfl, ?_⟩
      refine d_br (fun h => ?_) (fun h => ?_)
      · clear h
        refine d_put 0 0 (by simp only [cE2, sev, svl, cen, List.cons_append, List.nil_append]; omega) (by simp only [cE2, sev, svl, cen, List.cons_append, List.nil_append]; omega) ?_
        refine d_ret [-1] rfl (by decide) ⟨-1, rfl, ⟨wI hI (lo := 0) (hi := 1000) rfl ⟨by omega, by omega⟩, sX_m (fun f j i hf => supd_f (by omega)) hsX, sEa_m (fun f j i hf => supd_f (by omega)) hEa, fun f j i hf => supd_n (by omega), fun _ _ _ => rfl, supd_at _ _ _ _ _, Or.inl ⟨q1, rfl⟩⟩, Or.inl ⟨by omega, fun f j i hf => supd_f (by omega)⟩⟩
      · simp only [cCmp, cE2, sev, svl, cen, List.cons_append, List.nil_append] at h
        omega
  · obtain ⟨rfl, rfl, hx, i1, f1, ls9, c9, e1, e2, e3⟩ := hC
    cases hf
    have hk9 : ∀ q ∈ ls9, oLnk q := oRd_mx (fun q hq => by cases hq) e1
    obtain ⟨kx, hkx⟩ : ∃ kx : Nat, (kx : Int) = x := ⟨x.toNat, by omega⟩
    -- the locals
    obtain ⟨v0, v1, v2, rfl, q0, q1, q2⟩ : ∃ v0 v1 v2 : Value, clv1 = [(0, v0), (1, v1), (2, v2)] ∧ sv tf scrS (cen [x, 0]) ad (2, 0, (0, [])) v0 ∧ sv tf scrS (cen [x, 0]) ad (0, 0, (0, [(0, 1)])) v1 ∧ sv tf scrS (cen [x, 0]) ad (0, 0, (0, [(1, 1)])) v2 := by
      match clv1, k6 with
      | [(a0, v0), (a1, v1), (a2, v2)], k6 =>
        obtain ⟨e0, p0, e1, p1, e2, p2, -⟩ := k6
        have e0 : 0 = a0 := e0
        have e1 : 1 = a1 := e1
        have e2 : 2 = a2 := e2
        subst e0 e1 e2
        exact ⟨v0, v1, v2, rfl, p0, p1, p2⟩
    have hv0 : v0 = .ref (ad 0 0) := by
      rcases q0 with ⟨z, -⟩ | ⟨z, -⟩ | ⟨-, j, en, hj, hen, hjn, z⟩ | ⟨z, -⟩
      · cases z
      · cases z
      · have hj : (j : Int) = 0 := hj
        rw [z, show j = 0 by omega]
      · cases z
    obtain ⟨iv, rfl, hiv⟩ := sv_int (v := (0, 0, (0, [(0, 1)]))) rfl q1
    obtain ⟨rv, rfl, hrv⟩ := sv_int (v := (0, 0, (0, [(1, 1)]))) rfl q2
    subst hv0
    have hiv : iv.toInt = x := by
      rw [hiv]
      simp only [sev, svl, cen]
      omega
    obtain ⟨hx9, hb, hml, hown, hts, hK, hA9, hRd, hRb, hE9⟩ := id F
    have hb : c.code = cX9_order := hb
    have hown : s.vm.findClass RX9 = some m.cls := hown
    refine lv_aload_n hx9 hb oD23 rfl (k5.2.2 (0, .ref (ad 0 0)) (List.Mem.head _)) ?_
    refine rgetR (fi := 5) (f := 0) (j := 0) hx9 hb hown hts hK (hcl 8 _ _ _ rfl).1 rfl k1 k2 (show tf[0]? = some _ from rfl) rfl Nat.zero_lt_one (by decide) rfl oL9c oD24 ?_
    refine lv_iload_n hx9 hb oD27 rfl (k5.2.2 (1, .int iv) (List.Mem.tail _ (List.Mem.head _))) ?_
    refine raald (f := 8) (j := 0) (f2 := 74) hx9 hb hK k1 k2 (show tf[8]? = some _ from rfl) rfl Nat.zero_lt_one rfl rfl rfl (by omega) (show iv.toInt < 6 by omega) oD28 ?_
    rw [show iv.toInt.toNat = kx by omega]
    refine lv_aload_n hx9 hb oD29 rfl (k5.2.2 (0, .ref (ad 0 0)) (List.Mem.head _)) ?_
    refine rgetR (fi := 6) (f := 0) (j := 0) hx9 hb hown hts hK (hcl 8 _ _ _ rfl).1 rfl k1 k2 (show tf[0]? = some _ from rfl) rfl Nat.zero_lt_one (by decide) rfl oL9d oD30 ?_
    refine rgetR (fi := 2) (f := 9) (j := 0) hx9 hb hown hts hK (hcl 3 _ _ _ rfl).1 rfl k1 k2 (show tf[9]? = some _ from rfl) rfl Nat.zero_lt_one (by decide) rfl oL9e oD33 ?_
    have hs0 : svs tf scrS (fun _ => (kx : Int)) ad [(2, 74, (0, [(0, 1)])), (2, 75, (0, []))] [.ref (ad 74 kx), .ref (ad 75 0)] := by
      refine ⟨Or.inr (Or.inr (Or.inl ⟨rfl, kx, _, ?_, show tf[74]? = some _ from rfl, show kx < 6 by omega, rfl⟩)), Or.inr (Or.inr (Or.inl ⟨rfl, 0, _, ?_, show tf[75]? = some _ from rfl, Nat.zero_lt_one, rfl⟩)), trivial⟩
      · simp only [sev, svl]
        omega
      · simp only [sev, svl]
        omega
    have hrc := srecv (kd := 2) (ci := 2) (y := yX3_copy) hK k2 k1 hs0 (by decide +kernel) (by decide +kernel)
    have hcal : zcal tm RX9 226 2 kX3_copy 1 2 [1006, 1007, 122, 1009, 1008] = true := by decide +kernel
    refine scall hp.1 (d' := 11) (zm := tm) (me2 := (RX3, yX3_copy, cX3_copy, 2, none, 1, 1000)) F (show tm[kX3_copy]? = some _ from rfl) hcal (sRun_mono (show 1 ≤ 11 by omega) (hcp (show kx < 6 by omega) k1 i1)) k2 k3 k4 k5 (crest := []) rfl (by decide) (by rw [slens hs0]; decide) rfl hrc ⟨show 0 + 1 ≤ R.cells by omega, show 0 + 1000 ≤ R.slots by omega⟩ (Or.inr ⟨rfl, rfl⟩) oD36 (fun r ws' H2 locs2 hPO p1 p2 p3 => ?_)
    obtain ⟨rfl, M2, ad2, hH2, hA2, ⟨z1, z2, z3, z4⟩, hV⟩ := hPO
    have hCl := oCl_of hk9 (oRd_ht (fun q hq => by cases hq) e1) e2 i1 hV e3
    have had : ∀ (v : SV) (cv : Value), v.2.1 ≠ 100 → sv tf scrS (cen [x, 0]) ad v cv → sv tf scrS (cen [x, 0]) ad2 v cv := by
      intro v cv h100 h
      rcases h with h | h | ⟨z1, j, en, z2, z3, z4, z5⟩ | h
      · exact Or.inl h
      · exact Or.inr (Or.inl h)
      · exact Or.inr (Or.inr (Or.inl ⟨z1, j, en, z2, z3, z4, by rw [hA2 _ _ h100]; exact z5⟩))
      · exact Or.inr (Or.inr (Or.inr h))
    have g1 : ∀ f j i, f ∉ [74, 96, 97, 98, 99, 100, 106] → M2 f j i = M1 f j i := z1
    have hE1 : sEa M1 := sEa_m (fun f j i hf => f1 f j i (by omega)) hEa
    refine tail M2 ad2 ws' H2 locs2 ls1 _ (0 + 1) (0 + 1000) (by omega) (by omega) z4 (sX_m (fun f j i hf => (g1 f j i (by simp only [List.mem_cons, List.not_mem_nil, or_false, not_or]; omega)).trans (f1 f j i (by omega))) hsX) (fun r' l' hl9 hk => ?_) (fun f j i hf => ?_) hA2 hx (Or.inr ⟨ls9, e1, rfl⟩) ⟨kx, ls9, hkx, by omega, e1, hCl, fun f j i h1 h2 => ?_⟩ hH2 p1 p2 p3 k5 ⟨rfl, had _ _ (by decide) q0, rfl, had _ _ (by decide) (Or.inl ⟨rfl, iv, rfl, by rw [hiv]; simp only [sev, svl, cen]; omega⟩), rfl, had _ _ (by decide) (Or.inl ⟨rfl, rv, rfl, hrv⟩), trivial⟩
    · by_cases z : r' = kx
      · subst z
        obtain ⟨y1, y2, y3⟩ := hCl
        rw [y1] at hk
        obtain ⟨q, hq⟩ : ∃ q, ls9[l']? = some q := ⟨_, List.getElem?_eq_getElem (by omega)⟩
        obtain ⟨-, -, -, fr, -, y4, y5, -⟩ := y3 l' q hq
        rw [y4]
        exact y5
      · rw [z2 74 r' 0 z] at hk
        rw [z2 99 r' l' z, z2 106 r' 0 z]
        exact hE1 r' l' hl9 hk
    · refine (g1 f j i (fun y => ?_)).trans (f1 f j i (fun q => hf (Or.inl q)))
      simp only [List.mem_cons, List.not_mem_nil, or_false] at y
      exact hf (by unfold oXo; omega)
    · rw [z2 f j i h1]
      refine f1 f j i ?_
      omega
end CR11
