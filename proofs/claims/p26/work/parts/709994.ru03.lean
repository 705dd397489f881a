/-! the run: the class does a line, and all lines at a place -/
/-- an order's lines lie there (the class's) -/
def oCl (M : SMem) (r : Nat) (ls : List OLn) : Prop := M 74 r 0 = (ls.length : Int) ∧ ls.length ≤ 12 ∧ ∀ (k : Nat) (q : OLn), ls[k]? = some q → oLnk q ∧ M 96 r k = q.1 + 1 ∧ M 97 r k = q.2.1 ∧ ∃ fr : Nat, M 98 r k = (fr : Int) ∧ M 99 r k = ((fr + q.2.2.length : Nat) : Int) ∧ ((fr + q.2.2.length : Nat) : Int) ≤ M 106 r 0 ∧ fr + q.2.2.length ≤ 1000 ∧ ∀ (j : Nat) (x : Int), q.2.2[j]? = some x → M 100 r (fr + j) = x
theorem oCl_cg {M M' : SMem} {r : Nat} {ls : List OLn} (h : ∀ f i, (f = 74 ∧ i = 0) ∨ (96 ≤ f ∧ f ≤ 100) ∨ f = 106 → M' f r i = M f r i) (g : oCl M r ls) : oCl M' r ls := by
  obtain ⟨g1, g2, g3⟩ := g
  refine ⟨(h 74 0 (by omega)).trans g1, g2, fun k q hk => ?_⟩
  obtain ⟨k1, k2, k3, fr, k4, k5, k6, k7, k8⟩ := g3 k q hk
  exact ⟨k1, (h 96 k (by omega)).trans k2, (h 97 k (by omega)).trans k3, fr, (h 98 k (by omega)).trans k4, (h 99 k (by omega)).trans k5, by rw [h 106 0 (by omega)]; exact k6, k7, fun j x hj => (h 100 _ (by omega)).trans (k8 j x hj)⟩
theorem oCl_k {M : SMem} {r : Nat} {ls : List OLn} (g : oCl M r ls) : ∀ q ∈ ls, oLnk q := fun q hq => by
  obtain ⟨k, hk, e⟩ := List.mem_iff_getElem.mp hq
  exact (g.2.2 k q (by rw [List.getElem?_eq_getElem hk, e])).1
/-- behind a piece of work -/
def rWP (r p : Nat) (st : List RC) (dv t : Int) (M MM : SMem) : Prop := sI tg MM ∧ (∀ f j i, f ≠ 79 → f ≠ 80 → f ≠ 81 → f ≠ 82 → ¬ (f = 10 ∧ i = 12) → MM f j i = M f j i) ∧ MM 10 0 12 = M 10 0 12 + rSp st dv t ∧ rLg 79 80 81 82 MM p (rWk r st dv t) ∧ ∀ p' st', p' ≠ p → st'.length ≤ 6 → rLg 79 80 81 82 M p' st' → rLg 79 80 81 82 MM p' st'
theorem rWP_of {r p n : Nat} {st : List RC} {dv t nm : Int} {M M0 : SMem} (hI : sI tg M) (hr : r < 6) (hn : n = st.length) (h6 : n < 6) (hd : 1 ≤ dv ∧ dv ≤ 4) (ht : 0 ≤ t ∧ t ≤ 7) (hs : 0 ≤ M 10 0 12 ∧ M 10 0 12 ≤ 100000) (g : rLg 79 80 81 82 M p st) (hnm : nm = if dv = 1 ∨ dv = 2 then -1 else t) (e0 : (M0 = M ∧ rSp st dv t = 0) ∨ (M0 = supd M 10 0 12 (M 10 0 12 + 1) ∧ rSp st dv t = 1)) : rWP r p st dv t M (rAdd 79 80 81 82 M0 p n (r : Int) dv nm) := by
  have i0 : sI tg M0 := by
    rcases e0 with ⟨e, -⟩ | ⟨e, -⟩
    · rw [e]; exact hI
    · rw [e]; exact wI hI (lo := -2147483648) (hi := 2147483647) rfl ⟨by omega, by omega⟩
  have f0 : ∀ f j i, ¬ (f = 10 ∧ i = 12) → M0 f j i = M f j i := fun f j i h => by
    rcases e0 with ⟨e, -⟩ | ⟨e, -⟩
    · rw [e]
    · rw [e]; exact supd_n (fun q => h ⟨q.1, q.2.2⟩)
  have e12 : M0 10 0 12 = M 10 0 12 + rSp st dv t := by
    rcases e0 with ⟨e, s⟩ | ⟨e, s⟩
    · rw [e, s]; omega
    · rw [e, s]; exact supd_at _ _ _ _ _
  have gm : ∀ p' st', rLg 79 80 81 82 M p' st' → rLg 79 80 81 82 M0 p' st' := fun p' st' h => rLg_cg (f0 79 0 p' (by omega)) (fun f k hf _ => f0 f 0 _ (by omega)) h
  have hb : -1 ≤ nm ∧ nm ≤ 7 := by
    rw [hnm]
    split <;> omega
  refine ⟨?_, fun f j i h1 h2 h3 h4 h5 => ?_, ?_, ?_, fun p' st' hp hl h => ?_⟩
  · unfold rAdd
    exact wI (wI (wI (wI i0 (lo := -1) (hi := 5) rfl ⟨by omega, by omega⟩) (lo := 0) (hi := 4) rfl ⟨by omega, by omega⟩) (lo := -1) (hi := 7) rfl hb) (lo := 0) (hi := 6) rfl ⟨by omega, by omega⟩
  · rw [rAdd_o ⟨h1, h2, h3, h4⟩]
    exact f0 f j i h5
  · rw [rAdd_o (by decide)]
    exact e12
  · unfold rWk
    rw [← hnm]
    exact rAdd_p (by decide) hn (gm p st g)
  · exact rAdd_q (by decide) h6 hl hp (gm p' st' h)
section CR3
variable {EX : SEx} {l : Launch} {dC : Nat → ClassId} {dI : Nat → Nat → Nat} {cA : Nat → ClassId} {ad : SAd} {scrS d : Nat}
theorem b_canDo (hp : cPl tm tc tf EX) {r p : Nat} {st : List RC} {dv t : Int} {M : SMem} (hI : sI tg M) (hr : r < 6) (hp9 : p < 12) (hw : rWf st) (g : rLg 79 80 81 82 M p st) (ht : 0 ≤ t ∧ t ≤ 7) : cBG tm tf EX l dC dI cA ad scrS (d + 2) kX5_canDo [(2, 10, 0), (0, 0, (r : Int)), (0, 0, (p : Int)), (0, 0, dv), (0, 0, t)] M (fun rr MM => MM = M ∧ ((rr = [1] ∧ (rCn (rZ M) r p st dv t)) ∨ (rr = [0] ∧ ¬ (rCn (rZ M) r p st dv t)))) := by
  have tb := rWf_top hw
  have h6 := hw.1
  have g1 := g.1
  obtain ⟨ak, hak⟩ : ∃ ak : Int, (ak = 1 ∧ rAk (rZ M) (rTop st).toNat t.toNat) ∨ (ak = 0 ∧ ¬ rAk (rZ M) (rTop st).toNat t.toNat) := by
    by_cases z : rAk (rZ M) (rTop st).toNat t.toNat
    · exact ⟨1, Or.inl ⟨rfl, z⟩⟩
    · exact ⟨0, Or.inr ⟨rfl, z⟩⟩
  have e : ak = 1 ↔ rAk (rZ M) (rTop st).toNat t.toNat := by
    rcases hak with ⟨a, b⟩ | ⟨a, b⟩
    · exact ⟨fun _ => b, fun _ => a⟩
    · exact ⟨fun z => by omega, fun z => absurd z b⟩
  have hC : rCn (rZ M) r p st dv t ↔ (st.length < 6 ∧ (((dv = 1 ∨ dv = 2) ∧ (rTop st = t ∨ (rTop st ≠ -1 ∧ M 78 0 r = 0 ∧ ak = 1))) ∨ (¬ (dv = 1 ∨ dv = 2) ∧ rTop st = -1 ∧ M 62 0 t.toNat ≤ M 64 p 1 + 2 ∧ (dv = 3 ∨ (2 ≤ st.length ∧ rTw st = t))))) := by
    rw [e]
    exact Iff.rfl
  rw [show rCn (rZ M) r p st dv t = _ from propext hC]
  have b1 := wIb (f := 64) (i := 1) (lo := 0) (hi := 24) hI p rfl
  have a1 := wIb (f := 61) (i := (rTop st).toNat) (lo := 0) (hi := 8) hI 0 rfl
  have a2 := wIb (f := 61) (i := t.toNat) (lo := 0) (hi := 8) hI 0 rfl
  have cAk : rTop st ≠ -1 → cBG tm tf EX l dC dI cA ad scrS (d + 1) kX2_areAlike [(2, 4, 0), (0, 0, rTop st), (0, 0, t)] M (fun rr MM => MM = M ∧ ((rr = [1] ∧ (ak = 1)) ∨ (rr = [0] ∧ ¬ (ak = 1)))) := fun hne => by
    have w := b_areAlike (EX := EX) (l := l) (dC := dC) (dI := dI) (cA := cA) (ad := ad) (scrS := scrS) (d := d) hp (a := (rTop st).toNat) (b := t.toNat) (s := (M 61 0 (rTop st).toNat).toNat) (t := (M 61 0 t.toNat).toNat) (M := M) (by omega) (by omega) (by omega) (by omega) (by omega)
    rw [show (((rTop st).toNat : Nat) : Int) = rTop st by omega, show ((t.toNat : Nat) : Int) = t by omega] at w
    refine oBG_post w (fun rr MM h => ⟨h.1, ?_⟩)
    rcases h.2 with ⟨q1, q2⟩ | ⟨q1, q2⟩
    · exact Or.inl ⟨q1, e.mpr q2⟩
    · exact Or.inr ⟨q1, fun z => q2 (e.mp z)⟩
  refine cMeth (v := [(r : Int), (p : Int), dv, t]) (Fd := 90) hp (by decide) gX5_canDo_ok gX5_canDo_m0 (by simp [cAs, cE2, sev, svl, cen]) ?_
  refine cEnds_at gX5_canDo_m0 rfl ?_
  refine d_row 0 p (by simp only [cE2, sev, svl, cen, List.cons_append, List.nil_append]; omega) (by simp only [cE2, sev, svl, cen, List.cons_append, List.nil_append]; omega) (by omega) ?_
  rw [g1]
  refine d_br (fun h => ?_) (fun h => ?_)
  · simp only [cCmp, cE2, sev, svl, cen, List.cons_append, List.nil_append] at h
    first
    | omega
    | skip
      refine d_call (b_standing (d := d) hp hI hp9 hw.1 g) (by simp [cAs, cE2, sev, svl, cen] <;> omega) ?_
      intro rr M' hq
      obtain ⟨hM', rfl⟩ := hq
      rw [hM']
      refine ⟨rfl, ?_⟩
      refine d_call (b_isErasure (d := d) hp (x := dv)) (by simp [cAs, cE2, sev, svl, cen] <;> omega) ?_
      intro rr M' hq
      obtain ⟨hM', hq⟩ := hq
      rw [hM']
      rcases hq with ⟨rfl, q6⟩ | ⟨rfl, q6⟩
      · refine ⟨rfl, ?_⟩
        refine d_br (fun h => ?_) (fun h => ?_)
        · simp only [cCmp, cE2, sev, svl, cen, List.cons_append, List.nil_append] at h
          omega
        · clear h
          refine d_br (fun h => ?_) (fun h => ?_)
          · simp only [cCmp, cE2, sev, svl, cen, List.cons_append, List.nil_append] at h
            first
            | omega
            | skip
              exact d_ret [1] rfl (by decide) ⟨rfl, Or.inl ⟨rfl, by omega⟩⟩
          · simp only [cCmp, cE2, sev, svl, cen, List.cons_append, List.nil_append] at h
            first
            | omega
            | skip
              refine d_br (fun h => ?_) (fun h => ?_)
              · simp only [cCmp, cE2, sev, svl, cen, List.cons_append, List.nil_append] at h
                first
                | omega
                | skip
                  exact d_ret [0] rfl (by decide) ⟨rfl, Or.inr ⟨rfl, by omega⟩⟩
              · simp only [cCmp, cE2, sev, svl, cen, List.cons_append, List.nil_append] at h
                first
                | omega
                | skip
                  refine d_row 0 r (by simp only [cE2, sev, svl, cen, List.cons_append, List.nil_append]; omega) (by simp only [cE2, sev, svl, cen, List.cons_append, List.nil_append]; omega) (by omega) ?_
                  refine d_br (fun h => ?_) (fun h => ?_)
                  · simp only [cCmp, cE2, sev, svl, cen, List.cons_append, List.nil_append] at h
                    first
                    | omega
                    | skip
                      exact d_ret [0] rfl (by decide) ⟨rfl, Or.inr ⟨rfl, by omega⟩⟩
                  · simp only [cCmp, cE2, sev, svl, cen, List.cons_append, List.nil_append] at h
                    first
                    | omega
                    | skip
                      refine d_call (cAk (by omega)) (by simp [cAs, cE2, sev, svl, cen] <;> omega) ?_
                      intro rr M' hq
                      obtain ⟨hM', hq⟩ := hq
                      rw [hM']
                      rcases hq with ⟨rfl, q8⟩ | ⟨rfl, q8⟩
                      · refine ⟨rfl, ?_⟩
                        refine d_br (fun h => ?_) (fun h => ?_)
                        · simp only [cCmp, cE2, sev, svl, cen, List.cons_append, List.nil_append] at h
                          omega
                        · clear h
                          exact d_ret [1] rfl (by decide) ⟨rfl, Or.inl ⟨rfl, by omega⟩⟩
                      · refine ⟨rfl, ?_⟩
                        refine d_br (fun h => ?_) (fun h => ?_)
                        · clear h
                          exact d_ret [0] rfl (by decide) ⟨rfl, Or.inr ⟨rfl, by omega⟩⟩
                        · simp only [cCmp, cE2, sev, svl, cen, List.cons_append, List.nil_append] at h
                          omega
      · refine ⟨rfl, ?_⟩
        refine d_br (fun h => ?_) (fun h => ?_)
        · clear h
          refine d_br (fun h => ?_) (fun h => ?_)
          · simp only [cCmp, cE2, sev, svl, cen, List.cons_append, List.nil_append] at h
            first
            | omega
            | skip
              exact d_ret [0] rfl (by decide) ⟨rfl, Or.inr ⟨rfl, by omega⟩⟩
          · simp only [cCmp, cE2, sev, svl, cen, List.cons_append, List.nil_append] at h
            first
            | omega
            | skip
              refine d_row 0 t.toNat (by simp only [cE2, sev, svl, cen, List.cons_append, List.nil_append]; omega) (by simp only [cE2, sev, svl, cen, List.cons_append, List.nil_append]; omega) (by omega) ?_
              refine d_idx (by simp only [cE2, sev, svl, cen, List.cons_append, List.nil_append]; omega) ?_
              refine d_fld p (by simp only [cE2, sev, svl, cen, List.cons_append, List.nil_append]; omega) ?_
              refine d_rng (by simp only [clo, chi, cE2, sev, svl, cen, List.cons_append, List.nil_append]; omega) ?_
              refine d_br (fun h => ?_) (fun h => ?_)
              · simp only [cCmp, cE2, sev, svl, cen, List.cons_append, List.nil_append] at h
                first
                | omega
                | skip
                  refine d_br (fun h => ?_) (fun h => ?_)
                  · simp only [cCmp, cE2, sev, svl, cen, List.cons_append, List.nil_append] at h
                    first
                    | omega
                    | skip
                      exact d_ret [1] rfl (by decide) ⟨rfl, Or.inl ⟨rfl, by omega⟩⟩
                  · simp only [cCmp, cE2, sev, svl, cen, List.cons_append, List.nil_append] at h
                    first
                    | omega
                    | skip
                      refine d_call (b_belowTop (d := d) hp hp9 hw.1 g (t := t)) (by simp [cAs, cE2, sev, svl, cen] <;> omega) ?_
                      intro rr M' hq
                      obtain ⟨hM', hq⟩ := hq
                      rw [hM']
                      rcases hq with ⟨rfl, q9⟩ | ⟨rfl, q9⟩
                      · refine ⟨rfl, ?_⟩
                        refine d_br (fun h => ?_) (fun h => ?_)
                        · simp only [cCmp, cE2, sev, svl, cen, List.cons_append, List.nil_append] at h
                          omega
                        · clear h
                          exact d_ret [1] rfl (by decide) ⟨rfl, Or.inl ⟨rfl, by omega⟩⟩
                      · refine ⟨rfl, ?_⟩
                        refine d_br (fun h => ?_) (fun h => ?_)
                        · clear h
                          exact d_ret [0] rfl (by decide) ⟨rfl, Or.inr ⟨rfl, by omega⟩⟩
                        · simp only [cCmp, cE2, sev, svl, cen, List.cons_append, List.nil_append] at h
                          omega
              · simp only [cCmp, cE2, sev, svl, cen, List.cons_append, List.nil_append] at h
                first
                | omega
                | skip
                  exact d_ret [0] rfl (by decide) ⟨rfl, Or.inr ⟨rfl, by omega⟩⟩
        · simp only [cCmp, cE2, sev, svl, cen, List.cons_append, List.nil_append] at h
          omega
  · simp only [cCmp, cE2, sev, svl, cen, List.cons_append, List.nil_append] at h
    first
    | omega
    | skip
      exact d_ret [0] rfl (by decide) ⟨rfl, Or.inr ⟨rfl, by omega⟩⟩
theorem b_work (hp : cPl tm tc tf EX) {r p : Nat} {st : List RC} {dv t : Int} {M : SMem} (hI : sI tg M) (hr : r < 6) (hp9 : p < 12) (h6 : st.length < 6) (g : rLg 79 80 81 82 M p st) (hd : 1 ≤ dv ∧ dv ≤ 4) (ht : 0 ≤ t ∧ t ≤ 7) (hs : 0 ≤ M 10 0 12 ∧ M 10 0 12 ≤ 100000) : cBG tm tf EX l dC dI cA ad scrS (d + 2) kX5_work [(2, 10, 0), (0, 0, (r : Int)), (0, 0, (p : Int)), (0, 0, dv), (0, 0, t)] M (fun rr MM => rr = [] ∧ rWP r p st dv t M MM) := by
  obtain ⟨n, hn⟩ : ∃ n, n = st.length := ⟨_, rfl⟩
  have g0 : M 79 0 p = (n : Int) := by rw [hn]; exact g.1
  have g1 : supd M 10 0 12 (M 10 0 12 + 1) 79 0 p = (n : Int) := (supd_f (by decide)).trans g0
  refine cMeth (v := [(r : Int), (p : Int), dv, t]) (Fd := 90) hp (by decide) gX5_work_ok gX5_work_m0 (by simp [cAs, cE2, sev, svl, cen]) ?_
  refine cEnds_at gX5_work_m0 rfl ?_
  refine d_call (b_isErasure (d := d) hp (x := dv)) (by simp [cAs, cE2, sev, svl, cen] <;> omega) ?_
  intro rr M' hq
  obtain ⟨hM', hq⟩ := hq
  rw [hM']
  rcases hq with ⟨rfl, q4⟩ | ⟨rfl, q4⟩
  · refine ⟨rfl, ?_⟩
    refine d_br (fun h => ?_) (fun h => ?_)
    · simp only [cCmp, cE2, sev, svl, cen, List.cons_append, List.nil_append] at h
      omega
    · clear h
      refine d_call (b_standing (d := d) hp hI hp9 (by omega) g) (by simp [cAs, cE2, sev, svl, cen] <;> omega) ?_
      intro rr M' hq
      obtain ⟨hM', rfl⟩ := hq
      rw [hM']
      refine ⟨rfl, ?_⟩
      refine d_br (fun h => ?_) (fun h => ?_)
      · simp only [cCmp, cE2, sev, svl, cen, List.cons_append, List.nil_append] at h
        first
        | omega
        | skip
          refine d_call (b_radd (d := d) hp (n := n) (a := (r : Int)) (b := dv) (c := (-1)) hp9 (by omega) g0) (by simp [cAs, cE2, sev, svl, cen] <;> omega) ?_
          intro rr M' hq
          obtain ⟨rfl, e9⟩ := hq
          refine ⟨rfl, ?_⟩
          exact d_ret [] rfl (by decide) ⟨rfl, by rw [e9]; exact rWP_of hI hr hn (by omega) hd ht hs g (by rw [if_pos (by omega)]) (Or.inl ⟨rfl, by unfold rSp; rw [if_neg (by omega)]⟩)⟩
      · simp only [cCmp, cE2, sev, svl, cen, List.cons_append, List.nil_append] at h
        first
        | omega
        | skip
          refine d_fld 0 (by simp only [cE2, sev, svl, cen, List.cons_append, List.nil_append]; omega) ?_
          refine d_rng (by simp only [clo, chi, cE2, sev, svl, cen, List.cons_append, List.nil_append]; omega) ?_
          refine d_put 0 ((M 10 0 12) + 1) (by simp only [cE2, sev, svl, cen, List.cons_append, List.nil_append]; omega) (by simp only [cE2, sev, svl, cen, List.cons_append, List.nil_append]; omega) ?_
          refine d_call (b_radd (d := d) hp (n := n) (a := (r : Int)) (b := dv) (c := (-1)) hp9 (by omega) g1) (by simp [cAs, cE2, sev, svl, cen] <;> omega) ?_
          intro rr M' hq
          obtain ⟨rfl, e9⟩ := hq
          refine ⟨rfl, ?_⟩
          exact d_ret [] rfl (by decide) ⟨rfl, by rw [e9]; exact rWP_of hI hr hn (by omega) hd ht hs g (by rw [if_pos (by omega)]) (Or.inr ⟨rfl, by unfold rSp; rw [if_pos (by omega)]⟩)⟩
  · refine ⟨rfl, ?_⟩
    refine d_br (fun h => ?_) (fun h => ?_)
    · clear h
      refine d_call (b_radd (d := d) hp (n := n) (a := (r : Int)) (b := dv) (c := t) hp9 (by omega) g0) (by simp [cAs, cE2, sev, svl, cen] <;> omega) ?_
      intro rr M' hq
      obtain ⟨rfl, e9⟩ := hq
      refine ⟨rfl, ?_⟩
      exact d_ret [] rfl (by decide) ⟨rfl, by rw [e9]; exact rWP_of hI hr hn (by omega) hd ht hs g (by rw [if_neg (by omega)]) (Or.inl ⟨rfl, by unfold rSp; rw [if_neg (by omega)]⟩)⟩
    · simp only [cCmp, cE2, sev, svl, cen, List.cons_append, List.nil_append] at h
      omega
/-- behind an order's lines at a place -/
def rOP (p : Nat) (y : RX) (M MM : SMem) : Prop := sI tg MM ∧ (∀ f j i, f ≠ 79 → f ≠ 80 → f ≠ 81 → f ≠ 82 → f ≠ 85 → ¬ (f = 10 ∧ i = 12) → MM f j i = M f j i) ∧ MM 10 0 12 = y.2 ∧ rLg 79 80 81 82 MM p y.1 ∧ ∀ p' st', p' ≠ p → st'.length ≤ 6 → rLg 79 80 81 82 M p' st' → rLg 79 80 81 82 MM p' st'
theorem b_obey (hp : cPl tm tc tf EX) {r p : Nat} {st : List RC} {ls : List OLn} {M : SMem} (hI : sI tg M) (hr : r < 6) (hp9 : p < 12) (hw : rWf st) (g : rLg 79 80 81 82 M p st) (hL : oCl M r ls) (hs : 0 ≤ M 10 0 12 ∧ M 10 0 12 ≤ 5000) : cBG tm tf EX l dC dI cA ad scrS (d + 4) kX5_obey [(2, 10, 0), (0, 0, (r : Int)), (0, 0, (p : Int))] M (fun rr MM => rr = [] ∧ rOP p (rOb (rZ M) r p ls (st, M 10 0 12)) M MM) := by
  obtain ⟨Z, hZ⟩ : ∃ Z, Z = rZ M := ⟨_, rfl⟩
  obtain ⟨R0, hR0⟩ : ∃ R0, R0 = rLs Z r p ls (st, M 10 0 12) := ⟨_, rfl⟩
  have hgo : st.length ≠ 0 → M 64 p 2 ≤ M 77 0 r → rOb (rZ M) r p ls (st, M 10 0 12) = R0 := fun h1 h2 => by
    rw [hR0, hZ]
    unfold rOb
    rw [if_neg]
    rintro (q | q)
    · exact h1 q
    · have q : M 77 0 r < M 64 p 2 := q
      omega
  have hno : st.length = 0 ∨ M 77 0 r < M 64 p 2 → rOb (rZ M) r p ls (st, M 10 0 12) = (st, M 10 0 12) := fun h => by
    unfold rOb
    exact if_pos h
  have g1 := g.1
  refine cMeth (v := [(r : Int), (p : Int)]) (Fd := 90) hp (by decide) gX5_obey_ok gX5_obey_m0 (by simp [cAs, cE2, sev, svl, cen]) ?_
  have self : rOP p (st, M 10 0 12) M M := ⟨hI, fun _ _ _ _ _ _ _ _ _ => rfl, rfl, g, fun _ _ _ _ h => h⟩
  have loop : ∀ (l2 : List OLn) (k : Nat) (x : RX) (MW : SMem), k + l2.length = ls.length → (∀ j, ls[k + j]? = l2[j]?) → rWf x.1 → x.1.length ≠ 0 → x.2 ≤ M 10 0 12 + k → 0 ≤ x.2 → rOP p x M MW → rLs Z r p l2 x = R0 → cEnds (cBG tm tf EX l dC dI cA ad scrS (d + 3)) (fun rr MM => rr = [] ∧ rOP p R0 M MM) 90 gX5_obey 38 [(r : Int), (p : Int), (r : Int), (k : Int)] MW := by
    intro l2
    induction l2 with
    | nil =>
      intro k x MW hk hl w w0 hx hx0 hW hR
      have hk : k + 0 = ls.length := hk
      have e74 : MW 74 r 0 = (ls.length : Int) := (hW.2.1 74 r 0 (by decide) (by decide) (by decide) (by decide) (by decide) (by omega)).trans hL.1
      have hR : x = R0 := hR
      refine cEnds_at gX5_obey_m38 rfl ?_
      refine d_fld r (by simp only [cE2, sev, svl, cen, List.cons_append, List.nil_append]; omega) ?_
      rw [e74]
      refine d_br (fun h => ?_) (fun h => ?_)
      · simp only [cCmp, cE2, sev, svl, cen, List.cons_append, List.nil_append] at h
        first
        | omega
        | skip
          exact d_ret [] rfl (by decide) ⟨rfl, by rw [← hR]; exact hW⟩
      · simp only [cCmp, cE2, sev, svl, cen, List.cons_append, List.nil_append] at h
        first
        | omega
        | skip
          refine d_row r k (by simp only [cE2, sev, svl, cen, List.cons_append, List.nil_append]; omega) (by simp only [cE2, sev, svl, cen, List.cons_append, List.nil_append]; omega) (by omega) ?_
          refine d_row r k (by simp only [cE2, sev, svl, cen, List.cons_append, List.nil_append]; omega) (by simp only [cE2, sev, svl, cen, List.cons_append, List.nil_append]; omega) (by omega) ?_
          omega
    | cons q l2 ih =>
      intro k x MW hk hl w w0 hx hx0 hW hR
      obtain ⟨st2, s2⟩ := x
      have hk : k + (l2.length + 1) = ls.length := hk
      have h12 := hL.2.1
      have hq : ls[k]? = some q := (hl 0).trans rfl
      have fr0 : ∀ f i, (f = 74 ∧ i = 0) ∨ (96 ≤ f ∧ f ≤ 100) ∨ f = 106 → MW f r i = M f r i := fun f i h => hW.2.1 f r i (by omega) (by omega) (by omega) (by omega) (by omega) (by omega)
      have hL2 := oCl_cg fr0 hL
      obtain ⟨k1, k2, k3, fr, k4, k5, k6, k7, k8⟩ := hL2.2.2 k q hq
      have k0 := k1
      obtain ⟨m0, m1, m2, m3, m4⟩ := k0
      obtain ⟨i1, f1, c1, u1, o1⟩ := id hW
      have eZ : rZ MW = Z := (rZ_cg (fun f hf => by
        funext j i
        refine f1 f j i ?_ ?_ ?_ ?_ ?_ ?_ <;> intro z <;> revert hf <;> first | (rw [z]; decide) | (rw [z.1]; decide))).trans hZ.symm
      have u1 : rLg 79 80 81 82 MW p st2 := u1
      have c1 : MW 10 0 12 = s2 := c1
      have e74 : MW 74 r 0 = (ls.length : Int) := hL2.1
      have nxt : ∀ (y : RX) (M2 : SMem), rWf y.1 → y.1.length ≠ 0 → y.2 ≤ s2 + 1 → 0 ≤ y.2 → rOne Z r p q (st2, s2) = y → rOP p y M M2 → cEnds (cBG tm tf EX l dC dI cA ad scrS (d + 3)) (fun rr MM => rr = [] ∧ rOP p R0 M MM) 90 gX5_obey 38 [(r : Int), (p : Int), (r : Int), ((k + 1 : Nat) : Int)] M2 := fun y M2 j1 j2 j3 j4 j5 j6 => ih (k + 1) y M2 (by omega) (fun j => by have := hl (j + 1); rw [show k + 1 + j = k + (j + 1) by omega]; exact this) j1 j2 (by dsimp only at hx; omega) j4 j6 (by rw [← j5]; exact hR)
      have same : ¬ (rCn Z r p st2 (q.1 + 1) q.2.1 ∧ eV (rFc Z p st2) q.2.2 ≠ 0) → rOne Z r p q (st2, s2) = (st2, s2) := fun h => pIf_n h
      have other : (rCn Z r p st2 (q.1 + 1) q.2.1 ∧ eV (rFc Z p st2) q.2.2 ≠ 0) → rOne Z r p q (st2, s2) = (rWk r st2 (q.1 + 1) q.2.1, s2 + rSp st2 (q.1 + 1) q.2.1) := fun h => pIf_y h
      have b1 := rSp_b st2 (q.1 + 1) q.2.1
      dsimp only at hx hx0
      refine cEnds_at gX5_obey_m38 rfl ?_
      refine d_fld r (by simp only [cE2, sev, svl, cen, List.cons_append, List.nil_append]; omega) ?_
      rw [e74]
      refine d_br (fun h => ?_) (fun h => ?_)
      · simp only [cCmp, cE2, sev, svl, cen, List.cons_append, List.nil_append] at h
        first
        | omega
        | skip
          exact d_ret [] rfl (by decide) (by omega)
      · simp only [cCmp, cE2, sev, svl, cen, List.cons_append, List.nil_append] at h
        first
        | omega
        | skip
          refine d_row r k (by simp only [cE2, sev, svl, cen, List.cons_append, List.nil_append]; omega) (by simp only [cE2, sev, svl, cen, List.cons_append, List.nil_append]; omega) (by omega) ?_
          rw [k3]
          refine d_row r k (by simp only [cE2, sev, svl, cen, List.cons_append, List.nil_append]; omega) (by simp only [cE2, sev, svl, cen, List.cons_append, List.nil_append]; omega) (by omega) ?_
          rw [k2]
          refine d_call ((by have w9 := b_canDo (EX := EX) (l := l) (dC := dC) (dI := dI) (cA := cA) (ad := ad) (scrS := scrS) (d := d + 1) hp (r := r) (dv := q.1 + 1) (t := q.2.1) i1 hr hp9 w u1 (by omega); rw [eZ] at w9; exact w9)) (by simp [cAs, cE2, sev, svl, cen] <;> omega) ?_
          intro rr M' hq
          obtain ⟨hM', hq⟩ := hq
          rw [hM']
          rcases hq with ⟨rfl, q7⟩ | ⟨rfl, q7⟩
          · refine ⟨rfl, ?_⟩
            refine d_br (fun h => ?_) (fun h => ?_)
            · simp only [cCmp, cE2, sev, svl, cen, List.cons_append, List.nil_append] at h
              omega
            · clear h
              refine d_call ((by have w9 := b_evaluate (EX := EX) (l := l) (dC := dC) (dI := dI) (cA := cA) (ad := ad) (scrS := scrS) (d := d) hp (r := r) (ln := k) (fr := fr) (q := q.2.2) i1 hr (by omega) hp9 w u1 k4 k5 k6 k8 m0 k7; rw [eZ] at w9; exact w9)) (by simp [cAs, cE2, sev, svl, cen] <;> omega) ?_
              intro rr M2 hq
              obtain ⟨rfl, i2, f2⟩ := hq
              have u2 : rLg 79 80 81 82 M2 p st2 := rLg_cg (f2 79 0 p (by decide)) (fun f k9 hf _ => f2 f 0 _ (by omega)) u1
              have c2 : M2 10 0 12 = s2 := (f2 10 0 12 (by decide)).trans c1
              have k2' : M2 96 r k = q.1 + 1 := (f2 96 r k (by decide)).trans k2
              have W2 : rOP p (st2, s2) M M2 := ⟨i2, fun f j i h1 h2 h3 h4 h5 h6 => (f2 f j i h5).trans (f1 f j i h1 h2 h3 h4 h5 h6), c2, u2, fun p' st' h1 h2 h3 => rLg_cg (f2 79 0 p' (by decide)) (fun f k9 hf _ => f2 f 0 _ (by omega)) (o1 p' st' h1 h2 h3)⟩
              refine ⟨rfl, ?_⟩
              refine d_br (fun h => ?_) (fun h => ?_)
              · simp only [cCmp, cE2, sev, svl, cen, List.cons_append, List.nil_append] at h
                first
                | omega
                | skip
                  refine d_rng (by simp only [clo, chi, cE2, sev, svl, cen, List.cons_append, List.nil_append]; omega) ?_
                  refine d_cut [(r : Int), (p : Int), (r : Int), ((k + 1 : Nat) : Int)] (by simp [cE2, sev, svl, cen] <;> omega) ?_
                  exact nxt (st2, s2) M2 w w0 (by dsimp only; omega) hx0 (same (fun z => z.2 (by omega))) W2
              · simp only [cCmp, cE2, sev, svl, cen, List.cons_append, List.nil_append] at h
                first
                | omega
                | skip
                  refine d_row r k (by simp only [cE2, sev, svl, cen, List.cons_append, List.nil_append]; omega) (by simp only [cE2, sev, svl, cen, List.cons_append, List.nil_append]; omega) (by omega) ?_
                  rw [k2']
                  refine d_call (b_work (d := d + 1) hp (r := r) (dv := q.1 + 1) (t := q.2.1) i2 hr hp9 q7.1 u2 (by omega) (by omega) (by omega)) (by simp [cAs, cE2, sev, svl, cen] <;> omega) ?_
                  intro rr M3 hq
                  obtain ⟨rfl, i3, f3, c3, u3, o3⟩ := hq
                  refine ⟨rfl, ?_⟩
                  refine d_rng (by simp only [clo, chi, cE2, sev, svl, cen, List.cons_append, List.nil_append]; omega) ?_
                  refine d_cut [(r : Int), (p : Int), (r : Int), ((k + 1 : Nat) : Int)] (by simp [cE2, sev, svl, cen] <;> omega) ?_
                  have hne : eV (rFc Z p st2) q.2.2 ≠ 0 := by omega
                  refine nxt _ M3 ?_ ?_ ?_ ?_ (other ⟨q7, hne⟩) ⟨i3, fun f j i h1 h2 h3 h4 h5 h6 => (f3 f j i h1 h2 h3 h4 h6).trans (W2.2.1 f j i h1 h2 h3 h4 h5 h6), by rw [c3, c2], u3, fun p' st' h1 h2 h3 => o3 p' st' h1 h2 (W2.2.2.2.2 p' st' h1 h2 h3)⟩
                  · exact rWf_wk w q7.1 w0 hr (by omega) (by omega)
                  · dsimp only; rw [rWk_len]; omega
                  · dsimp only; omega
                  · dsimp only; omega
          · refine ⟨rfl, ?_⟩
            refine d_br (fun h => ?_) (fun h => ?_)
            · clear h
              refine d_rng (by simp only [clo, chi, cE2, sev, svl, cen, List.cons_append, List.nil_append]; omega) ?_
              refine d_cut [(r : Int), (p : Int), (r : Int), ((k + 1 : Nat) : Int)] (by simp [cE2, sev, svl, cen] <;> omega) ?_
              exact nxt (st2, s2) MW w w0 (by dsimp only; omega) hx0 (same (fun z => q7 z.1)) hW
            · simp only [cCmp, cE2, sev, svl, cen, List.cons_append, List.nil_append] at h
              omega
  refine cEnds_at gX5_obey_m0 rfl ?_
  refine d_idx (by simp only [cE2, sev, svl, cen, List.cons_append, List.nil_append]; omega) ?_
  refine d_row 0 p (by simp only [cE2, sev, svl, cen, List.cons_append, List.nil_append]; omega) (by simp only [cE2, sev, svl, cen, List.cons_append, List.nil_append]; omega) (by omega) ?_
  rw [g1]
  refine d_br (fun h => ?_) (fun h => ?_)
  · simp only [cCmp, cE2, sev, svl, cen, List.cons_append, List.nil_append] at h
    first
    | omega
    | skip
      exact d_ret [] rfl (by decide) ⟨rfl, by rw [hno (by omega)]; exact self⟩
  · simp only [cCmp, cE2, sev, svl, cen, List.cons_append, List.nil_append] at h
    first
    | omega
    | skip
      refine d_row 0 r (by simp only [cE2, sev, svl, cen, List.cons_append, List.nil_append]; omega) (by simp only [cE2, sev, svl, cen, List.cons_append, List.nil_append]; omega) (by omega) ?_
      refine d_idx (by simp only [cE2, sev, svl, cen, List.cons_append, List.nil_append]; omega) ?_
      refine d_fld p (by simp only [cE2, sev, svl, cen, List.cons_append, List.nil_append]; omega) ?_
      refine d_br (fun h => ?_) (fun h => ?_)
      · simp only [cCmp, cE2, sev, svl, cen, List.cons_append, List.nil_append] at h
        first
        | omega
        | skip
          rw [hgo (by omega) (by omega)]
          refine d_cut [(r : Int), (p : Int), (r : Int), ((0 : Nat) : Int)] (by simp [cE2, sev, svl, cen] <;> omega) ?_
          exact loop ls 0 (st, M 10 0 12) M (by omega) (fun j => by rw [Nat.zero_add]) hw (by dsimp only; omega) (by dsimp only; omega) (by dsimp only; omega) self hR0.symm
      · simp only [cCmp, cE2, sev, svl, cen, List.cons_append, List.nil_append] at h
        first
        | omega
        | skip
          exact d_ret [] rfl (by decide) ⟨rfl, by rw [hno (by omega)]; exact self⟩
end CR3
