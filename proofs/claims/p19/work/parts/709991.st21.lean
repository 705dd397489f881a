/-! stories: the class's face -/
section CS15C
variable {EX : SEx} {l : Launch} {dC : Nat → ClassId} {dI : Nat → Nat → Nat} {cA : Nat → ClassId} {ad : SAd} {scrS d : Nat}
theorem b_tally2 (hp : cPl tm tc tf EX) {M : SMem} (hI : sI tg M) (hZ : sWf (sZ M)) (hK : sKx M) : cBG tm tf EX l dC dI cA ad scrS (d + 9) kX6_tally [(2, 7, 0)] M (fun rr MM => rr = [] ∧ sKX MM M ∧ MM 7 0 16 ≠ 0 ∧ MM 7 0 14 = (((stS (sZ M) (M 6 0)).length : Nat) : Int) ∧ MM 7 0 3 = wBt (sBb (sZ M)) 6 ∧ ∀ a x, a < 6 → x < 6 → sBz (sZ M) a → MM 73 0 (6 * a + x) = ((stC (stS (sZ M) (M 6 0)) a (x : Int) : Nat) : Int)) := by
  refine cBG_post (b_tally hp hI hZ hK) (fun rr MM h => ?_)
  obtain ⟨h0, i1, f1, g1, t1, k1, eZ⟩ := h
  have x1 : sKX MM M := ⟨i1, k1, eZ, fun f j i y1 y2 => f1 f j i (fun z => y1 (by simp only [List.mem_cons, List.not_mem_nil, or_false] at z ⊢; omega)) y2⟩
  obtain ⟨-, e14, e73⟩ := k1.2.1 t1
  obtain ⟨okl, ok7, bu, ob, og⟩ := k1.1 g1
  have obz := ob.trans (bu_eq og)
  have e6 := sKX_6 x1
  rw [eZ, e6] at e14 e73
  rw [eZ] at obz
  exact ⟨h0, x1, t1, e14, obz, e73⟩
theorem b_dated2 (hp : cPl tm tc tf EX) {a x : Int} {M : SMem} : cBG tm tf EX l dC dI cA ad scrS (d + 2) kX9_dated [(2, 0, 0), (0, 0, a), (0, 0, x)] M (fun rr MM => (((0 ≤ a ∧ a < 6) ∧ -1 ≤ x ∧ x < 6) ∧ rr = [1] ∧ MM = supd (supd (supd (supd M 6 0 a.toNat x) 7 0 15 0) 7 0 16 0) 7 0 17 (-1)) ∨ (¬ ((0 ≤ a ∧ a < 6) ∧ -1 ≤ x ∧ x < 6) ∧ rr = [0] ∧ MM = M)) := by
  refine cMeth (v := [a, x]) (Fd := 90) hp (by decide) gX9_dated_ok gX9_dated_m0 (by simp [cAs, cE2, sev, svl, cen]) ?_
  refine cEnds_at gX9_dated_m0 rfl ?_
  refine d_call (b_isBelow hp (x := a) (y := 6)) (by simp [cAs, cE2, sev, svl, cen] <;> omega) ?_
  intro rr M' hq
  obtain ⟨hM', hq⟩ := hq
  rw [hM']
  rcases hq with ⟨rfl, q2⟩ | ⟨rfl, q2⟩
  · refine ⟨rfl, ?_⟩
    refine d_br (fun h => ?_) (fun h => ?_)
    · simp only [cCmp, cE2, sev, svl, cen, List.cons_append, List.nil_append] at h
      omega
    · clear h
      refine d_br (fun h => ?_) (fun h => ?_)
      · simp only [cCmp, cE2, sev, svl, cen, List.cons_append, List.nil_append] at h
        first
        | omega
        | skip
          refine d_set 0 a.toNat x (by simp only [cE2, sev, svl, cen, List.cons_append, List.nil_append]; omega) (by simp only [cE2, sev, svl, cen, List.cons_append, List.nil_append]; omega) (by omega) (by simp only [cE2, sev, svl, cen, List.cons_append, List.nil_append]; omega) ?_
          refine d_call (b_forget6x hp) (by simp [cAs, cE2, sev, svl, cen] <;> omega) ?_
          intro rr M' hq
          obtain ⟨rfl, hM'⟩ := hq
          rw [hM']
          refine ⟨rfl, ?_⟩
          exact d_ret [1] rfl (by decide) (Or.inl ⟨by omega, rfl, rfl⟩)
      · simp only [cCmp, cE2, sev, svl, cen, List.cons_append, List.nil_append] at h
        first
        | omega
        | skip
          refine d_call (b_isBelow hp (x := x) (y := 6)) (by simp [cAs, cE2, sev, svl, cen] <;> omega) ?_
          intro rr M' hq
          obtain ⟨hM', hq⟩ := hq
          rw [hM']
          rcases hq with ⟨rfl, q3⟩ | ⟨rfl, q3⟩
          · refine ⟨rfl, ?_⟩
            refine d_br (fun h => ?_) (fun h => ?_)
            · clear h
              refine d_set 0 a.toNat x (by simp only [cE2, sev, svl, cen, List.cons_append, List.nil_append]; omega) (by simp only [cE2, sev, svl, cen, List.cons_append, List.nil_append]; omega) (by omega) (by simp only [cE2, sev, svl, cen, List.cons_append, List.nil_append]; omega) ?_
              refine d_call (b_forget6x hp) (by simp [cAs, cE2, sev, svl, cen] <;> omega) ?_
              intro rr M' hq
              obtain ⟨rfl, hM'⟩ := hq
              rw [hM']
              refine ⟨rfl, ?_⟩
              exact d_ret [1] rfl (by decide) (Or.inl ⟨by omega, rfl, rfl⟩)
            · simp only [cCmp, cE2, sev, svl, cen, List.cons_append, List.nil_append] at h
              omega
          · refine ⟨rfl, ?_⟩
            refine d_br (fun h => ?_) (fun h => ?_)
            · simp only [cCmp, cE2, sev, svl, cen, List.cons_append, List.nil_append] at h
              omega
            · clear h
              exact d_ret [0] rfl (by decide) (Or.inr ⟨by omega, rfl, rfl⟩)
  · refine ⟨rfl, ?_⟩
    refine d_br (fun h => ?_) (fun h => ?_)
    · clear h
      exact d_ret [0] rfl (by decide) (Or.inr ⟨by omega, rfl, rfl⟩)
    · simp only [cCmp, cE2, sev, svl, cen, List.cons_append, List.nil_append] at h
      omega
theorem b_storiesX (hp : cPl tm tc tf EX) {w : Int} {M : SMem} (hI : sI tg M) (hZ : sWf (sZ M)) (hK : sKx M) : cBG tm tf EX l dC dI cA ad scrS (d + 10) kX9_stories [(2, 0, 0), (0, 0, w)] M (fun rr MM => sKX MM M ∧ ∃ r : Int, rr = [r] ∧ ((w = 0 ∧ r = (((stS (sZ M) (M 6 0)).length : Nat) : Int)) ∨ (w = 1 ∧ r = wBt (wDc (fun a => sBz (sZ M) a ∧ stSr (stS (sZ M) (M 6 0)) a)) 6) ∨ (w = 2 ∧ r = wBt (sBb (sZ M)) 6) ∨ (¬ (0 ≤ w ∧ w ≤ 2) ∧ r = -1))) := by
  have b9 := stS_len (Z := sZ M) (dt := M 6 0)
  have br := wBt_r (sBb (sZ M)) 6
  have br2 := wBt_r (wDc (fun a => sBz (sZ M) a ∧ stSr (stS (sZ M) (M 6 0)) a)) 6
  refine cMeth (v := [w]) (Fd := 90) hp (by decide) gX9_stories_ok gX9_stories_m0 (by simp [cAs, cE2, sev, svl, cen]) ?_
  refine cEnds_at gX9_stories_m0 rfl ?_
  refine d_br (fun h => ?_) (fun h => ?_)
  · simp only [cCmp, cE2, sev, svl, cen, List.cons_append, List.nil_append] at h
    first
    | omega
    | skip
      exact d_ret [(-1)] rfl (by decide) ⟨sKX_rf hI hK, _, rfl, by omega⟩
  · simp only [cCmp, cE2, sev, svl, cen, List.cons_append, List.nil_append] at h
    first
    | omega
    | skip
      refine d_br (fun h => ?_) (fun h => ?_)
      · simp only [cCmp, cE2, sev, svl, cen, List.cons_append, List.nil_append] at h
        first
        | omega
        | skip
          exact d_ret [(-1)] rfl (by decide) ⟨sKX_rf hI hK, _, rfl, by omega⟩
      · simp only [cCmp, cE2, sev, svl, cen, List.cons_append, List.nil_append] at h
        first
        | omega
        | skip
          refine d_br (fun h => ?_) (fun h => ?_)
          · simp only [cCmp, cE2, sev, svl, cen, List.cons_append, List.nil_append] at h
            first
            | omega
            | skip
              refine d_call (b_tally2 (d := d) hp hI hZ hK) (by simp [cAs, cE2, sev, svl, cen] <;> omega) ?_
              intro rr M' hq
              obtain ⟨rfl, x1, t1, e14, e3, e73⟩ := hq
              refine ⟨rfl, ?_⟩
              refine d_fld 0 (by simp only [cE2, sev, svl, cen, List.cons_append, List.nil_append]; omega) ?_
              rw [e14]
              exact wret1 (((stS (sZ M) (M 6 0)).length : Nat) : Int) (by simp only [cE2, sev, svl, cen, List.cons_append, List.nil_append]; omega) (by omega) ⟨x1, _, rfl, by omega⟩
          · simp only [cCmp, cE2, sev, svl, cen, List.cons_append, List.nil_append] at h
            first
            | omega
            | skip
              refine d_br (fun h => ?_) (fun h => ?_)
              · simp only [cCmp, cE2, sev, svl, cen, List.cons_append, List.nil_append] at h
                first
                | omega
                | skip
                  refine d_call (b_tally2 (d := d) hp hI hZ hK) (by simp [cAs, cE2, sev, svl, cen] <;> omega) ?_
                  intro rr M' hq
                  obtain ⟨rfl, x1, t1, e14, e3, e73⟩ := hq
                  refine ⟨rfl, ?_⟩
                  refine d_call (b_sureHands (d := d + 7) hp (L := (stS (sZ M) (M 6 0))) (Z := sZ M) b9 e14 e3 e73) (by simp [cAs, cE2, sev, svl, cen] <;> omega) ?_
                  intro rr M' hq
                  obtain ⟨hM', rfl⟩ := hq
                  rw [hM']
                  refine ⟨rfl, ?_⟩
                  exact wret1 (wBt (wDc (fun a => sBz (sZ M) a ∧ stSr (stS (sZ M) (M 6 0)) a)) 6) (by simp only [cE2, sev, svl, cen, List.cons_append, List.nil_append]; omega) (by omega) ⟨x1, _, rfl, by omega⟩
              · simp only [cCmp, cE2, sev, svl, cen, List.cons_append, List.nil_append] at h
                first
                | omega
                | skip
                  refine d_br (fun h => ?_) (fun h => ?_)
                  · simp only [cCmp, cE2, sev, svl, cen, List.cons_append, List.nil_append] at h
                    first
                    | omega
                    | skip
                      refine d_call (b_gatherAll2 (d := d + 4) hp hI hZ hK) (by simp [cAs, cE2, sev, svl, cen] <;> omega) ?_
                      intro rr M' hq
                      obtain ⟨rfl, i1, f1, g1, ok1, k1, eZ⟩ := hq
                      have x1 : sKX M' M := ⟨i1, k1, eZ, fun f j i y1 y2 => f1 f j i (fun z => y1 (by simp only [List.mem_cons, List.not_mem_nil, or_false] at z ⊢; omega)) (fun z => y2 z.1)⟩
                      obtain ⟨okl, ok7, bu, ob, og⟩ := ok1
                      have e3 := ob.trans (bu_eq og)
                      rw [eZ] at e3
                      refine ⟨rfl, ?_⟩
                      refine d_fld 0 (by simp only [cE2, sev, svl, cen, List.cons_append, List.nil_append]; omega) ?_
                      rw [e3]
                      exact wret1 (wBt (sBb (sZ M)) 6) (by simp only [cE2, sev, svl, cen, List.cons_append, List.nil_append]; omega) (by omega) ⟨x1, _, rfl, by omega⟩
                  · simp only [cCmp, cE2, sev, svl, cen, List.cons_append, List.nil_append] at h
                    first
                    | omega
                    | skip
                      omega
theorem b_storyX (hp : cPl tm tc tf EX) {k a : Int} {M : SMem} (hI : sI tg M) (hZ : sWf (sZ M)) (hK : sKx M) : cBG tm tf EX l dC dI cA ad scrS (d + 10) kX9_story [(2, 0, 0), (0, 0, k), (0, 0, a)] M (fun rr MM => sKX MM M ∧ ∃ r : Int, rr = [r] ∧ ((¬ (0 ≤ k ∧ k < (((stS (sZ M) (M 6 0)).length : Nat) : Int) ∧ 0 ≤ a ∧ a < 6 ∧ sBz (sZ M) a.toNat) ∧ r = -1) ∨ ((0 ≤ k ∧ k < (((stS (sZ M) (M 6 0)).length : Nat) : Int) ∧ 0 ≤ a ∧ a < 6 ∧ sBz (sZ M) a.toNat) ∧ ∃ s, (stS (sZ M) (M 6 0))[k.toNat]? = some s ∧ r = s a.toNat))) := by
  refine cMeth (v := [k, a]) (Fd := 90) hp (by decide) gX9_story_ok gX9_story_m0 (by simp [cAs, cE2, sev, svl, cen]) ?_
  refine cEnds_at gX9_story_m0 rfl ?_
  refine d_call (b_isBusyHand (d := d + 2) hp (a := a) hI hZ hK) (by simp [cAs, cE2, sev, svl, cen]) ?_
  rintro rr M1 ⟨x1, hq⟩
  rcases hq with ⟨rfl, h15, a0, a6, bz⟩ | ⟨rfl, hno⟩
  · refine ⟨rfl, ?_⟩
    refine d_br (fun h => ?_) (fun h => ?_)
    · simp only [cCmp, cE2, sev, svl, cen, List.cons_append, List.nil_append] at h
      omega
    · clear h
      refine d_br (fun h => ?_) (fun h => ?_)
      · simp only [cCmp, cE2, sev, svl, cen, List.cons_append, List.nil_append] at h
        have eZ1 : sZ M1 = sZ M := x1.2.2.1
        have e61 := sKX_6 x1
        refine d_call (b_tally2 (d := d) hp x1.1 (by rw [eZ1]; exact hZ) x1.2.1) (by simp [cAs, cE2, sev, svl, cen]) ?_
        rintro rr M2 ⟨rfl, x2', t2, -, -, -⟩
        refine ⟨rfl, ?_⟩
        have x2 := sKX_tr x2' x1
        have eZ2 : sZ M2 = sZ M := x2.2.2.1
        have e62 := sKX_6 x2
        obtain ⟨kn, rfl⟩ : ∃ kn : Nat, k = (kn : Int) := ⟨k.toNat, by omega⟩
        refine d_call (b_seek (d := d) hp (k := kn) x2.1 (by rw [eZ2]; exact hZ) x2.2.1 t2) (by simp [cAs, cE2, sev, svl, cen]) ?_
        rintro rr M3 ⟨x3', hq⟩
        have x3 := sKX_tr x3' x2
        rw [eZ2, e62] at hq
        rcases hq with ⟨rfl, s, hs, hs2⟩ | ⟨rfl, hle⟩
        · refine ⟨rfl, ?_⟩
          refine d_br (fun h => ?_) (fun h => ?_)
          · simp only [cCmp, cE2, sev, svl, cen, List.cons_append, List.nil_append] at h
            omega
          · clear h
            have bs := stS_rng hZ (List.mem_of_getElem? hs) a.toNat (by omega)
            have hlt := (List.getElem?_eq_some_iff.mp hs).1
            refine d_row 0 a.toNat (by simp only [cE2, sev, svl, cen, List.cons_append, List.nil_append]; omega) (by simp only [cE2, sev, svl, cen, List.cons_append, List.nil_append]; omega) (by omega) ?_
            rw [hs2 a.toNat (by omega) bz]
            exact wret1 (s a.toNat) (by simp only [cE2, sev, svl, cen, List.cons_append, List.nil_append]; omega) (by omega) ⟨x3, _, rfl, Or.inr ⟨⟨by omega, by omega, a0, a6, bz⟩, s, by rw [show ((kn : Nat) : Int).toNat = kn by omega]; exact hs, rfl⟩⟩
        · refine ⟨rfl, ?_⟩
          refine d_br (fun h => ?_) (fun h => ?_)
          · exact d_ret [-1] rfl (by decide) ⟨x3, _, rfl, Or.inl ⟨fun z => by have := z.2.1; omega, rfl⟩⟩
          · simp only [cCmp, cE2, sev, svl, cen, List.cons_append, List.nil_append] at h
            omega
      · simp only [cCmp, cE2, sev, svl, cen, List.cons_append, List.nil_append] at h
        exact d_ret [-1] rfl (by decide) ⟨x1, _, rfl, Or.inl ⟨fun z => by have := z.1; omega, rfl⟩⟩
  · refine ⟨rfl, ?_⟩
    refine d_br (fun h => ?_) (fun h => ?_)
    · exact d_ret [-1] rfl (by decide) ⟨x1, _, rfl, Or.inl ⟨fun z => hno z.2.2, rfl⟩⟩
    · simp only [cCmp, cE2, sev, svl, cen, List.cons_append, List.nil_append] at h
      omega
theorem b_oddsX (hp : cPl tm tc tf EX) {a x : Int} {M : SMem} (hI : sI tg M) (hZ : sWf (sZ M)) (hK : sKx M) : cBG tm tf EX l dC dI cA ad scrS (d + 10) kX9_odds [(2, 0, 0), (0, 0, a), (0, 0, x)] M (fun rr MM => sKX MM M ∧ ∃ r : Int, rr = [r] ∧ ((¬ ((0 ≤ a ∧ a < 6 ∧ sBz (sZ M) a.toNat) ∧ 0 ≤ x ∧ x < 6) ∧ r = -1) ∨ (((0 ≤ a ∧ a < 6 ∧ sBz (sZ M) a.toNat) ∧ 0 ≤ x ∧ x < 6) ∧ r = ((stC (stS (sZ M) (M 6 0)) a.toNat x : Nat) : Int)))) := by
  refine cMeth (v := [a, x]) (Fd := 90) hp (by decide) gX9_odds_ok gX9_odds_m0 (by simp [cAs, cE2, sev, svl, cen]) ?_
  refine cEnds_at gX9_odds_m0 rfl ?_
  refine d_call (b_isBusyHand (d := d + 2) hp (a := a) hI hZ hK) (by simp [cAs, cE2, sev, svl, cen]) ?_
  rintro rr M1 ⟨x1, hq⟩
  rcases hq with ⟨rfl, h15, a0, a6, bz⟩ | ⟨rfl, hno⟩
  · refine ⟨rfl, ?_⟩
    refine d_br (fun h => ?_) (fun h => ?_)
    · simp only [cCmp, cE2, sev, svl, cen, List.cons_append, List.nil_append] at h
      omega
    · clear h
      refine d_call (b_isBelow hp (x := x) (y := 6)) (by simp [cAs, cE2, sev, svl, cen]) ?_
      intro rr M' hq
      obtain ⟨hM', hq⟩ := hq
      rw [hM']
      rcases hq with ⟨rfl, q1⟩ | ⟨rfl, q1⟩
      · refine ⟨rfl, ?_⟩
        refine d_br (fun h => ?_) (fun h => ?_)
        · clear h
          have eZ1 : sZ M1 = sZ M := x1.2.2.1
          have e61 := sKX_6 x1
          refine d_call (b_tally2 (d := d) hp x1.1 (by rw [eZ1]; exact hZ) x1.2.1) (by simp [cAs, cE2, sev, svl, cen]) ?_
          rintro rr M2 ⟨rfl, x2', t2, -, -, e73⟩
          rw [eZ1, e61] at e73
          have x2 := sKX_tr x2' x1
          have hc := stC_le (L := (stS (sZ M) (M 6 0))) (a := a.toNat) (x := x)
          have b9 := stS_len (Z := sZ M) (dt := M 6 0)
          refine ⟨rfl, ?_⟩
          refine d_rng (by simp only [clo, chi, cE2, sev, svl, cen, List.cons_append, List.nil_append]; omega) ?_
          refine d_rng (by simp only [clo, chi, cE2, sev, svl, cen, List.cons_append, List.nil_append]; omega) ?_
          refine d_row 0 (6 * a.toNat + x.toNat) (by simp only [cE2, sev, svl, cen, List.cons_append, List.nil_append]; omega) (by simp only [cE2, sev, svl, cen, List.cons_append, List.nil_append]; omega) (by omega) ?_
          rw [e73 a.toNat x.toNat (by omega) (by omega) bz, show ((x.toNat : Nat) : Int) = x by omega]
          exact wret1 ((stC (stS (sZ M) (M 6 0)) a.toNat x : Nat) : Int) (by simp only [cE2, sev, svl, cen, List.cons_append, List.nil_append]; omega) (by omega) ⟨x2, _, rfl, Or.inr ⟨⟨⟨a0, a6, bz⟩, q1⟩, rfl⟩⟩
        · simp only [cCmp, cE2, sev, svl, cen, List.cons_append, List.nil_append] at h
          omega
      · refine ⟨rfl, ?_⟩
        refine d_br (fun h => ?_) (fun h => ?_)
        · simp only [cCmp, cE2, sev, svl, cen, List.cons_append, List.nil_append] at h
          omega
        · exact d_ret [-1] rfl (by decide) ⟨x1, _, rfl, Or.inl ⟨fun z => q1 z.2, rfl⟩⟩
  · refine ⟨rfl, ?_⟩
    refine d_br (fun h => ?_) (fun h => ?_)
    · exact d_ret [-1] rfl (by decide) ⟨x1, _, rfl, Or.inl ⟨fun z => hno z.1, rfl⟩⟩
    · simp only [cCmp, cE2, sev, svl, cen, List.cons_append, List.nil_append] at h
      omega
theorem b_betweenX (hp : cPl tm tc tf EX) {a b : Int} {M : SMem} (hI : sI tg M) (hZ : sWf (sZ M)) (hK : sKx M) : cBG tm tf EX l dC dI cA ad scrS (d + 10) kX9_between [(2, 0, 0), (0, 0, a), (0, 0, b)] M (fun rr MM => sKX MM M ∧ ∃ r : Int, rr = [r] ∧ ((¬ ((0 ≤ a ∧ a < 6 ∧ sBz (sZ M) a.toNat) ∧ (0 ≤ b ∧ b < 6 ∧ sBz (sZ M) b.toNat)) ∧ r = -1) ∨ (((0 ≤ a ∧ a < 6 ∧ sBz (sZ M) a.toNat) ∧ (0 ≤ b ∧ b < 6 ∧ sBz (sZ M) b.toNat)) ∧ r = stR3 (stS (sZ M) (M 6 0)) a.toNat b.toNat))) := by
  refine cMeth (v := [a, b]) (Fd := 90) hp (by decide) gX9_between_ok gX9_between_m0 (by simp [cAs, cE2, sev, svl, cen]) ?_
  refine cEnds_at gX9_between_m0 rfl ?_
  refine d_call (b_isBusyHand (d := d + 2) hp (a := a) hI hZ hK) (by simp [cAs, cE2, sev, svl, cen]) ?_
  rintro rr M1 ⟨x1, hq⟩
  rcases hq with ⟨rfl, h15, a0, a6, bz⟩ | ⟨rfl, hno⟩
  · refine ⟨rfl, ?_⟩
    refine d_br (fun h => ?_) (fun h => ?_)
    · simp only [cCmp, cE2, sev, svl, cen, List.cons_append, List.nil_append] at h
      omega
    · clear h
      have eZ1 : sZ M1 = sZ M := x1.2.2.1
      have e61 := sKX_6 x1
      refine d_call (b_isBusyHand (d := d + 2) hp (a := b) x1.1 (by rw [eZ1]; exact hZ) x1.2.1) (by simp [cAs, cE2, sev, svl, cen]) ?_
      rintro rr M2 ⟨x2', hq⟩
      have x2 := sKX_tr x2' x1
      rw [eZ1] at hq
      rcases hq with ⟨rfl, h15', b0, b6, bz'⟩ | ⟨rfl, hno⟩
      · refine ⟨rfl, ?_⟩
        refine d_br (fun h => ?_) (fun h => ?_)
        · clear h
          have eZ2 : sZ M2 = sZ M := x2.2.2.1
          have e62 := sKX_6 x2
          refine d_call (b_relations (d := d + 3) hp (a := a.toNat) (b := b.toNat) x2.1 (by rw [eZ2]; exact hZ) x2.2.1 (by omega) (by omega) (by rw [eZ2]; exact bz) (by rw [eZ2]; exact bz')) (by simp [cAs, cE2, sev, svl, cen] <;> omega) ?_
          rintro rr M3 ⟨x3', rfl⟩
          rw [eZ2, e62]
          have x3 := sKX_tr x3' x2
          refine ⟨rfl, ?_⟩
          have br := r3_rng (wDc (stRl (stS (sZ M) (M 6 0)) a.toNat b.toNat) 0) (wDc (stRl (stS (sZ M) (M 6 0)) a.toNat b.toNat) 1) (wDc (stRl (stS (sZ M) (M 6 0)) a.toNat b.toNat) 2)
          exact wret1 (stR3 (stS (sZ M) (M 6 0)) a.toNat b.toNat) (by simp only [cE2, sev, svl, cen, List.cons_append, List.nil_append]; omega) (by unfold stR3; omega) ⟨x3, _, rfl, Or.inr ⟨⟨⟨a0, a6, bz⟩, b0, b6, bz'⟩, rfl⟩⟩
        · simp only [cCmp, cE2, sev, svl, cen, List.cons_append, List.nil_append] at h
          omega
      · refine ⟨rfl, ?_⟩
        refine d_br (fun h => ?_) (fun h => ?_)
        · simp only [cCmp, cE2, sev, svl, cen, List.cons_append, List.nil_append] at h
          omega
        · exact d_ret [-1] rfl (by decide) ⟨x2, _, rfl, Or.inl ⟨fun z => hno z.2, rfl⟩⟩
  · refine ⟨rfl, ?_⟩
    refine d_br (fun h => ?_) (fun h => ?_)
    · exact d_ret [-1] rfl (by decide) ⟨x1, _, rfl, Or.inl ⟨fun z => hno z.1, rfl⟩⟩
    · simp only [cCmp, cE2, sev, svl, cen, List.cons_append, List.nil_append] at h
      omega
theorem b_stoodX (hp : cPl tm tc tf EX) {a b : Int} {M : SMem} (hI : sI tg M) (hZ : sWf (sZ M)) (hK : sKx M) : cBG tm tf EX l dC dI cA ad scrS (d + 10) kX9_stood [(2, 0, 0), (0, 0, a), (0, 0, b)] M (fun rr MM => sKX MM M ∧ ∃ r : Int, rr = [r] ∧ ((¬ ((0 ≤ a ∧ a < 12 ∧ M 64 a.toNat 0 ≠ 0 ∧ 0 ≤ b ∧ b < M 64 a.toNat 5 ∧ ¬ (M 92 a.toNat b.toNat = 1 ∨ M 92 a.toNat b.toNat = 2)) ∧ (stS (sZ M) (M 6 0)) ≠ []) ∧ r = -1) ∨ (((0 ≤ a ∧ a < 12 ∧ M 64 a.toNat 0 ≠ 0 ∧ 0 ≤ b ∧ b < M 64 a.toNat 5 ∧ ¬ (M 92 a.toNat b.toNat = 1 ∨ M 92 a.toNat b.toNat = 2)) ∧ (stS (sZ M) (M 6 0)) ≠ []) ∧ r = stBits M (stS (sZ M) (M 6 0)) a.toNat b.toNat))) := by
  refine cMeth (v := [a, b]) (Fd := 90) hp (by decide) gX9_stood_ok gX9_stood_m0 (by simp [cAs, cE2, sev, svl, cen]) ?_
  refine cEnds_at gX9_stood_m0 rfl ?_
  refine d_call (b_isNameCut (d := d + 5) hp (a := a) (b := b) hI) (by simp [cAs, cE2, sev, svl, cen]) ?_
  intro rr M' hq
  obtain ⟨hM', hq⟩ := hq
  rw [hM']
  rcases hq with ⟨rfl, q1⟩ | ⟨rfl, q1⟩
  · refine ⟨rfl, ?_⟩
    refine d_br (fun h => ?_) (fun h => ?_)
    · simp only [cCmp, cE2, sev, svl, cen, List.cons_append, List.nil_append] at h
      omega
    · clear h
      refine d_idx (by simp only [cE2, sev, svl, cen, List.cons_append, List.nil_append]; omega) ?_
      refine d_call (b_standing (d := d + 3) hp (p := a.toNat) (ly := b.toNat) hI hZ hK (by omega) (by omega)) (by simp [cAs, cE2, sev, svl, cen] <;> omega) ?_
      rintro rr M2 ⟨x2, hq⟩
      rcases hq with ⟨rfl, hn⟩ | ⟨rfl, hn⟩
      · refine ⟨rfl, ?_⟩
        exact wret1 (-1) (by simp only [cE2, sev, svl, cen, List.cons_append, List.nil_append]; omega) (by omega) ⟨x2, _, rfl, Or.inl ⟨fun z => z.2 hn, rfl⟩⟩
      · refine ⟨rfl, ?_⟩
        exact wret1 (stBits M (stS (sZ M) (M 6 0)) a.toNat b.toNat) (by simp only [cE2, sev, svl, cen, List.cons_append, List.nil_append]; omega) (wBt_r _ 8) ⟨x2, _, rfl, Or.inr ⟨⟨q1, hn⟩, rfl⟩⟩
  · refine ⟨rfl, ?_⟩
    refine d_br (fun h => ?_) (fun h => ?_)
    · exact d_ret [-1] rfl (by decide) ⟨sKX_rf hI hK, _, rfl, Or.inl ⟨fun z => q1 z.1, rfl⟩⟩
    · simp only [cCmp, cE2, sev, svl, cen, List.cons_append, List.nil_append] at h
      omega
theorem b_nextX (hp : cPl tm tc tf EX) {w : Int} {M : SMem} (hI : sI tg M) (hZ : sWf (sZ M)) (hK : sKx M) : cBG tm tf EX l dC dI cA ad scrS (d + 10) kX9_next [(2, 0, 0), (0, 0, w)] M (fun rr MM => sKX MM M ∧ ∃ r : Int, rr = [r] ∧ ((¬ (0 ≤ w ∧ w < 2) ∧ r = -1) ∨ ((0 ≤ w ∧ w < 2) ∧ r = if stN (stS (sZ M) (M 6 0)) (fun k => 0 < (stS (sZ M) (M 6 0)).length ∧ sBz (sZ M) k ∧ M 6 0 k = -1) 6 = -1 ∨ w = 0 then stN (stS (sZ M) (M 6 0)) (fun k => 0 < (stS (sZ M) (M 6 0)).length ∧ sBz (sZ M) k ∧ M 6 0 k = -1) 6 else stM (stS (sZ M) (M 6 0)) (stN (stS (sZ M) (M 6 0)) (fun k => 0 < (stS (sZ M) (M 6 0)).length ∧ sBz (sZ M) k ∧ M 6 0 k = -1) 6).toNat 6))) := by
  refine cMeth (v := [w]) (Fd := 90) hp (by decide) gX9_next_ok gX9_next_m0 (by simp [cAs, cE2, sev, svl, cen]) ?_
  refine cEnds_at gX9_next_m0 rfl ?_
  refine d_call (b_isBelow hp (x := w) (y := 2)) (by simp [cAs, cE2, sev, svl, cen]) ?_
  intro rr M' hq
  obtain ⟨hM', hq⟩ := hq
  rw [hM']
  rcases hq with ⟨rfl, q1⟩ | ⟨rfl, q1⟩
  · refine ⟨rfl, ?_⟩
    refine d_br (fun h => ?_) (fun h => ?_)
    · clear h
      refine d_call (b_tally2 (d := d) hp hI hZ hK) (by simp [cAs, cE2, sev, svl, cen]) ?_
      rintro rr M2 ⟨rfl, x2, t2, e14, e3, e73⟩
      refine ⟨rfl, ?_⟩
      have b9 := stS_len (Z := sZ M) (dt := M 6 0)
      have e62 := sKX_6 x2
      have hd := b_handToDate (d := d + 7) (ad := ad) (scrS := scrS) (l := l) (dC := dC) (dI := dI) (cA := cA) hp (L := (stS (sZ M) (M 6 0))) (Z := sZ M) (M := M2) b9 e14 e3 e73
      rw [e62] at hd
      have bN := stN_b (L := (stS (sZ M) (M 6 0))) (op := (fun k => 0 < (stS (sZ M) (M 6 0)).length ∧ sBz (sZ M) k ∧ M 6 0 k = -1)) 6
      have bM := stM_b (L := (stS (sZ M) (M 6 0))) (a := (stN (stS (sZ M) (M 6 0)) (fun k => 0 < (stS (sZ M) (M 6 0)).length ∧ sBz (sZ M) k ∧ M 6 0 k = -1) 6).toNat) 6
      refine d_call hd (by simp [cAs, cE2, sev, svl, cen]) ?_
      rintro rr M3 ⟨hM3, rfl⟩
      rw [hM3]
      refine ⟨rfl, ?_⟩
      generalize hNN : stN (stS (sZ M) (M 6 0)) (fun k => 0 < (stS (sZ M) (M 6 0)).length ∧ sBz (sZ M) k ∧ M 6 0 k = -1) 6 = NN at bN bM ⊢
      refine d_br (fun h => ?_) (fun h => ?_)
      · simp only [cCmp, cE2, sev, svl, cen, List.cons_append, List.nil_append] at h
        exact wret1 NN (by simp only [cE2, sev, svl, cen, List.cons_append, List.nil_append]; omega) (by omega) ⟨x2, _, rfl, Or.inr ⟨q1, by rw [if_pos (Or.inl (by omega))]⟩⟩
      · simp only [cCmp, cE2, sev, svl, cen, List.cons_append, List.nil_append] at h
        refine d_br (fun h2 => ?_) (fun h2 => ?_)
        · simp only [cCmp, cE2, sev, svl, cen, List.cons_append, List.nil_append] at h2
          have hNy := bN.resolve_left (by omega)
          refine d_call (b_mostOf (d := d + 8) hp (L := (stS (sZ M) (M 6 0))) (hn := NN.toNat) (M := M2) (by omega) b9 (fun x hx => e73 _ x (by omega) hx hNy.2.2.2.1)) (by simp [cAs, cE2, sev, svl, cen] <;> omega) ?_
          rintro rr M4 ⟨hM4, rfl⟩
          rw [hM4]
          refine ⟨rfl, ?_⟩
          exact wret1 (stM (stS (sZ M) (M 6 0)) NN.toNat 6) (by simp only [cE2, sev, svl, cen, List.cons_append, List.nil_append]; omega) (by omega) ⟨x2, _, rfl, Or.inr ⟨q1, by rw [if_neg (fun z => by omega)]⟩⟩
        · simp only [cCmp, cE2, sev, svl, cen, List.cons_append, List.nil_append] at h2
          exact wret1 NN (by simp only [cE2, sev, svl, cen, List.cons_append, List.nil_append]; omega) (by omega) ⟨x2, _, rfl, Or.inr ⟨q1, by rw [if_pos (Or.inr (by omega))]⟩⟩
    · simp only [cCmp, cE2, sev, svl, cen, List.cons_append, List.nil_append] at h
      omega
  · refine ⟨rfl, ?_⟩
    refine d_br (fun h => ?_) (fun h => ?_)
    · simp only [cCmp, cE2, sev, svl, cen, List.cons_append, List.nil_append] at h
      omega
    · exact d_ret [-1] rfl (by decide) ⟨sKX_rf hI hK, _, rfl, Or.inl ⟨q1, rfl⟩⟩
end CS15C
