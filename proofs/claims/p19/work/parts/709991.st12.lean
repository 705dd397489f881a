/-! stories: the class tallies them -/
theorem sZ_cg {M M1 : SMem} (h : ∀ f, f ∈ [58, 59, 60, 61, 62, 63, 64, 91, 92, 93, 94, 95] → M1 f = M f) : sZ M1 = sZ M := by
  have hw : ∀ p l n, sFitX M1 p l n = sFitX M p l n := fun p l n => by
    unfold sFitX
    rw [h 58 (by decide)]
    exact propext (and_congr Iff.rfl (wFt_cg (fun f hf => h f (by simp only [List.mem_cons, List.not_mem_nil, or_false] at hf ⊢; omega)) l))
  unfold sZ
  rw [h 64 (by decide), h 91 (by decide), h 92 (by decide), h 60 (by decide)]
  congr 1
  congr 1
  congr 1
  congr 1
  funext p l n
  exact hw p l n
theorem sGok_cg {Z : STZ} {M M1 : SMem} (h : ∀ f, f ∈ [6, 65, 66, 67, 68] → M1 f 0 = M f 0) (h3 : M1 7 0 3 = M 7 0 3) (h4 : M1 7 0 4 = M 7 0 4) (hg : sGok Z M) : sGok Z M1 := by
  unfold sGok
  rw [h 6 (by decide), h 65 (by decide), h 66 (by decide), h 67 (by decide), h 68 (by decide), h3, h4]
  exact hg
def sTok (M : SMem) : Prop := M 7 0 14 = (((stS (sZ M) (M 6 0)).length : Nat) : Int) ∧ ∀ a x, a < 6 → x < 6 → sBz (sZ M) a → M 73 0 (6 * a + x) = ((stC (stS (sZ M) (M 6 0)) a (x : Int) : Nat) : Int)
/-- what the class holds found out is so -/
def sKx (M : SMem) : Prop := (M 7 0 15 ≠ 0 → sGok (sZ M) M) ∧ (M 7 0 16 ≠ 0 → M 7 0 15 ≠ 0 ∧ sTok M) ∧ (M 7 0 17 = -1 ∨ (M 7 0 16 ≠ 0 ∧ ∃ (k : Nat) (s : Nat → Int), M 7 0 17 = (k : Int) ∧ (stS (sZ M) (M 6 0))[k]? = some s ∧ ∀ i, i < 6 → sBz (sZ M) i → M 72 0 i = s i))
/-- a frame: the walls, the names and the dates stay -/
def lKZ : List Nat := [6, 58, 59, 60, 61, 62, 63, 64, 91, 92, 93, 94, 95]
theorem bu_eq {Z : STZ} {dt lst fl ce st : Nat → Int} {barred : Prop} {bu : Nat → Prop} (hG : sGt Z (fun p l => p < 12 ∧ l < Z.1 p) dt lst fl ce st barred bu) : wBt (wDc bu) 6 = wBt (sBb Z) 6 := by
  refine wBt_cg 6 (fun i hi => wDc_cg ?_)
  rw [hG.2.2.2.2 i hi]
  exact ⟨fun ⟨p, l, q, e⟩ => ⟨p, l, q.1, q.2, e⟩, fun ⟨p, l, q1, q2, e⟩ => ⟨p, l, ⟨q1, q2⟩, e⟩⟩
theorem stU_of {Z : STZ} {dt lst fl ce st E : Nat → Int} {barred : Prop} {bu : Nat → Prop} (hZ : sWf Z) (hdt : ∀ h, -1 ≤ dt h ∧ dt h ≤ 5) (hl : ∀ p l, p < 12 → l < Z.1 p → l % 2 = 0 → sLs Z p l (lst (6 * p + l))) (hls : ∀ k, 0 ≤ lst k) (hG : sGt Z (fun p l => p < 12 ∧ l < Z.1 p) dt lst fl ce st barred bu) (hb : ¬ barred) (hE1 : sRul fl ce st E) (hE2 : ∀ r, sRul fl ce st r → ∀ h, h < 6 → E h ≤ r h) : stU (sBb Z) (stV Z dt) E ce st := by
  have ev := stV_eq hZ hdt hl hls hG hb
  have nb := (sGt_nb hG).2
  have hst : ∀ a b, a < 6 → b < 6 → (sBb Z a = false ∨ sBb Z b = false) → st (6 * a + b) = -1 := fun a b ha hb' q => nb a b ha hb' (q.imp sBb_n.mp sBb_n.mp)
  refine ⟨fun r hr => ?_, fun h q s h6 hbz hq hs => ?_, fun a ha => ?_⟩
  · rw [ev]
    exact stR_6 (fun h h6 => (hE1.1 h h6).1) hr
  · rw [ev] at hs
    exact stQ_V hst (fun s hs => stW_low hdt hG hE2 hs) h q s h6 hbz hq hs
  · refine Int.not_lt.mp (fun z => ?_)
    have := hE1.2 a a ha ha (by omega)
    omega
section CS12
variable {EX : SEx} {l : Launch} {dC : Nat → ClassId} {dI : Nat → Nat → Nat} {cA : Nat → ClassId} {ad : SAd} {scrS d : Nat}
theorem hls_I {M : SMem} (hI : sI tg M) (k : Nat) : 0 ≤ M 68 0 k := (wIb (f := 68) (i := k) (lo := 0) (hi := 6) hI 0 rfl).1
theorem hdt_I {M : SMem} (hI : sI tg M) (h : Nat) : -1 ≤ M 6 0 h ∧ M 6 0 h ≤ 5 := wIb (f := 6) (i := h) (lo := -1) (hi := 5) hI 0 rfl
theorem b_gatherAll2 (hp : cPl tm tc tf EX) {M : SMem} (hI : sI tg M) (hZ : sWf (sZ M)) (hK : sKx M) : cBG tm tf EX l dC dI cA ad scrS (d + 5) kX6_gatherAll [(2, 7, 0)] M (fun rr MM => rr = [] ∧ sI tg MM ∧ (∀ f j i, f ∉ [65, 66, 67, 68, 69] → ¬ (f = 7 ∧ (i = 3 ∨ i = 4 ∨ i = 15)) → MM f j i = M f j i) ∧ MM 7 0 15 = 1 ∧ sGok (sZ MM) MM ∧ sKx MM ∧ sZ MM = sZ M) := by
  refine cBG_post (b_gatherAll hp hI hZ hK.1) (fun rr MM h => ?_)
  obtain ⟨h0, i1, f1, g1, k1⟩ := h
  have eZ : sZ MM = sZ M := sZ_cg (fun f hf => by
    funext j i
    simp only [List.mem_cons, List.not_mem_nil, or_false] at hf
    exact f1 f j i (by simp only [List.mem_cons, List.not_mem_nil, or_false, not_or]; omega) (by omega))
  have row : ∀ f, f = 6 ∨ f = 72 ∨ f = 73 → MM f 0 = M f 0 := fun f hf => by
    funext i
    exact f1 f 0 i (by simp only [List.mem_cons, List.not_mem_nil, or_false, not_or]; omega) (by omega)
  have e14 : MM 7 0 14 = M 7 0 14 := f1 7 0 14 (by decide) (by decide)
  have e16 : MM 7 0 16 = M 7 0 16 := f1 7 0 16 (by decide) (by decide)
  have e17 : MM 7 0 17 = M 7 0 17 := f1 7 0 17 (by decide) (by decide)
  refine ⟨h0, i1, f1, g1, by rw [eZ]; exact k1, ⟨fun _ => by rw [eZ]; exact k1, fun z => ⟨by omega, ?_⟩, ?_⟩, eZ⟩
  · unfold sTok
    rw [e14, eZ, row 6 (by omega), row 73 (by omega)]
    exact (hK.2.1 (by rw [← e16]; exact z)).2
  · rw [e17, e16, eZ, row 6 (by omega), row 72 (by omega)]
    exact hK.2.2
theorem b_tally (hp : cPl tm tc tf EX) {M : SMem} (hI : sI tg M) (hZ : sWf (sZ M)) (hK : sKx M) : cBG tm tf EX l dC dI cA ad scrS (d + 9) kX6_tally [(2, 7, 0)] M (fun rr MM => rr = [] ∧ sI tg MM ∧ (∀ f j i, f ∉ [65, 66, 67, 68, 69, 70, 72, 73] → f ≠ 7 → MM f j i = M f j i) ∧ MM 7 0 15 ≠ 0 ∧ MM 7 0 16 ≠ 0 ∧ sKx MM ∧ sZ MM = sZ M) := by
  refine cMeth (v := []) (Fd := 90) hp (by decide) gX6_tally_ok gX6_tally_m0 (by simp [cAs, cE2, sev, svl, cen]) ?_
  suffices H : ∀ Po : List Int → SMem → Prop, (∀ rr MM, (rr = [] ∧ sI tg MM ∧ (∀ f j i, f ∉ [65, 66, 67, 68, 69, 70, 72, 73] → f ≠ 7 → MM f j i = M f j i) ∧ MM 7 0 15 ≠ 0 ∧ MM 7 0 16 ≠ 0 ∧ sKx MM ∧ sZ MM = sZ M) → Po rr MM) → cEnds (cBG tm tf EX l dC dI cA ad scrS (d + 8)) Po 90 gX6_tally 0 [] M from H _ (fun _ _ h => h)
  intro Po hPo
  refine cEnds_at gX6_tally_m0 rfl ?_
  refine d_call (b_gatherAll2 (d := d + 3) hp hI hZ hK) (by simp [cAs, cE2, sev, svl, cen]) ?_
  rintro rr M1 ⟨rfl, i1, f1, g1, ok1, k1, eZ⟩
  refine ⟨rfl, ?_⟩
  have b16 := wIb (f := 7) (i := 16) (lo := 0) (hi := 1) i1 0 rfl
  have fr1 : (∀ f j i, f ∉ [65, 66, 67, 68, 69, 70, 72, 73] → f ≠ 7 → M1 f j i = M f j i) := fun f j i y1 y2 => f1 f j i (fun z => y1 (by simp only [List.mem_cons, List.not_mem_nil, or_false] at z ⊢; omega)) (fun z => y2 z.1)
  rw [← eZ] at hZ
  refine d_fld 0 (by simp only [cE2, sev, svl, cen, List.cons_append, List.nil_append]; omega) ?_
  refine d_br (fun h => ?_) (fun h => ?_)
  · clear h
    refine d_cut [((0 : Nat) : Int)] (by simp [cE2, sev, svl, cen] <;> omega) ?_
    obtain ⟨okl, ok7, bu, ob, og⟩ := ok1
    have obz := ob.trans (bu_eq og)
    -- behind the counting
    have fin : ∀ (M3 : SMem) (z : Int), sI tg M3 → (∀ f j i, f ≠ 70 → f ≠ 72 → f ≠ 73 → ¬ (f = 7 ∧ i = 17) → M3 f j i = M1 f j i) → M3 7 0 17 = -1 → z = (((stS (sZ M1) (M1 6 0)).length : Nat) : Int) → (∀ a x, a < 6 → x < 6 → sBz (sZ M1) a → M3 73 0 (6 * a + x) = ((stC (stS (sZ M1) (M1 6 0)) a (x : Int) : Nat) : Int)) → Po [] (supd (supd M3 7 0 14 z) 7 0 16 1) := by
      intro M3 z i3 f3 e17 hz h73
      have hz9 := stL_len (bz := sBb (sZ M1)) (V := stV (sZ M1) (M1 6 0)) 6 (fun _ => 0)
      have hz9 : (stS (sZ M1) (M1 6 0)).length ≤ 46656 := hz9
      have q : ∀ f, f ≠ 7 → supd (supd M3 7 0 14 z) 7 0 16 1 f = M3 f := fun f y => by rw [supd_ff y, supd_ff y]
      have row : ∀ f, f ≠ 7 → f ≠ 70 → f ≠ 72 → f ≠ 73 → supd (supd M3 7 0 14 z) 7 0 16 1 f = M1 f := fun f y1 y2 y3 y4 => by
        rw [q f y1]
        funext j i
        exact f3 f j i y2 y3 y4 (by omega)
      have e3 : ∀ i, i ≠ 14 → i ≠ 16 → i ≠ 17 → supd (supd M3 7 0 14 z) 7 0 16 1 7 0 i = M1 7 0 i := fun i y1 y2 y3 => by rw [supd_i y2, supd_i y1, f3 7 0 i (by decide) (by decide) (by decide) (by omega)]
      have e16 : supd (supd M3 7 0 14 z) 7 0 16 1 7 0 16 = 1 := supd_at _ _ _ _ _
      have e14 : supd (supd M3 7 0 14 z) 7 0 16 1 7 0 14 = z := by rw [supd_i (by decide), supd_at]
      have e17' : supd (supd M3 7 0 14 z) 7 0 16 1 7 0 17 = -1 := by rw [supd_i (by decide), supd_i (by decide), e17]
      have eZ3 : sZ (supd (supd M3 7 0 14 z) 7 0 16 1) = sZ M1 := sZ_cg (fun f hf => by
        simp only [List.mem_cons, List.not_mem_nil, or_false] at hf
        exact row f (by omega) (by omega) (by omega) (by omega))
      have ok3 : sGok (sZ M1) (supd (supd M3 7 0 14 z) 7 0 16 1) := sGok_cg (fun f hf => by
        simp only [List.mem_cons, List.not_mem_nil, or_false] at hf
        rw [row f (by omega) (by omega) (by omega) (by omega)]) (e3 3 (by decide) (by decide) (by decide)) (e3 4 (by decide) (by decide) (by decide)) ⟨okl, ok7, bu, ob, og⟩
      refine hPo _ _ ⟨rfl, wI (lo := 0) (hi := 1) (wI (lo := -2147483648) (hi := 2147483647) i3 rfl (by omega)) rfl ⟨by omega, by omega⟩, fun f j i y1 y2 => ?_, by rw [e3 15 (by decide) (by decide) (by decide)]; omega, by rw [e16]; omega, ⟨fun _ => by rw [eZ3]; exact ok3, fun _ => ⟨by rw [e3 15 (by decide) (by decide) (by decide)]; omega, ?_⟩, Or.inl e17'⟩, by rw [eZ3, eZ]⟩
      · simp only [List.mem_cons, List.not_mem_nil, or_false, not_or] at y1
        rw [row f y2 (by omega) (by omega) (by omega)]
        exact fr1 f j i (by simp only [List.mem_cons, List.not_mem_nil, or_false, not_or]; omega) y2
      · unfold sTok
        rw [eZ3, e14, row 6 (by decide) (by decide) (by decide) (by decide), q 73 (by decide)]
        exact ⟨hz, h73⟩
    have loop : ∀ (m k : Nat) (N : SMem), k + m = 36 → sI tg N → (∀ f j i, f ≠ 73 → N f j i = M1 f j i) → (∀ i, i < k → N 73 0 i = 0) → cEnds (cBG tm tf EX l dC dI cA ad scrS (d + 8)) Po 90 gX6_tally 14 [(k : Int)] N := by
      intro m
      induction m with
      | zero =>
        intro k N hk iN fN cN
        have ek : k = 36 := by omega
        subst ek
        refine cEnds_at gX6_tally_m14 rfl ?_
        refine d_br (fun h => ?_) (fun h => ?_)
        · clear h
          refine d_put 0 (-1) (by simp only [cE2, sev, svl, cen, List.cons_append, List.nil_append]; omega) (by simp only [cE2, sev, svl, cen, List.cons_append, List.nil_append]; omega) ?_
          have iN' : sI tg (supd N 7 0 17 (-1)) := wI (lo := -1) (hi := 2147483646) iN rfl ⟨by omega, by omega⟩
          have rN : ∀ f, f ≠ 7 → f ≠ 73 → supd N 7 0 17 (-1) f = M1 f := fun f y1 y2 => by
            rw [supd_ff y1]
            funext j i
            exact fN f j i y2
          have eN : ∀ i, i ≠ 17 → supd N 7 0 17 (-1) 7 0 i = M1 7 0 i := fun i y => by rw [supd_i y, fN 7 0 i (by decide)]
          have cN' : ∀ i, i < 36 → supd N 7 0 17 (-1) 73 0 i = 0 := fun i hi => by rw [supd_f (by decide)]; exact cN i hi
          have e17N : supd N 7 0 17 (-1) 7 0 17 = -1 := supd_at _ _ _ _ _
          have fN' : ∀ f j i, f ≠ 73 → ¬ (f = 7 ∧ i = 17) → supd N 7 0 17 (-1) f j i = M1 f j i := fun f j i y1 y2 => by
            rw [show supd N 7 0 17 (-1) f j i = N f j i from if_neg (fun q => y2 ⟨q.1, q.2.2⟩), fN f j i y1]
          generalize supd N 7 0 17 (-1) = N' at iN' rN eN cN' e17N fN' ⊢
          refine d_call (b_isPossible (d := d + 6) hp (M := N') iN' (fun h hh => by rw [rN 65 (by decide) (by decide)]; have := ok7 h hh; omega)) (by simp [cAs, cE2, sev, svl, cen]) ?_
          rintro rr M2 ⟨i2, f2, hr⟩
          rw [rN 65 (by decide) (by decide), rN 66 (by decide) (by decide), rN 67 (by decide) (by decide), eN 4 (by decide)] at hr
          have f2' : ∀ f j i, f ≠ 70 → f ≠ 73 → ¬ (f = 7 ∧ i = 17) → M2 f j i = M1 f j i := fun f j i y1 y2 y3 => by rw [f2 f j i y1, fN' f j i y2 y3]
          have hdt := hdt_I i1
          rcases hr with ⟨rfl, hb, hE1, hE2⟩ | ⟨rfl, hno⟩
          · refine ⟨rfl, ?_⟩
            refine d_br (fun h => ?_) (fun h => ?_)
            · simp only [cCmp, cE2, sev, svl, cen, List.cons_append, List.nil_append] at h
              omega
            · clear h
              have hU := stU_of hZ hdt okl (hls_I i1) og (fun q => q hb) hE1 hE2
              have row2 : ∀ f, f ≠ 70 → f ≠ 73 → f ≠ 7 → M2 f 0 = M1 f 0 := fun f y1 y2 y3 => by
                funext i
                exact f2' f 0 i y1 y2 (by omega)
              refine d_call (b_countFrom (d := d) hp (bz := sBb (sZ M1)) (V := stV (sZ M1) (M1 6 0)) (E := M2 70 0) (ce := M1 66 0) (st := M1 67 0) hU (fun h hh => by have := (hE1.1 h hh).2; have := (wIb (f := 66) (i := h) (lo := 0) (hi := 5) i1 0 rfl).2; omega) 6 (Nat.le_refl _) (fun _ => 0) 0 M2 i2 (row2 66 (by decide) (by decide) (by decide)) (row2 67 (by decide) (by decide) (by decide)) rfl (by rw [f2' 7 0 3 (by decide) (by decide) (by decide), obz]) (fun i hi => absurd hi (by omega)) stR_0 (fun i hi => by rw [f2 73 0 i (by decide), cN' i hi]; exact ⟨Int.le_refl _, Int.le_refl _⟩) (by decide)) (by simp [cAs, cE2, sev, svl, cen]) ?_
              rintro rr M3 ⟨rfl, i3, f3, g3, c3⟩
              refine ⟨rfl, ?_⟩
              refine d_put 0 (((stS (sZ M1) (M1 6 0)).length : Nat) : Int) (by simp only [cE2, sev, svl, cen, List.cons_append, List.nil_append]; omega) (by simp [cE2, sev, svl, cen, stS]) ?_
              refine d_rng (by simp only [clo, chi, cE2, sev, svl, cen, List.cons_append, List.nil_append]; omega) ?_
              refine d_put 0 1 (by simp only [cE2, sev, svl, cen, List.cons_append, List.nil_append]; omega) (by simp only [cE2, sev, svl, cen, List.cons_append, List.nil_append]; omega) ?_
              refine d_ret [] rfl (by decide) (fin M3 _ i3 (fun f j i y1 y2 y3 y4 => by rw [f3 f j i y2 y3, f2' f j i y1 y3 y4]) (by rw [f3 7 0 17 (by decide) (by decide), f2 7 0 17 (by decide), e17N]) rfl (fun a x ha hx hbz => ?_))
              rw [c3 a x ha hx, f2 73 0 _ (by decide), cN' _ (by omega), stA_y ⟨Nat.zero_le _, sBb_y.mpr hbz⟩, Int.zero_add]
              rfl
          · have hnil : stS (sZ M1) (M1 6 0) = [] := (stS_nil_iff hZ hdt okl (hls_I i1) og).mpr hno
            refine ⟨rfl, ?_⟩
            refine d_br (fun h => ?_) (fun h => ?_)
            · clear h
              refine d_put 0 0 (by simp only [cE2, sev, svl, cen, List.cons_append, List.nil_append]; omega) (by simp only [cE2, sev, svl, cen, List.cons_append, List.nil_append]; omega) ?_
              refine d_rng (by simp only [clo, chi, cE2, sev, svl, cen, List.cons_append, List.nil_append]; omega) ?_
              refine d_put 0 1 (by simp only [cE2, sev, svl, cen, List.cons_append, List.nil_append]; omega) (by simp only [cE2, sev, svl, cen, List.cons_append, List.nil_append]; omega) ?_
              refine d_ret [] rfl (by decide) (fin M2 0 i2 (fun f j i y1 y2 y3 y4 => f2' f j i y1 y3 y4) (by rw [f2 7 0 17 (by decide), e17N]) (by rw [hnil]; rfl) (fun a x ha hx hbz => ?_))
              rw [f2 73 0 _ (by decide), cN' _ (by omega), hnil]
              rfl
            · simp only [cCmp, cE2, sev, svl, cen, List.cons_append, List.nil_append] at h
              omega
        · simp only [cCmp, cE2, sev, svl, cen, List.cons_append, List.nil_append] at h
          omega
      | succ m ih =>
        intro k N hk iN fN cN
        refine cEnds_at gX6_tally_m14 rfl ?_
        refine d_br (fun h => ?_) (fun h => ?_)
        · simp only [cCmp, cE2, sev, svl, cen, List.cons_append, List.nil_append] at h
          omega
        · refine d_set 0 k 0 (by simp only [cE2, sev, svl, cen, List.cons_append, List.nil_append]; omega) (by simp only [cE2, sev, svl, cen, List.cons_append, List.nil_append]; omega) (by omega) (by simp only [cE2, sev, svl, cen, List.cons_append, List.nil_append]; omega) ?_
          refine d_rng (by simp only [clo, chi, cE2, sev, svl, cen, List.cons_append, List.nil_append]; omega) ?_
          refine d_cut [((k + 1 : Nat) : Int)] (by simp [cE2, sev, svl, cen] <;> omega) ?_
          refine ih (k + 1) _ (by omega) (wI (lo := -2147483648) (hi := 2147483647) iN rfl ⟨by omega, by omega⟩) (fun f j i y => by rw [supd_f y, fN f j i y]) (fun i hi => ?_)
          by_cases e : i = k
          · rw [e, supd_at]
          · rw [supd_i e]
            exact cN i (by omega)
    exact loop 36 0 M1 (by omega) i1 (fun _ _ _ _ => rfl) (fun i hi => absurd hi (Nat.not_lt_zero _))
  · simp only [cCmp, cE2, sev, svl, cen, List.cons_append, List.nil_append] at h
    exact d_ret [] rfl (by decide) (hPo _ _ ⟨rfl, i1, fr1, by omega, by omega, k1, eZ⟩)
end CS12
