/-! stories: doubt, what becomes of what was found out -/
abbrev kX6_doubtfulOne : Nat := 79
abbrev kX6_doubtfulTwo : Nat := 81
/-- behind doubt, the reference's -/
def sRD (Z : STZ) (dt : Nat → Int) (A M : SMem) : Prop := sI tg A ∧ (∀ f j i, f ≠ 34 → f ≠ 35 → f ≠ 36 → ¬ (f = 1 ∧ (i = 0 ∨ i = 28 ∨ i = 32 ∨ i = 34)) → A f j i = M f j i) ∧ sKm Z dt A
section CS22
variable {EX : SEx} {l : Launch} {dC : Nat → ClassId} {dI : Nat → Nat → Nat} {cA : Nat → ClassId} {ad : SAd} {scrS d : Nat}
theorem sKx_fl {M : SMem} (h : sFl M) : sKx M := ⟨fun z => absurd h.1 z, fun z => absurd h.2.1 z, Or.inl h.2.2⟩
theorem b_doubtful (hp : cPl tm tc tf EX) {M : SMem} (h1 : ∀ M, sI tg M → sX M → cBG tm tf EX l dC dI cA ad scrS (d + 20) kX6_doubtfulOne [(2, 7, 0)] M (fun rr MM => sI tg MM ∧ (∀ f j i, f ≠ 65 → f ≠ 66 → f ≠ 67 → f ≠ 70 → ¬ (f = 7 ∧ (i = 3 ∨ i = 4)) → MM f j i = M f j i) ∧ ∃ r : Int, rr = [r] ∧ -2147483648 ≤ r ∧ r ≤ 2147483647)) (h2 : ∀ M, sI tg M → sX M → cBG tm tf EX l dC dI cA ad scrS (d + 20) kX6_doubtfulTwo [(2, 7, 0)] M (fun rr MM => sI tg MM ∧ (∀ f j i, f ≠ 65 → f ≠ 66 → f ≠ 67 → f ≠ 70 → ¬ (f = 7 ∧ (i = 3 ∨ i = 4)) → MM f j i = M f j i) ∧ ∃ r : Int, rr = [r] ∧ -2147483648 ≤ r ∧ r ≤ 2147483647)) (hI : sI tg M) (hX : sX M) (hZ : sWf (sZ M)) (hK : sKx M) : cBG tm tf EX l dC dI cA ad scrS (d + 21) kX6_doubtful [(2, 7, 0)] M (fun rr MM => sKX MM M ∧ ∃ r : Int, rr = [r] ∧ -2147483648 ≤ r ∧ r ≤ 2147483647) := by
  refine cMeth (v := []) (Fd := 90) hp (by decide) gX6_doubtful_ok gX6_doubtful_m0 (by simp [cAs, cE2, sev, svl, cen]) ?_
  refine cEnds_at gX6_doubtful_m0 rfl ?_
  refine d_call (b_gatherAll2 (d := d + 15) hp hI hZ hK) (by simp [cAs, cE2, sev, svl, cen]) ?_
  rintro rr M1 ⟨rfl, i1, f1, g1, ok1, k1, eZ1⟩
  refine ⟨rfl, ?_⟩
  have x1 : sKX M1 M := ⟨i1, k1, eZ1, fun f j i y1 y2 => f1 f j i (fun z => y1 (by simp only [List.mem_cons, List.not_mem_nil, or_false] at z ⊢; omega)) (fun z => y2 z.1)⟩
  obtain ⟨okl, ok7, bu, ob, og⟩ := ok1
  refine d_call (b_isPossible (d := d + 18) hp i1 (fun h hh => by have := ok7 h hh; omega)) (by simp [cAs, cE2, sev, svl, cen]) ?_
  rintro rr M2 ⟨i2, f2, hr⟩
  have row2 : ∀ f, f ≠ 70 → M2 f = M1 f := fun f y => by
    funext j i
    exact f2 f j i y
  have x2' : sKX M2 M1 := ⟨i2, sKx_cg (fun f hf => row2 f (fun z => by rw [z] at hf; revert hf; decide)) (fun f hf => by rw [row2 f (fun z => by rw [z] at hf; revert hf; decide)]) (fun i _ => f2 7 0 i (by decide)) k1, sZ_cg (fun f hf => row2 f (fun z => by rw [z] at hf; revert hf; decide)), fun f j i y1 _ => f2 f j i (fun z => y1 (by rw [z]; decide))⟩
  have x2 := sKX_tr x2' x1
  have rw2 : ∀ f, f ∉ [65, 66, 67, 68, 69, 70, 71, 72, 73] → f ≠ 7 → M2 f = M f := fun f y1 y2 => by
    funext j i
    exact x2.2.2.2 f j i y1 y2
  have hX2 : sX M2 := sX_congr (rw2 29 (by decide) (by decide)) (rw2 27 (by decide) (by decide)) (rw2 50 (by decide) (by decide)) hX
  -- forgotten
  have fin : ∀ N : SMem, sI tg N → (∀ f j i, f ≠ 65 → f ≠ 66 → f ≠ 67 → f ≠ 70 → ¬ (f = 7 ∧ (i = 3 ∨ i = 4)) → N f j i = M2 f j i) → sKX (supd (supd (supd N 7 0 15 0) 7 0 16 0) 7 0 17 (-1)) M := fun N iN fN => by
    have rN : ∀ f, f ∉ [65, 66, 67, 68, 69, 70, 71, 72, 73] → f ≠ 7 → supd (supd (supd N 7 0 15 0) 7 0 16 0) 7 0 17 (-1) f = M f := fun f y1 y2 => by
      rw [supd_ff y2, supd_ff y2, supd_ff y2, ← rw2 f y1 y2]
      funext j i
      simp only [List.mem_cons, List.not_mem_nil, or_false, not_or] at y1
      exact fN f j i (by omega) (by omega) (by omega) (by omega) (by omega)
    refine ⟨wI (lo := -1) (hi := 2147483646) (wI (lo := 0) (hi := 1) (wI (lo := 0) (hi := 1) iN rfl ⟨by omega, by omega⟩) rfl ⟨by omega, by omega⟩) rfl ⟨by omega, by omega⟩, sKx_fl sFl_x, sZ_cg (fun f hf => rN f (fun z => by simp only [List.mem_cons, List.not_mem_nil, or_false] at hf z; omega) (fun z => by rw [z] at hf; revert hf; decide)), fun f j i y1 y2 => by rw [rN f y1 y2]⟩
  rcases hr with ⟨rfl, hb0, hE1, hE2⟩ | ⟨rfl, hno⟩
  · refine ⟨rfl, ?_⟩
    refine d_br (fun h => ?_) (fun h => ?_)
    · simp only [cCmp, cE2, sev, svl, cen, List.cons_append, List.nil_append] at h
      omega
    · exact d_ret [-1] rfl (by decide) ⟨x2, -1, rfl, by omega, by omega⟩
  · refine ⟨rfl, ?_⟩
    refine d_br (fun h => ?_) (fun h => ?_)
    · clear h
      refine d_call (h1 M2 i2 hX2) (by simp [cAs, cE2, sev, svl, cen]) ?_
      rintro rr M3 ⟨i3, f3, r, rfl, r1, r2⟩
      refine ⟨rfl, ?_⟩
      have row3 : ∀ f, f ≠ 65 → f ≠ 66 → f ≠ 67 → f ≠ 70 → f ≠ 7 → M3 f = M2 f := fun f y1 y2 y3 y4 y5 => by
        funext j i
        exact f3 f j i y1 y2 y3 y4 (fun q => y5 q.1)
      refine d_br (fun h => ?_) (fun h => ?_)
      · clear h
        refine d_call (b_forget6x hp) (by simp [cAs, cE2, sev, svl, cen]) ?_
        rintro rr M4 ⟨rfl, rfl⟩
        refine ⟨rfl, ?_⟩
        exact wret1 r (by simp only [cE2, sev, svl, cen, List.cons_append, List.nil_append]; omega) (by omega) ⟨fin M3 i3 f3, r, rfl, r1, r2⟩
      · clear h
        refine d_call (h2 M3 i3 (sX_congr (row3 29 (by decide) (by decide) (by decide) (by decide) (by decide)) (row3 27 (by decide) (by decide) (by decide) (by decide) (by decide)) (row3 50 (by decide) (by decide) (by decide) (by decide) (by decide)) hX2)) (by simp [cAs, cE2, sev, svl, cen]) ?_
        rintro rr M4 ⟨i4, f4, q, rfl, q1, q2⟩
        refine ⟨rfl, ?_⟩
        refine d_call (b_forget6x hp) (by simp [cAs, cE2, sev, svl, cen]) ?_
        rintro rr M5 ⟨rfl, rfl⟩
        refine ⟨rfl, ?_⟩
        exact wret1 q (by simp only [cE2, sev, svl, cen, List.cons_append, List.nil_append]; omega) (by omega) ⟨fin M4 i4 (fun f j i y1 y2 y3 y4 y5 => by rw [f4 f j i y1 y2 y3 y4 y5, f3 f j i y1 y2 y3 y4 y5]), q, rfl, q1, q2⟩
    · simp only [cCmp, cE2, sev, svl, cen, List.cons_append, List.nil_append] at h
      omega
theorem b_doubtX (hp : cPl tm tc tf EX) {M : SMem} (h1 : ∀ M, sI tg M → sX M → cBG tm tf EX l dC dI cA ad scrS (d + 20) kX6_doubtfulOne [(2, 7, 0)] M (fun rr MM => sI tg MM ∧ (∀ f j i, f ≠ 65 → f ≠ 66 → f ≠ 67 → f ≠ 70 → ¬ (f = 7 ∧ (i = 3 ∨ i = 4)) → MM f j i = M f j i) ∧ ∃ r : Int, rr = [r] ∧ -2147483648 ≤ r ∧ r ≤ 2147483647)) (h2 : ∀ M, sI tg M → sX M → cBG tm tf EX l dC dI cA ad scrS (d + 20) kX6_doubtfulTwo [(2, 7, 0)] M (fun rr MM => sI tg MM ∧ (∀ f j i, f ≠ 65 → f ≠ 66 → f ≠ 67 → f ≠ 70 → ¬ (f = 7 ∧ (i = 3 ∨ i = 4)) → MM f j i = M f j i) ∧ ∃ r : Int, rr = [r] ∧ -2147483648 ≤ r ∧ r ≤ 2147483647)) (hI : sI tg M) (hX : sX M) (hZ : sWf (sZ M)) (hK : sKx M) : cBG tm tf EX l dC dI cA ad scrS (d + 22) kX9_doubt [(2, 0, 0)] M (fun rr MM => sKX MM M ∧ ∃ r : Int, rr = [r] ∧ -2147483648 ≤ r ∧ r ≤ 2147483647) := by
  refine cMeth (v := []) (Fd := 90) hp (by decide) gX9_doubt_ok gX9_doubt_m0 (by simp [cAs, cE2, sev, svl, cen]) ?_
  refine cEnds_at gX9_doubt_m0 rfl ?_
  refine d_call (b_doubtful (d := d) hp h1 h2 hI hX hZ hK) (by simp [cAs, cE2, sev, svl, cen]) ?_
  rintro rr M1 ⟨x1, r, rfl, r1, r2⟩
  refine ⟨rfl, ?_⟩
  exact wret1 r (by simp only [cE2, sev, svl, cen, List.cons_append, List.nil_append]; omega) (by omega) ⟨x1, r, rfl, r1, r2⟩
set_option maxHeartbeats 4000000 in
theorem m_doubt (hp : cPl tm tc tf EX) {Z : STZ} {dt : Nat → Int} {M : SMem} (hH : ∀ (M : SMem) (x : Int), sI tg M → sX M → (-2147483648 ≤ x ∧ x ≤ 2147483647) → cBG tm tf EX l dC dI cA ad scrS (d + 20) kX10_hasStory [(2, 1, 0), (0, 0, x)] M (fun rr MM => sI tg MM ∧ sX MM ∧ (∀ f j i, f ≠ 34 → f ≠ 35 → f ≠ 36 → ¬ (f = 1 ∧ (i = 32 ∨ i = 34)) → MM f j i = M f j i) ∧ (rr = [0] ∨ rr = [1]))) (hI : sI tg M) (hX : sX M) (hZ : sWf Z) (hz : sMz Z M) (hdt : M 33 0 = dt) (hK : sKm Z dt M) : cBG tm tf EX l dC dI cA ad scrS (d + 21) kX10_doubt [(2, 1, 0)] M (fun rr MM => sRD Z dt MM M ∧ ∃ r : Int, rr = [r]) := by
  refine cMeth (v := []) (Fd := 90) hp (by decide) gX10_doubt_ok gX10_doubt_m0 (by simp [cAs, cE2, sev, svl, cen]) ?_
  suffices H : ∀ Po : List Int → SMem → Prop, (∀ rr MM, (sRD Z dt MM M ∧ ∃ r : Int, rr = [r]) → Po rr MM) → cEnds (cBG tm tf EX l dC dI cA ad scrS (d + 20)) Po 90 gX10_doubt 0 [] M from H _ (fun _ _ h => h)
  intro Po hPo
  refine cEnds_at gX10_doubt_m0 rfl ?_
  refine d_put 0 0 (by simp only [cE2, sev, svl, cen, List.cons_append, List.nil_append]; omega) (by simp only [cE2, sev, svl, cen, List.cons_append, List.nil_append]; omega) ?_
  refine d_call (m_find (d := d + 3) hp hI hX hZ hz hdt hK) (by simp [cAs, cE2, sev, svl, cen]) ?_
  rintro rr M1 ⟨rfl, hF⟩
  refine ⟨rfl, ?_⟩
  obtain ⟨i1, f1, e28, hkm⟩ := id hF
  obtain ⟨e34, hk⟩ := id hkm
  have row1 : ∀ f, f ≠ 34 → f ≠ 35 → f ≠ 36 → f ≠ 1 → M1 f = M f := fun f y1 y2 y3 y4 => by
    funext j i
    exact f1 f j i y1 y2 y3 (fun q => y4 q.1)
  have x1 : sX M1 := sX_congr (row1 29 (by decide) (by decide) (by decide) (by decide)) (row1 27 (by decide) (by decide) (by decide) (by decide)) (row1 50 (by decide) (by decide) (by decide) (by decide)) hX
  obtain ⟨e32, -, -⟩ := hk e28
  have inv : ∀ N : SMem, (∀ f j i, f ≠ 34 → f ≠ 35 → f ≠ 36 → ¬ (f = 1 ∧ (i = 0 ∨ i = 28 ∨ i = 32 ∨ i = 34)) → N f j i = M f j i) → sMz Z N := fun N fN => sMz_cg (fun f hf => by
    funext j i
    simp only [lVF, List.mem_cons, List.not_mem_nil, or_false] at hf
    exact fN f j i (by omega) (by omega) (by omega) (by omega)) hz
  have out : ∀ (N : SMem) (v : Int), sI tg N → (∀ f j i, f ≠ 34 → f ≠ 35 → f ≠ 36 → ¬ (f = 1 ∧ (i = 0 ∨ i = 28 ∨ i = 32 ∨ i = 34)) → N f j i = M f j i) → Po [v] (supd (supd N 1 0 28 1) 1 0 34 0) := fun N v iN fN => hPo _ _ ⟨⟨wI (lo := -2147483648) (hi := 2147483647) (wI (lo := 0) (hi := 1) iN rfl ⟨by omega, by omega⟩) rfl ⟨by omega, by omega⟩, fun f j i y1 y2 y3 y4 => by
    rw [show supd (supd N 1 0 28 1) 1 0 34 0 f j i = supd N 1 0 28 1 f j i from if_neg (fun q => y4 ⟨q.1, Or.inr (Or.inr (Or.inr q.2.2))⟩), show supd N 1 0 28 1 f j i = N f j i from if_neg (fun q => y4 ⟨q.1, Or.inr (Or.inl q.2.2)⟩)]
    exact fN f j i y1 y2 y3 y4, supd_at _ _ _ _ _, fun q => by rw [supd_i (by decide), supd_at] at q; omega⟩, v, rfl⟩
  -- leftOut is none again
  have put : ∀ N : SMem, sI tg N → sX N → (∀ f j i, f ≠ 34 → f ≠ 35 → f ≠ 36 → ¬ (f = 1 ∧ (i = 0 ∨ i = 28 ∨ i = 32 ∨ i = 34)) → N f j i = M f j i) → sI tg (supd N 1 0 34 0) ∧ sX (supd N 1 0 34 0) ∧ (∀ f j i, f ≠ 34 → f ≠ 35 → f ≠ 36 → ¬ (f = 1 ∧ (i = 0 ∨ i = 28 ∨ i = 32 ∨ i = 34)) → supd N 1 0 34 0 f j i = M f j i) ∧ supd N 1 0 34 0 1 0 34 = 0 := fun N iN xN fN => ⟨wI (lo := -2147483648) (hi := 2147483647) iN rfl ⟨by omega, by omega⟩, sX_congr (supd_ff (by decide)) (supd_ff (by decide)) (supd_ff (by decide)) xN, fun f j i y1 y2 y3 y4 => by
    rw [show supd N 1 0 34 0 f j i = N f j i from if_neg (fun q => y4 ⟨q.1, Or.inr (Or.inr (Or.inr q.2.2))⟩)]
    exact fN f j i y1 y2 y3 y4, supd_at _ _ _ _ _⟩
  have l71 : ∀ (m p : Nat), p + m = 12 → ∀ (v : Int) (N : SMem), (-2147483648 ≤ v ∧ v ≤ 2147483647) → sI tg N → sX N → (∀ f j i, f ≠ 34 → f ≠ 35 → f ≠ 36 → ¬ (f = 1 ∧ (i = 0 ∨ i = 28 ∨ i = 32 ∨ i = 34)) → N f j i = M f j i) → N 1 0 34 = 0 → cEnds (cBG tm tf EX l dC dI cA ad scrS (d + 20)) Po 90 gX10_doubt 71 [v, (p : Int)] N := by
    intro m
    induction m with
    | zero =>
      intro p hpm v N hv iN xN fN n34
      refine cEnds_at gX10_doubt_m71 rfl ?_
      refine d_br (fun h => ?_) (fun h => ?_)
      · refine d_rng (by simp only [clo, chi, cE2, sev, svl, cen, List.cons_append, List.nil_append]; omega) ?_
        refine d_put 0 1 (by simp only [cE2, sev, svl, cen, List.cons_append, List.nil_append]; omega) (by simp only [cE2, sev, svl, cen, List.cons_append, List.nil_append]; omega) ?_
        refine d_put 0 0 (by simp only [cE2, sev, svl, cen, List.cons_append, List.nil_append]; omega) (by simp only [cE2, sev, svl, cen, List.cons_append, List.nil_append]; omega) ?_
        exact wret1 v (by simp only [cE2, sev, svl, cen, List.cons_append, List.nil_append]; omega) hv (out N v iN fN)
      · simp only [cCmp, cE2, sev, svl, cen, List.cons_append, List.nil_append] at h
        omega
    | succ m ih =>
      intro p hpm v N hv iN xN fN n34
      have l85 : ∀ (n q : Nat), p < q → q + n = 12 → ∀ (v : Int) (N : SMem), (-2147483648 ≤ v ∧ v ≤ 2147483647) → sI tg N → sX N → (∀ f j i, f ≠ 34 → f ≠ 35 → f ≠ 36 → ¬ (f = 1 ∧ (i = 0 ∨ i = 28 ∨ i = 32 ∨ i = 34)) → N f j i = M f j i) → N 1 0 34 = 0 → cEnds (cBG tm tf EX l dC dI cA ad scrS (d + 20)) Po 90 gX10_doubt 85 [v, (p : Int), (q : Int)] N := by
        intro n
        induction n with
        | zero =>
          intro q hpq hq v N hv iN xN fN n34
          refine cEnds_at gX10_doubt_m85 rfl ?_
          refine d_br (fun h => ?_) (fun h => ?_)
          · refine d_rng (by simp only [clo, chi, cE2, sev, svl, cen, List.cons_append, List.nil_append]; omega) ?_
            refine d_cut [v, ((p + 1 : Nat) : Int)] (by simp [cE2, sev, svl, cen] <;> omega) ?_
            exact ih (p + 1) (by omega) v N hv iN xN fN n34
          · simp only [cCmp, cE2, sev, svl, cen, List.cons_append, List.nil_append] at h
            omega
        | succ n ihn =>
          intro q hpq hq v N hv iN xN fN n34
          obtain ⟨j1, j2, j3, j4⟩ := put N iN xN fN
          refine cEnds_at gX10_doubt_m85 rfl ?_
          refine d_br (fun h => ?_) (fun h => ?_)
          · simp only [cCmp, cE2, sev, svl, cen, List.cons_append, List.nil_append] at h
            omega
          · clear h
            refine d_br (fun h => ?_) (fun h => ?_)
            · refine d_rng (by simp only [clo, chi, cE2, sev, svl, cen, List.cons_append, List.nil_append]; omega) ?_
              refine d_cut [v, ((p + 1 : Nat) : Int)] (by simp [cE2, sev, svl, cen] <;> omega) ?_
              exact ih (p + 1) (by omega) v N hv iN xN fN n34
            · clear h
              refine d_call (m_cutsOf (d := d + 19) hp (Z := Z) (p := p) (inv N fN) n34 (by omega)) (by simp [cAs, cE2, sev, svl, cen]) ?_
              rintro rr N' ⟨rfl, rfl⟩
              refine ⟨rfl, ?_⟩
              refine d_br (fun h => ?_) (fun h => ?_)
              · refine d_put 0 0 (by simp only [cE2, sev, svl, cen, List.cons_append, List.nil_append]; omega) (by simp only [cE2, sev, svl, cen, List.cons_append, List.nil_append]; omega) ?_
                refine d_rng (by simp only [clo, chi, cE2, sev, svl, cen, List.cons_append, List.nil_append]; omega) ?_
                refine d_cut [-1, (p : Int), ((q + 1 : Nat) : Int)] (by simp [cE2, sev, svl, cen] <;> omega) ?_
                exact ihn (q + 1) (by omega) (by omega) (-1) _ ⟨by omega, by omega⟩ j1 j2 j3 j4
              · refine d_call (m_cutsOf (d := d + 19) hp (Z := Z) (p := q) (inv N' fN) n34 (by omega)) (by simp [cAs, cE2, sev, svl, cen]) ?_
                rintro rr N2 ⟨rfl, rfl⟩
                refine ⟨rfl, ?_⟩
                refine d_br (fun h => ?_) (fun h => ?_)
                · refine d_put 0 0 (by simp only [cE2, sev, svl, cen, List.cons_append, List.nil_append]; omega) (by simp only [cE2, sev, svl, cen, List.cons_append, List.nil_append]; omega) ?_
                  refine d_rng (by simp only [clo, chi, cE2, sev, svl, cen, List.cons_append, List.nil_append]; omega) ?_
                  refine d_cut [-1, (p : Int), ((q + 1 : Nat) : Int)] (by simp [cE2, sev, svl, cen] <;> omega) ?_
                  exact ihn (q + 1) (by omega) (by omega) (-1) _ ⟨by omega, by omega⟩ j1 j2 j3 j4
                · refine d_opw 1 (p : Int) (by simp [cE2, sev, svl, cen] <;> omega) (by simp [cE2, sev, svl, cen] <;> omega) ?_
                  refine d_opw 1 (q : Int) (by simp [cE2, sev, svl, cen] <;> omega) (by simp [cE2, sev, svl, cen] <;> omega) ?_
                  refine d_opw (cfn 2 1 (p : Int)) (cfn 2 1 (q : Int)) (by simp [cE2, sev, svl, cen] <;> omega) (by simp [cE2, sev, svl, cen] <;> omega) ?_
                  refine d_call (hH N2 (cfn 1 (cfn 2 1 (p : Int)) (cfn 2 1 (q : Int))) iN xN (i32r _)) (by simp [cAs, cE2, sev, svl, cen] <;> omega) ?_
                  rintro rr N3 ⟨i3, x3, f3, hr⟩
                  have f3' : ∀ f j i, f ≠ 34 → f ≠ 35 → f ≠ 36 → ¬ (f = 1 ∧ (i = 0 ∨ i = 28 ∨ i = 32 ∨ i = 34)) → N3 f j i = M f j i := fun f j i y1 y2 y3 y4 => by rw [f3 f j i y1 y2 y3 (fun q => y4 ⟨q.1, by omega⟩), fN f j i y1 y2 y3 y4]
                  obtain ⟨k1, k2, k3, k4⟩ := put N3 i3 x3 f3'
                  rcases hr with rfl | rfl
                  · refine ⟨rfl, ?_⟩
                    refine d_br (fun h => ?_) (fun h => ?_)
                    · refine d_put 0 0 (by simp only [cE2, sev, svl, cen, List.cons_append, List.nil_append]; omega) (by simp only [cE2, sev, svl, cen, List.cons_append, List.nil_append]; omega) ?_
                      refine d_rng (by simp only [clo, chi, cE2, sev, svl, cen, List.cons_append, List.nil_append]; omega) ?_
                      refine d_cut [-1, (p : Int), ((q + 1 : Nat) : Int)] (by simp [cE2, sev, svl, cen] <;> omega) ?_
                      exact ihn (q + 1) (by omega) (by omega) (-1) _ ⟨by omega, by omega⟩ k1 k2 k3 k4
                    · simp only [cCmp, cE2, sev, svl, cen, List.cons_append, List.nil_append] at h
                      omega
                  · refine ⟨rfl, ?_⟩
                    refine d_br (fun h => ?_) (fun h => ?_)
                    · simp only [cCmp, cE2, sev, svl, cen, List.cons_append, List.nil_append] at h
                      omega
                    · refine d_opw 1 (p : Int) (by simp [cE2, sev, svl, cen] <;> omega) (by simp [cE2, sev, svl, cen] <;> omega) ?_
                      refine d_opw 1 (q : Int) (by simp [cE2, sev, svl, cen] <;> omega) (by simp [cE2, sev, svl, cen] <;> omega) ?_
                      refine d_opw (cfn 2 1 (p : Int)) (cfn 2 1 (q : Int)) (by simp [cE2, sev, svl, cen] <;> omega) (by simp [cE2, sev, svl, cen] <;> omega) ?_
                      refine d_put 0 0 (by simp only [cE2, sev, svl, cen, List.cons_append, List.nil_append]; omega) (by simp only [cE2, sev, svl, cen, List.cons_append, List.nil_append]; omega) ?_
                      refine d_rng (by simp only [clo, chi, cE2, sev, svl, cen, List.cons_append, List.nil_append]; omega) ?_
                      refine d_cut [cfn 1 (cfn 2 1 (p : Int)) (cfn 2 1 (q : Int)), (p : Int), ((q + 1 : Nat) : Int)] (by simp [cE2, sev, svl, cen] <;> omega) ?_
                      exact ihn (q + 1) (by omega) (by omega) _ _ (i32r _) k1 k2 k3 k4
      refine cEnds_at gX10_doubt_m71 rfl ?_
      refine d_br (fun h => ?_) (fun h => ?_)
      · simp only [cCmp, cE2, sev, svl, cen, List.cons_append, List.nil_append] at h
        omega
      · clear h
        refine d_br (fun h => ?_) (fun h => ?_)
        · refine d_rng (by simp only [clo, chi, cE2, sev, svl, cen, List.cons_append, List.nil_append]; omega) ?_
          refine d_put 0 1 (by simp only [cE2, sev, svl, cen, List.cons_append, List.nil_append]; omega) (by simp only [cE2, sev, svl, cen, List.cons_append, List.nil_append]; omega) ?_
          refine d_put 0 0 (by simp only [cE2, sev, svl, cen, List.cons_append, List.nil_append]; omega) (by simp only [cE2, sev, svl, cen, List.cons_append, List.nil_append]; omega) ?_
          exact wret1 v (by simp only [cE2, sev, svl, cen, List.cons_append, List.nil_append]; omega) hv (out N v iN fN)
        · refine d_rng (by simp only [clo, chi, cE2, sev, svl, cen, List.cons_append, List.nil_append]; omega) ?_
          refine d_cut [v, (p : Int), ((p + 1 : Nat) : Int)] (by simp [cE2, sev, svl, cen] <;> omega) ?_
          exact l85 m (p + 1) (by omega) (by omega) v N hv iN xN fN n34
  have l22 : ∀ (m p : Nat), p + m = 12 → ∀ (v : Int) (N : SMem), (-2147483648 ≤ v ∧ v ≤ 2147483647) → sI tg N → sX N → (∀ f j i, f ≠ 34 → f ≠ 35 → f ≠ 36 → ¬ (f = 1 ∧ (i = 0 ∨ i = 28 ∨ i = 32 ∨ i = 34)) → N f j i = M f j i) → N 1 0 34 = 0 → cEnds (cBG tm tf EX l dC dI cA ad scrS (d + 20)) Po 90 gX10_doubt 22 [v, (p : Int)] N := by
    intro m
    induction m with
    | zero =>
      intro p hpm v N hv iN xN fN n34
      refine cEnds_at gX10_doubt_m22 rfl ?_
      refine d_br (fun h => ?_) (fun h => ?_)
      · refine d_cut [v, ((0 : Nat) : Int)] (by simp [cE2, sev, svl, cen] <;> omega) ?_
        exact l71 12 0 (by omega) v N hv iN xN fN n34
      · simp only [cCmp, cE2, sev, svl, cen, List.cons_append, List.nil_append] at h
        omega
    | succ m ih =>
      intro p hpm v N hv iN xN fN n34
      obtain ⟨j1, j2, j3, j4⟩ := put N iN xN fN
      refine cEnds_at gX10_doubt_m22 rfl ?_
      refine d_br (fun h => ?_) (fun h => ?_)
      · simp only [cCmp, cE2, sev, svl, cen, List.cons_append, List.nil_append] at h
        omega
      · clear h
        refine d_br (fun h => ?_) (fun h => ?_)
        · refine d_cut [v, ((0 : Nat) : Int)] (by simp [cE2, sev, svl, cen] <;> omega) ?_
          exact l71 12 0 (by omega) v N hv iN xN fN n34
        · clear h
          refine d_call (m_cutsOf (d := d + 19) hp (Z := Z) (p := p) (inv N fN) n34 (by omega)) (by simp [cAs, cE2, sev, svl, cen]) ?_
          rintro rr N2 ⟨rfl, rfl⟩
          refine ⟨rfl, ?_⟩
          refine d_br (fun h => ?_) (fun h => ?_)
          · refine d_put 0 0 (by simp only [cE2, sev, svl, cen, List.cons_append, List.nil_append]; omega) (by simp only [cE2, sev, svl, cen, List.cons_append, List.nil_append]; omega) ?_
            refine d_rng (by simp only [clo, chi, cE2, sev, svl, cen, List.cons_append, List.nil_append]; omega) ?_
            refine d_cut [-1, ((p + 1 : Nat) : Int)] (by simp [cE2, sev, svl, cen] <;> omega) ?_
            exact ih (p + 1) (by omega) (-1) _ ⟨by omega, by omega⟩ j1 j2 j3 j4
          · refine d_opw 1 (p : Int) (by simp [cE2, sev, svl, cen] <;> omega) (by simp [cE2, sev, svl, cen] <;> omega) ?_
            refine d_call (hH N2 (cfn 2 1 (p : Int)) iN xN (i32r _)) (by simp [cAs, cE2, sev, svl, cen] <;> omega) ?_
            rintro rr N3 ⟨i3, x3, f3, hr⟩
            have f3' : ∀ f j i, f ≠ 34 → f ≠ 35 → f ≠ 36 → ¬ (f = 1 ∧ (i = 0 ∨ i = 28 ∨ i = 32 ∨ i = 34)) → N3 f j i = M f j i := fun f j i y1 y2 y3 y4 => by rw [f3 f j i y1 y2 y3 (fun q => y4 ⟨q.1, by omega⟩), fN f j i y1 y2 y3 y4]
            obtain ⟨k1, k2, k3, k4⟩ := put N3 i3 x3 f3'
            rcases hr with rfl | rfl
            · refine ⟨rfl, ?_⟩
              refine d_br (fun h => ?_) (fun h => ?_)
              · refine d_put 0 0 (by simp only [cE2, sev, svl, cen, List.cons_append, List.nil_append]; omega) (by simp only [cE2, sev, svl, cen, List.cons_append, List.nil_append]; omega) ?_
                refine d_rng (by simp only [clo, chi, cE2, sev, svl, cen, List.cons_append, List.nil_append]; omega) ?_
                refine d_cut [-1, ((p + 1 : Nat) : Int)] (by simp [cE2, sev, svl, cen] <;> omega) ?_
                exact ih (p + 1) (by omega) (-1) _ ⟨by omega, by omega⟩ k1 k2 k3 k4
              · simp only [cCmp, cE2, sev, svl, cen, List.cons_append, List.nil_append] at h
                omega
            · refine ⟨rfl, ?_⟩
              refine d_br (fun h => ?_) (fun h => ?_)
              · simp only [cCmp, cE2, sev, svl, cen, List.cons_append, List.nil_append] at h
                omega
              · refine d_opw 1 (p : Int) (by simp [cE2, sev, svl, cen] <;> omega) (by simp [cE2, sev, svl, cen] <;> omega) ?_
                refine d_put 0 0 (by simp only [cE2, sev, svl, cen, List.cons_append, List.nil_append]; omega) (by simp only [cE2, sev, svl, cen, List.cons_append, List.nil_append]; omega) ?_
                refine d_rng (by simp only [clo, chi, cE2, sev, svl, cen, List.cons_append, List.nil_append]; omega) ?_
                refine d_cut [cfn 2 1 (p : Int), ((p + 1 : Nat) : Int)] (by simp [cE2, sev, svl, cen] <;> omega) ?_
                exact ih (p + 1) (by omega) _ _ (i32r _) k1 k2 k3 k4
  refine d_fld 0 (by simp only [cE2, sev, svl, cen, List.cons_append, List.nil_append]; omega) ?_
  rw [e32]
  refine d_br (fun h => ?_) (fun h => ?_)
  · refine d_cut [-1, ((0 : Nat) : Int)] (by simp [cE2, sev, svl, cen] <;> omega) ?_
    exact l22 12 0 (by omega) (-1) M1 ⟨by omega, by omega⟩ i1 x1 f1 e34
  · exact d_ret [-1] rfl (by decide) (hPo _ _ ⟨⟨i1, f1, hkm⟩, -1, rfl⟩)
end CS22
