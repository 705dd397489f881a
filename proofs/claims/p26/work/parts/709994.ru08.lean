/-! the run: the reference runs, and answers -/
/-- behind a run of the reference -/
def mRP (Z : RZT) (B : Nat → List OLn) (r : Nat) (M MM : SMem) : Prop := sI tg MM ∧ mXf M MM ∧ mS5 MM ∧ (∀ p, p < 12 → rLg 47 48 49 50 MM p ((rRun Z B r).1 p)) ∧ MM 1 0 50 = (rRun Z B r).2
/-- behind a call that asks of the run (the reference's) -/
def mKX (M MM : SMem) : Prop := sI tg MM ∧ (∀ f j i, f ∉ [43, 44, 47, 48, 49, 50] → ¬ (f = 1 ∧ (i = 50 ∨ i = 0)) → MM f j i = M f j i) ∧ mS5 MM
section CR8
variable {EX : SEx} {l : Launch} {dC : Nat → ClassId} {dI : Nat → Nat → Nat} {cA : Nat → ClassId} {ad : SAd} {scrS d : Nat}
set_option maxHeartbeats 1000000 in
theorem m_runs (hp : cPl tm tc tf EX) {Z : RZT} {B : Nat → List OLn} {L : Nat} {M : SMem} (hI : sI tg M) (hZ : rZr Z M) (hZn : ∀ p, -1 ≤ Z.2.1 p 0 ∧ Z.2.1 p 0 ≤ 7) (hB : ∀ r, r < 6 → oMl M r (B r)) (h5 : mS5 M) (hL : L < 6) : cBG tm tf EX l dC dI cA ad scrS (d + 5) kX10_runs [(2, 1, 0), (0, 0, (L : Int))] M (fun rr MM => rr = [] ∧ mRP Z B (L + 1) M MM) := by
  refine cMeth (v := [(L : Int)]) (Fd := 90) hp (by decide) gX10_runs_ok gX10_runs_m0 (by simp [cAs, cE2, sev, svl, cen]) ?_
  have hBk : rBk B := fun r hr => ⟨(hB r hr).2.1, (hB r hr).2.2.1⟩
  have hW := rRun_wf (B := B) hZn hBk
  suffices H : ∀ Po : List Int → SMem → Prop, (∀ rr MM, (rr = [] ∧ mRP Z B (L + 1) M MM) → Po rr MM) → cEnds (cBG tm tf EX l dC dI cA ad scrS (d + 4)) Po 90 gX10_runs 0 [(L : Int)] M from H _ (fun _ _ h => h)
  intro Po hPo
  have l75 : ∀ (m r : Nat), r + m = L + 1 → ∀ MW : SMem, mRP Z B r M MW → cEnds (cBG tm tf EX l dC dI cA ad scrS (d + 4)) Po 90 gX10_runs 75 [(L : Int), (r : Int)] MW := by
    intro m
    induction m with
    | zero =>
      intro r hr MW W
      have hr : r = L + 1 := hr
      subst hr
      refine cEnds_at gX10_runs_m75 rfl ?_
      refine d_br (fun h => ?_) (fun h => ?_)
      · simp only [cCmp, cE2, sev, svl, cen, List.cons_append, List.nil_append] at h
        first
        | omega
        | skip
          exact d_ret [] rfl (by decide) (hPo _ _ ⟨rfl, W⟩)
      · simp only [cCmp, cE2, sev, svl, cen, List.cons_append, List.nil_append] at h
        first
        | omega
        | skip
          refine d_cut [(L : Int), ((L + 1 : Nat) : Int), 0] (by simp [cE2, sev, svl, cen] <;> omega) ?_
          exact (by omega)
    | succ m ih =>
      intro r hr MW W
      obtain ⟨X, hX⟩ : ∃ X, X = rRun Z B r := ⟨_, rfl⟩
      obtain ⟨wX1, wX2, wX3⟩ := hW r (by omega)
      rw [← hX] at wX1 wX2 wX3
      have hwf := rPs_wf (Z := Z) (r := r) (ls := B r) (X := X) (by omega) (hBk r (by omega)).1 (hBk r (by omega)).2 wX1
      have l82 : ∀ (n k : Nat), k + n = 12 → ∀ MV : SMem, sI tg MV → mXf M MV → mS5 MV → (∀ p, p < 12 → rLg 47 48 49 50 MV p ((rPs Z r (B r) X k).1 p)) → MV 1 0 50 = (rPs Z r (B r) X k).2 → cEnds (cBG tm tf EX l dC dI cA ad scrS (d + 4)) Po 90 gX10_runs 82 [(L : Int), (r : Int), (k : Int)] MV := by
        intro n
        induction n with
        | zero =>
          intro k hk MV j1 h1 h51 u1 t1
          have hk : k = 12 := hk
          subst hk
          have eR : rRun Z B (r + 1) = rPs Z r (B r) X 12 := by rw [hX]; rfl
          refine cEnds_at gX10_runs_m82 rfl ?_
          refine d_br (fun h => ?_) (fun h => ?_)
          · simp only [cCmp, cE2, sev, svl, cen, List.cons_append, List.nil_append] at h
            first
            | omega
            | skip
              refine d_rng (by simp only [clo, chi, cE2, sev, svl, cen, List.cons_append, List.nil_append]; omega) ?_
              refine d_cut [(L : Int), ((r + 1 : Nat) : Int)] (by simp [cE2, sev, svl, cen] <;> omega) ?_
              exact ih (r + 1) (by omega) MV ⟨j1, h1, h51, by rw [eR]; exact u1, by rw [eR]; exact t1⟩
          · simp only [cCmp, cE2, sev, svl, cen, List.cons_append, List.nil_append] at h
            first
            | omega
            | skip
              omega
        | succ n ihn =>
          intro k hk MV j1 h1 h51 u1 t1
          obtain ⟨w1, w2, w3⟩ := hwf k
          have cOb : cBG tm tf EX l dC dI cA ad scrS (d + 4) kX10_does [(2, 1, 0), (0, 0, (k : Int)), (0, 0, (r : Int))] MV (fun rr MM => rr = [] ∧ mOP k (rOb Z r k (B r) ((rPs Z r (B r) X k).1 k, (rPs Z r (B r) X k).2)) MV MM) := by
            have w9 := m_does (EX := EX) (l := l) (dC := dC) (dI := dI) (cA := cA) (ad := ad) (scrS := scrS) (d := d) hp (Z := Z) (r := r) (p := k) (st := (rPs Z r (B r) X k).1 k) (ls := B r) j1 (by omega) (by omega) (w1 k) (u1 k (by omega)) (mXf_L h1 (hB r (by omega))) (mXf_Z h1 hZ) h51 (by omega)
            rw [t1] at w9
            exact w9
          refine cEnds_at gX10_runs_m82 rfl ?_
          refine d_br (fun h => ?_) (fun h => ?_)
          · simp only [cCmp, cE2, sev, svl, cen, List.cons_append, List.nil_append] at h
            first
            | omega
            | skip
              refine d_rng (by simp only [clo, chi, cE2, sev, svl, cen, List.cons_append, List.nil_append]; omega) ?_
              refine d_cut [(L : Int), ((r : Int) + 1)] (by simp [cE2, sev, svl, cen] <;> omega) ?_
              exact (by omega)
          · simp only [cCmp, cE2, sev, svl, cen, List.cons_append, List.nil_append] at h
            first
            | omega
            | skip
              refine d_call (cOb) (by simp [cAs, cE2, sev, svl, cen] <;> omega) ?_
              intro rr M2 hq
              obtain ⟨rfl, i2, f2, n2, s2, u2, o2⟩ := hq
              refine ⟨rfl, ?_⟩
              refine d_rng (by simp only [clo, chi, cE2, sev, svl, cen, List.cons_append, List.nil_append]; omega) ?_
              refine d_cut [(L : Int), (r : Int), ((k + 1 : Nat) : Int)] (by simp [cE2, sev, svl, cen] <;> omega) ?_
              refine ihn (k + 1) (by omega) M2 i2 (mXf_t h1 f2) n2 (fun p hp9 => ?_) s2
              exact (Decidable.em (p = k)).elim (fun z => by rw [z, rPs_t]; exact u2) (fun z => by rw [rPs_s z]; exact o2 p _ z (w1 p).1 (u1 p hp9))
      refine cEnds_at gX10_runs_m75 rfl ?_
      refine d_br (fun h => ?_) (fun h => ?_)
      · simp only [cCmp, cE2, sev, svl, cen, List.cons_append, List.nil_append] at h
        omega
      · refine d_cut [(L : Int), (r : Int), ((0 : Nat) : Int)] (by simp [cE2, sev, svl, cen] <;> omega) ?_
        exact l82 12 0 (by omega) MW W.1 W.2.1 W.2.2.1 (by rw [hX]; exact W.2.2.2.1) (by rw [hX]; exact W.2.2.2.2)
  have l7 : ∀ (m k : Nat), k + m = 12 → ∀ MW : SMem, sI tg MW → mXf M MW → mS5 MW → (∀ p, p < k → rLg 47 48 49 50 MW p (rBg Z p)) → MW 1 0 50 = 0 → cEnds (cBG tm tf EX l dC dI cA ad scrS (d + 4)) Po 90 gX10_runs 7 [(L : Int), (k : Int)] MW := by
    intro m
    induction m with
    | zero =>
      intro k hk MW i1 f1 h51 g1 s1
      have hk : k = 12 := hk
      subst hk
      refine cEnds_at gX10_runs_m7 rfl ?_
      refine d_br (fun h => ?_) (fun h => ?_)
      · refine d_cut [(L : Int), ((0 : Nat) : Int)] (by simp [cE2, sev, svl, cen] <;> omega) ?_
        exact l75 (L + 1) 0 (by omega) MW ⟨i1, f1, h51, g1, s1⟩
      · simp only [cCmp, cE2, sev, svl, cen, List.cons_append, List.nil_append] at h
        omega
    | succ m ih =>
      intro k hk MW i1 f1 h51 g1 s1
      have Z1 := mXf_Z f1 hZ
      obtain ⟨y0, -, -, -, y5, y6⟩ := Z1.1 k (by omega)
      have e0 : supd MW 47 0 k 0 47 0 k = ((0 : Nat) : Int) := supd_at _ _ _ _ _
      have i0 : sI tg (supd MW 47 0 k 0) := wI i1 (lo := 0) (hi := 6) rfl ⟨by omega, by omega⟩
      have g0 : rLg 47 48 49 50 (supd MW 47 0 k 0) k [] := ⟨e0, fun k c hc => by cases hc⟩
      have k0 : ∀ p' st', p' ≠ k → rLg 47 48 49 50 MW p' st' → rLg 47 48 49 50 (supd MW 47 0 k 0) p' st' := fun p' st' h1 h => rLg_cg (supd_i h1) (fun f k hf _ => supd_f (by omega)) h
      have s0 : mS5 (supd MW 47 0 k 0) := fun q => by rw [supd_f (by decide)]; exact h51 q
      have f0 : mXf M (supd MW 47 0 k 0) := fun f j i q1 q2 => (supd_f (fun z => q1 (by rw [z]; decide))).trans (f1 f j i q1 q2)
      have bn := hZn k
      have no : ¬ (Z.1 k 0 ≠ 0 ∧ 0 < Z.1 k 5 ∧ Z.2.1 k 0 ≠ -1) → cEnds (cBG tm tf EX l dC dI cA ad scrS (d + 4)) Po 90 gX10_runs 7 [(L : Int), ((k + 1 : Nat) : Int)] (supd MW 47 0 k 0) := fun h => by
        refine ih (k + 1) (by omega) _ i0 f0 s0 (fun p hp9 => ?_) ((supd_f (by decide)).trans s1)
        by_cases z : p = k
        · rw [z, show rBg Z k = [] from if_neg h]
          exact g0
        · exact k0 p _ z (g1 p (by omega))
      refine cEnds_at gX10_runs_m7 rfl ?_
      refine d_br (fun h => ?_) (fun h => ?_)
      · simp only [cCmp, cE2, sev, svl, cen, List.cons_append, List.nil_append] at h
        first
        | omega
        | skip
          refine d_cut [(L : Int), 0] (by simp [cE2, sev, svl, cen] <;> omega) ?_
          exact (by omega)
      · simp only [cCmp, cE2, sev, svl, cen, List.cons_append, List.nil_append] at h
        first
        | omega
        | skip
          refine d_set 0 k 0 (by simp only [cE2, sev, svl, cen, List.cons_append, List.nil_append]; omega) (by simp only [cE2, sev, svl, cen, List.cons_append, List.nil_append]; omega) (by omega) (by simp only [cE2, sev, svl, cen, List.cons_append, List.nil_append]; omega) ?_
          refine d_row 0 k (by simp only [cE2, sev, svl, cen, List.cons_append, List.nil_append]; omega) (by simp only [cE2, sev, svl, cen, List.cons_append, List.nil_append]; omega) (by omega) ?_
          rw [supd_f (by decide)]
          rw [y0]
          refine d_br (fun h => ?_) (fun h => ?_)
          · simp only [cCmp, cE2, sev, svl, cen, List.cons_append, List.nil_append] at h
            first
            | omega
            | skip
              refine d_rng (by simp only [clo, chi, cE2, sev, svl, cen, List.cons_append, List.nil_append]; omega) ?_
              refine d_cut [(L : Int), ((k + 1 : Nat) : Int)] (by simp [cE2, sev, svl, cen] <;> omega) ?_
              exact no (by omega)
          · simp only [cCmp, cE2, sev, svl, cen, List.cons_append, List.nil_append] at h
            first
            | omega
            | skip
              refine d_row 0 k (by simp only [cE2, sev, svl, cen, List.cons_append, List.nil_append]; omega) (by simp only [cE2, sev, svl, cen, List.cons_append, List.nil_append]; omega) (by omega) ?_
              rw [supd_f (by decide)]
              rw [y5]
              refine d_br (fun h => ?_) (fun h => ?_)
              · simp only [cCmp, cE2, sev, svl, cen, List.cons_append, List.nil_append] at h
                first
                | omega
                | skip
                  refine d_rng (by simp only [clo, chi, cE2, sev, svl, cen, List.cons_append, List.nil_append]; omega) ?_
                  refine d_cut [(L : Int), ((k + 1 : Nat) : Int)] (by simp [cE2, sev, svl, cen] <;> omega) ?_
                  exact no (by omega)
              · simp only [cCmp, cE2, sev, svl, cen, List.cons_append, List.nil_append] at h
                first
                | omega
                | skip
                  refine d_rng (by simp only [clo, chi, cE2, sev, svl, cen, List.cons_append, List.nil_append]; omega) ?_
                  refine d_row 0 (6 * k) (by simp only [cE2, sev, svl, cen, List.cons_append, List.nil_append]; omega) (by simp only [cE2, sev, svl, cen, List.cons_append, List.nil_append]; omega) (by omega) ?_
                  rw [supd_f (by decide)]
                  rw [y6]
                  refine d_br (fun h => ?_) (fun h => ?_)
                  · simp only [cCmp, cE2, sev, svl, cen, List.cons_append, List.nil_append] at h
                    first
                    | omega
                    | skip
                      refine d_rng (by simp only [clo, chi, cE2, sev, svl, cen, List.cons_append, List.nil_append]; omega) ?_
                      refine d_cut [(L : Int), ((k + 1 : Nat) : Int)] (by simp [cE2, sev, svl, cen] <;> omega) ?_
                      exact no (by omega)
                  · simp only [cCmp, cE2, sev, svl, cen, List.cons_append, List.nil_append] at h
                    first
                    | omega
                    | skip
                      refine d_rng (by simp only [clo, chi, cE2, sev, svl, cen, List.cons_append, List.nil_append]; omega) ?_
                      refine d_row 0 (6 * k) (by simp only [cE2, sev, svl, cen, List.cons_append, List.nil_append]; omega) (by simp only [cE2, sev, svl, cen, List.cons_append, List.nil_append]; omega) (by omega) ?_
                      rw [supd_f (by decide)]
                      rw [y6]
                      refine d_call (m_lays (d := d + 3) hp (n := 0) (a := (-1)) (b := 0) (c := (Z.2.1 k 0)) (by omega) (by omega) e0) (by simp [cAs, cE2, sev, svl, cen] <;> omega) ?_
                      intro rr M' hq
                      obtain ⟨rfl, e9⟩ := hq
                      refine ⟨rfl, ?_⟩
                      refine d_rng (by simp only [clo, chi, cE2, sev, svl, cen, List.cons_append, List.nil_append]; omega) ?_
                      rw [e9]
                      refine d_cut [(L : Int), ((k + 1 : Nat) : Int)] (by simp [cE2, sev, svl, cen] <;> omega) ?_
                      refine ih (k + 1) (by omega) _ ?_ (fun f j i q1 q2 => ?_) (mAdd_5 (fun _ => by omega) (by omega) s0) (fun p hp9 => ?_) ((rAdd_o (by decide)).trans ((supd_f (by decide)).trans s1))
                      · unfold rAdd; exact wI (wI (wI (wI i0 (lo := -1) (hi := 5) rfl ⟨by omega, by omega⟩) (lo := 0) (hi := 4) rfl ⟨by omega, by omega⟩) (lo := -1) (hi := 7) rfl bn) (lo := 0) (hi := 6) rfl ⟨by omega, by omega⟩
                      · refine (rAdd_o ?_).trans (f0 f j i q1 q2); simp only [List.mem_cons, List.not_mem_nil, or_false, not_or] at q1; omega
                      · exact (Decidable.em (p = k)).elim (fun z => by rw [z, show rBg Z k = [(-1, 0, Z.2.1 k 0)] from if_pos (by omega)]; exact rAdd_p (st := []) (by decide) rfl g0) (fun z => rAdd_q (by decide) (by omega) (rBg_wf hZn p).1 z (k0 p _ z (g1 p (by omega))))
  refine cEnds_at gX10_runs_m0 rfl ?_
  refine d_put 0 0 (by simp only [cE2, sev, svl, cen, List.cons_append, List.nil_append]; omega) (by simp only [cE2, sev, svl, cen, List.cons_append, List.nil_append]; omega) ?_
  refine d_cut [(L : Int), ((0 : Nat) : Int)] (by simp [cE2, sev, svl, cen] <;> omega) ?_
  exact l7 12 0 (by omega) _ (wI hI (lo := -2147483648) (hi := 2147483647) rfl ⟨by omega, by omega⟩) (fun f j i q1 q2 => supd_n (by omega)) (fun q => by rw [supd_f (by decide)]; exact h5 q) (fun p q => absurd q (Nat.not_lt_zero p)) (supd_at _ _ _ _ _)
theorem mKX_0 {M : SMem} (hI : sI tg M) (h5 : mS5 M) : mKX M (supd M 1 0 0 0) := ⟨wI hI (lo := 0) (hi := 1) rfl ⟨by omega, by omega⟩, fun f j i q1 q2 => supd_n (by omega), fun q => by rw [supd_f (by decide)]; exact h5 q⟩
theorem mKX_R {Z : RZT} {B : Nat → List OLn} {r : Nat} {M MM : SMem} (h : mRP Z B r (supd M 1 0 0 0) MM) : mKX M MM := ⟨h.1, fun f j i q1 q2 => (h.2.1 f j i q1 (by omega)).trans (supd_n (by omega)), h.2.2.1⟩
theorem m0_Z {Z : RZT} {M : SMem} (hZ : rZr Z M) : rZr Z (supd M 1 0 0 0) := rZr_cg (fun f hf => supd_ff (fun z => by rw [z] at hf; revert hf; decide)) hZ
theorem m0_B {B : Nat → List OLn} {M : SMem} (hB : ∀ r, r < 6 → oMl M r (B r)) : ∀ r, r < 6 → oMl (supd M 1 0 0 0) r (B r) := fun r hr => oMl_cg (fun f i h1 h2 => supd_f (by omega)) (hB r hr)
theorem m0_5 {M : SMem} (h5 : mS5 M) : mS5 (supd M 1 0 0 0) := fun q => by rw [supd_f (by decide)]; exact h5 q
theorem m_ran (hp : cPl tm tc tf EX) {Z : RZT} {B : Nat → List OLn} {a b : Int} {M : SMem} (hI : sI tg M) (hZ : rZr Z M) (hZn : ∀ p, -1 ≤ Z.2.1 p 0 ∧ Z.2.1 p 0 ≤ 7) (hB : ∀ r, r < 6 → oMl M r (B r)) (h5 : mS5 M) : cBG tm tf EX l dC dI cA ad scrS (d + 6) kX10_ran [(2, 1, 0), (0, 0, a), (0, 0, b)] M (fun rr MM => rr = [rRan Z B a b] ∧ mKX M MM) := by
  have i0 : sI tg (supd M 1 0 0 0) := wI hI (lo := 0) (hi := 1) rfl ⟨by omega, by omega⟩
  have hW := rRun_wf (B := B) hZn (fun r hr => ⟨(hB r hr).2.1, (hB r hr).2.2.1⟩)
  have eq22 : ∀ x : Int, (0 ≤ x ∧ x < 12 ∧ (supd M 1 0 0 0) 22 0 x.toNat ≠ 0) ↔ (0 ≤ x ∧ x < 12 ∧ Z.1 x.toNat 0 ≠ 0) := fun x => by
    rw [supd_f (by decide)]
    exact ⟨fun z => ⟨z.1, z.2.1, by rw [← (hZ.1 x.toNat (by omega)).1]; exact z.2.2⟩, fun z => ⟨z.1, z.2.1, by rw [(hZ.1 x.toNat (by omega)).1]; exact z.2.2⟩⟩
  have no : ¬ ((0 ≤ a ∧ a < 12 ∧ Z.1 a.toNat 0 ≠ 0) ∧ 0 ≤ b ∧ b < 6) → rRan Z B a b = -1 := fun h => if_neg h
  have yes : ((0 ≤ a ∧ a < 12 ∧ Z.1 a.toNat 0 ≠ 0) ∧ 0 ≤ b ∧ b < 6) → rRan Z B a b = (((rRun Z B (b.toNat + 1)).1 a.toNat).length : Int) := fun h => if_pos h
  refine cMeth (v := [a, b]) (Fd := 90) hp (by decide) gX10_ran_ok gX10_ran_m0 (by simp [cAs, cE2, sev, svl, cen]) ?_
  refine cEnds_at gX10_ran_m0 rfl ?_
  refine d_put 0 0 (by simp only [cE2, sev, svl, cen, List.cons_append, List.nil_append]; omega) (by simp only [cE2, sev, svl, cen, List.cons_append, List.nil_append]; omega) ?_
  refine d_call (m_isPlace (d := d + 3) hp (a := a)) (by simp [cAs, cE2, sev, svl, cen] <;> omega) ?_
  intro rr M' hq
  obtain ⟨hM', hq⟩ := hq
  rw [hM']
  rcases hq with ⟨rfl, q2⟩ | ⟨rfl, q2⟩
  · refine ⟨rfl, ?_⟩
    refine d_br (fun h => ?_) (fun h => ?_)
    · simp only [cCmp, cE2, sev, svl, cen, List.cons_append, List.nil_append] at h
      omega
    · clear h
      refine d_call (m_within (d := d + 4) hp (x := b) (y := 0) (z := 5)) (by simp [cAs, cE2, sev, svl, cen] <;> omega) ?_
      intro rr M' hq
      obtain ⟨hM', hq⟩ := hq
      rw [hM']
      rcases hq with ⟨rfl, q3⟩ | ⟨rfl, q3⟩
      · refine ⟨rfl, ?_⟩
        refine d_br (fun h => ?_) (fun h => ?_)
        · clear h
          refine d_call (m_runs (d := d) hp (Z := Z) (B := B) (L := b.toNat) i0 (m0_Z hZ) hZn (m0_B hB) (m0_5 h5) (by omega)) (by simp [cAs, cE2, sev, svl, cen] <;> omega) ?_
          intro rr M1 hq
          obtain ⟨rfl, W⟩ := hq
          have e9 : M1 47 0 a.toNat = (((rRun Z B (b.toNat + 1)).1 a.toNat).length : Int) := (W.2.2.2.1 a.toNat (by omega)).1
          have b9 := ((hW (b.toNat + 1) (by omega)).1 a.toNat).1
          refine ⟨rfl, ?_⟩
          refine d_row 0 a.toNat (by simp only [cE2, sev, svl, cen, List.cons_append, List.nil_append]; omega) (by simp only [cE2, sev, svl, cen, List.cons_append, List.nil_append]; omega) (by omega) ?_
          rw [e9]
          exact wret1 (((rRun Z B (b.toNat + 1)).1 a.toNat).length : Int) (by simp only [cE2, sev, svl, cen, List.cons_append, List.nil_append]; omega) (by omega) ⟨by rw [yes ⟨(eq22 a).mp q2, by omega⟩], mKX_R W⟩
        · simp only [cCmp, cE2, sev, svl, cen, List.cons_append, List.nil_append] at h
          omega
      · refine ⟨rfl, ?_⟩
        refine d_br (fun h => ?_) (fun h => ?_)
        · simp only [cCmp, cE2, sev, svl, cen, List.cons_append, List.nil_append] at h
          omega
        · clear h
          exact d_ret [(-1)] rfl (by decide) ⟨by rw [no (fun z => q3 (by omega))], mKX_0 hI h5⟩
  · refine ⟨rfl, ?_⟩
    refine d_br (fun h => ?_) (fun h => ?_)
    · clear h
      exact d_ret [(-1)] rfl (by decide) ⟨by rw [no (fun z => q2 ((eq22 a).mpr z.1))], mKX_0 hI h5⟩
    · simp only [cCmp, cE2, sev, svl, cen, List.cons_append, List.nil_append] at h
      omega
theorem m_made (hp : cPl tm tc tf EX) {Z : RZT} {B : Nat → List OLn} {a b w : Int} {M : SMem} (hI : sI tg M) (hZ : rZr Z M) (hZn : ∀ p, -1 ≤ Z.2.1 p 0 ∧ Z.2.1 p 0 ≤ 7) (hB : ∀ r, r < 6 → oMl M r (B r)) (h5 : mS5 M) : cBG tm tf EX l dC dI cA ad scrS (d + 6) kX10_made [(2, 1, 0), (0, 0, a), (0, 0, b), (0, 0, w)] M (fun rr MM => rr = [rMade Z B a b w] ∧ mKX M MM) := by
  have i0 : sI tg (supd M 1 0 0 0) := wI hI (lo := 0) (hi := 1) rfl ⟨by omega, by omega⟩
  have hW := rRun_wf (B := B) hZn (fun r hr => ⟨(hB r hr).2.1, (hB r hr).2.2.1⟩)
  have eq22 : ∀ x : Int, (0 ≤ x ∧ x < 12 ∧ (supd M 1 0 0 0) 22 0 x.toNat ≠ 0) ↔ (0 ≤ x ∧ x < 12 ∧ Z.1 x.toNat 0 ≠ 0) := fun x => by
    rw [supd_f (by decide)]
    exact ⟨fun z => ⟨z.1, z.2.1, by rw [← (hZ.1 x.toNat (by omega)).1]; exact z.2.2⟩, fun z => ⟨z.1, z.2.1, by rw [(hZ.1 x.toNat (by omega)).1]; exact z.2.2⟩⟩
  have no : ¬ ((0 ≤ a ∧ a < 12 ∧ Z.1 a.toNat 0 ≠ 0) ∧ (0 ≤ w ∧ w < 3) ∧ 0 ≤ b) → rMade Z B a b w = -1 := fun h => if_neg h
  have no2 : ((rRun Z B 6).1 a.toNat).length ≤ b.toNat → rMade Z B a b w = -1 := fun h => by
    unfold rMade
    split
    · rw [List.getElem?_eq_none h]
    · rfl
  have yes : ∀ c, ((0 ≤ a ∧ a < 12 ∧ Z.1 a.toNat 0 ≠ 0) ∧ (0 ≤ w ∧ w < 3) ∧ 0 ≤ b) → ((rRun Z B 6).1 a.toNat)[b.toNat]? = some c → rMade Z B a b w = if w = 0 then c.1 else if w = 1 then c.2.1 else c.2.2 := fun c h hc => by
    unfold rMade
    rw [if_pos h, hc]
  obtain ⟨n, hn⟩ : ∃ n, n = ((rRun Z B 6).1 a.toNat).length := ⟨_, rfl⟩
  refine cMeth (v := [a, b, w]) (Fd := 90) hp (by decide) gX10_made_ok gX10_made_m0 (by simp [cAs, cE2, sev, svl, cen]) ?_
  refine cEnds_at gX10_made_m0 rfl ?_
  refine d_put 0 0 (by simp only [cE2, sev, svl, cen, List.cons_append, List.nil_append]; omega) (by simp only [cE2, sev, svl, cen, List.cons_append, List.nil_append]; omega) ?_
  refine d_call (m_isPlace (d := d + 3) hp (a := a)) (by simp [cAs, cE2, sev, svl, cen] <;> omega) ?_
  intro rr M' hq
  obtain ⟨hM', hq⟩ := hq
  rw [hM']
  rcases hq with ⟨rfl, q3⟩ | ⟨rfl, q3⟩
  · refine ⟨rfl, ?_⟩
    refine d_br (fun h => ?_) (fun h => ?_)
    · simp only [cCmp, cE2, sev, svl, cen, List.cons_append, List.nil_append] at h
      omega
    · clear h
      refine d_call (m_within (d := d + 4) hp (x := w) (y := 0) (z := 2)) (by simp [cAs, cE2, sev, svl, cen] <;> omega) ?_
      intro rr M' hq
      obtain ⟨hM', hq⟩ := hq
      rw [hM']
      rcases hq with ⟨rfl, q4⟩ | ⟨rfl, q4⟩
      · refine ⟨rfl, ?_⟩
        refine d_br (fun h => ?_) (fun h => ?_)
        · clear h
          refine d_call (m_runs (d := d) hp (Z := Z) (B := B) (L := 5) i0 (m0_Z hZ) hZn (m0_B hB) (m0_5 h5) (by omega)) (by simp [cAs, cE2, sev, svl, cen] <;> omega) ?_
          intro rr M1 hq
          obtain ⟨rfl, W⟩ := hq
          have e9 : M1 47 0 a.toNat = (n : Int) := by rw [hn]; exact (W.2.2.2.1 a.toNat (by omega)).1
          have e8 : ∀ c, ((rRun Z B 6).1 a.toNat)[b.toNat]? = some c → M1 48 0 (6 * a.toNat + b.toNat) = c.1 ∧ M1 49 0 (6 * a.toNat + b.toNat) = c.2.1 ∧ M1 50 0 (6 * a.toNat + b.toNat) = c.2.2 := fun c hcc => (W.2.2.2.1 a.toNat (by omega)).2 _ c hcc
          have b9 := ((hW 6 (by omega)).1 a.toNat).1
          have b80 := wIb (f := 48) (i := 6 * a.toNat + b.toNat) (lo := -1) (hi := 5) W.1 0 rfl
          have b81 := wIb (f := 49) (i := 6 * a.toNat + b.toNat) (lo := 0) (hi := 4) W.1 0 rfl
          have b82 := wIb (f := 50) (i := 6 * a.toNat + b.toNat) (lo := -1) (hi := 7) W.1 0 rfl
          refine ⟨rfl, ?_⟩
          refine d_row 0 a.toNat (by simp only [cE2, sev, svl, cen, List.cons_append, List.nil_append]; omega) (by simp only [cE2, sev, svl, cen, List.cons_append, List.nil_append]; omega) (by omega) ?_
          rw [e9]
          refine d_rng (by simp only [clo, chi, cE2, sev, svl, cen, List.cons_append, List.nil_append]; omega) ?_
          refine d_call (m_within (d := d + 4) hp (x := b) (y := 0) (z := ((n : Int) - 1))) (by simp [cAs, cE2, sev, svl, cen] <;> omega) ?_
          intro rr M' hq
          obtain ⟨hM', hq⟩ := hq
          rw [hM']
          rcases hq with ⟨rfl, q6⟩ | ⟨rfl, q6⟩
          · refine ⟨rfl, ?_⟩
            refine d_br (fun h => ?_) (fun h => ?_)
            · clear h
              refine d_rng (by simp only [clo, chi, cE2, sev, svl, cen, List.cons_append, List.nil_append]; omega) ?_
              refine d_rng (by simp only [clo, chi, cE2, sev, svl, cen, List.cons_append, List.nil_append]; omega) ?_
              refine d_br (fun h => ?_) (fun h => ?_)
              · simp only [cCmp, cE2, sev, svl, cen, List.cons_append, List.nil_append] at h
                first
                | omega
                | skip
                  refine d_br (fun h => ?_) (fun h => ?_)
                  · simp only [cCmp, cE2, sev, svl, cen, List.cons_append, List.nil_append] at h
                    first
                    | omega
                    | skip
                      refine d_row 0 (6 * a.toNat + b.toNat) (by simp only [cE2, sev, svl, cen, List.cons_append, List.nil_append]; omega) (by simp only [cE2, sev, svl, cen, List.cons_append, List.nil_append]; omega) (by omega) ?_
                      obtain ⟨c, hcc⟩ := rGet (st := (rRun Z B 6).1 a.toNat) (k := b.toNat) (by omega)
                      exact wret1 (M1 50 0 (6 * a.toNat + b.toNat)) (by simp only [cE2, sev, svl, cen, List.cons_append, List.nil_append]; omega) (by omega) ⟨by rw [yes c ⟨(eq22 a).mp q3, by omega, by omega⟩ hcc, if_neg (by omega), if_neg (by omega), (e8 c hcc).2.2], mKX_R W⟩
                  · simp only [cCmp, cE2, sev, svl, cen, List.cons_append, List.nil_append] at h
                    first
                    | omega
                    | skip
                      refine d_row 0 (6 * a.toNat + b.toNat) (by simp only [cE2, sev, svl, cen, List.cons_append, List.nil_append]; omega) (by simp only [cE2, sev, svl, cen, List.cons_append, List.nil_append]; omega) (by omega) ?_
                      obtain ⟨c, hcc⟩ := rGet (st := (rRun Z B 6).1 a.toNat) (k := b.toNat) (by omega)
                      exact wret1 (M1 49 0 (6 * a.toNat + b.toNat)) (by simp only [cE2, sev, svl, cen, List.cons_append, List.nil_append]; omega) (by omega) ⟨by rw [yes c ⟨(eq22 a).mp q3, by omega, by omega⟩ hcc, if_neg (by omega), if_pos (by omega), (e8 c hcc).2.1], mKX_R W⟩
              · simp only [cCmp, cE2, sev, svl, cen, List.cons_append, List.nil_append] at h
                first
                | omega
                | skip
                  refine d_row 0 (6 * a.toNat + b.toNat) (by simp only [cE2, sev, svl, cen, List.cons_append, List.nil_append]; omega) (by simp only [cE2, sev, svl, cen, List.cons_append, List.nil_append]; omega) (by omega) ?_
                  obtain ⟨c, hcc⟩ := rGet (st := (rRun Z B 6).1 a.toNat) (k := b.toNat) (by omega)
                  exact wret1 (M1 48 0 (6 * a.toNat + b.toNat)) (by simp only [cE2, sev, svl, cen, List.cons_append, List.nil_append]; omega) (by omega) ⟨by rw [yes c ⟨(eq22 a).mp q3, by omega, by omega⟩ hcc, if_pos (by omega), (e8 c hcc).1], mKX_R W⟩
            · simp only [cCmp, cE2, sev, svl, cen, List.cons_append, List.nil_append] at h
              omega
          · refine ⟨rfl, ?_⟩
            refine d_br (fun h => ?_) (fun h => ?_)
            · simp only [cCmp, cE2, sev, svl, cen, List.cons_append, List.nil_append] at h
              omega
            · clear h
              refine d_ret [-1] rfl (by decide) ⟨?_, mKX_R W⟩
              exact (Decidable.em (0 ≤ b)).elim (fun z => by rw [no2 (by omega)]) (fun z => by rw [no (fun y => z y.2.2)])
        · simp only [cCmp, cE2, sev, svl, cen, List.cons_append, List.nil_append] at h
          omega
      · refine ⟨rfl, ?_⟩
        refine d_br (fun h => ?_) (fun h => ?_)
        · simp only [cCmp, cE2, sev, svl, cen, List.cons_append, List.nil_append] at h
          omega
        · clear h
          exact d_ret [(-1)] rfl (by decide) ⟨by rw [no (fun z => q4 (by omega))], mKX_0 hI h5⟩
  · refine ⟨rfl, ?_⟩
    refine d_br (fun h => ?_) (fun h => ?_)
    · clear h
      exact d_ret [(-1)] rfl (by decide) ⟨by rw [no (fun z => q3 ((eq22 a).mpr z.1))], mKX_0 hI h5⟩
    · simp only [cCmp, cE2, sev, svl, cen, List.cons_append, List.nil_append] at h
      omega
theorem m_works (hp : cPl tm tc tf EX) {a b s : Int} {M : SMem} (hs : 0 ≤ s ∧ s ≤ 1) : cBG tm tf EX l dC dI cA ad scrS (d + 3) kX10_works [(2, 1, 0), (0, 0, a), (0, 0, b), (0, 0, s)] M (fun rr MM => (((0 ≤ a ∧ a ≤ 5) ∧ 0 ≤ b ∧ b ≤ 99) ∧ rr = [1] ∧ MM = supd (supd (supd M 1 0 0 0) 45 0 a.toNat b) 46 0 a.toNat s) ∨ (¬ ((0 ≤ a ∧ a ≤ 5) ∧ 0 ≤ b ∧ b ≤ 99) ∧ rr = [0] ∧ MM = (supd M 1 0 0 0))) := by
  refine cMeth (v := [a, b, s]) (Fd := 90) hp (by decide) gX10_works_ok gX10_works_m0 (by simp [cAs, cE2, sev, svl, cen]) ?_
  refine cEnds_at gX10_works_m0 rfl ?_
  refine d_put 0 0 (by simp only [cE2, sev, svl, cen, List.cons_append, List.nil_append]; omega) (by simp only [cE2, sev, svl, cen, List.cons_append, List.nil_append]; omega) ?_
  refine d_call (m_within (d := d + 1) hp (x := a) (y := 0) (z := 5)) (by simp [cAs, cE2, sev, svl, cen] <;> omega) ?_
  intro rr M' hq
  obtain ⟨hM', hq⟩ := hq
  rw [hM']
  rcases hq with ⟨rfl, q3⟩ | ⟨rfl, q3⟩
  · refine ⟨rfl, ?_⟩
    refine d_br (fun h => ?_) (fun h => ?_)
    · simp only [cCmp, cE2, sev, svl, cen, List.cons_append, List.nil_append] at h
      omega
    · clear h
      refine d_call (m_within (d := d + 1) hp (x := b) (y := 0) (z := 99)) (by simp [cAs, cE2, sev, svl, cen] <;> omega) ?_
      intro rr M' hq
      obtain ⟨hM', hq⟩ := hq
      rw [hM']
      rcases hq with ⟨rfl, q4⟩ | ⟨rfl, q4⟩
      · refine ⟨rfl, ?_⟩
        refine d_br (fun h => ?_) (fun h => ?_)
        · clear h
          refine d_set 0 a.toNat b (by simp only [cE2, sev, svl, cen, List.cons_append, List.nil_append]; omega) (by simp only [cE2, sev, svl, cen, List.cons_append, List.nil_append]; omega) (by omega) (by simp only [cE2, sev, svl, cen, List.cons_append, List.nil_append]; omega) ?_
          refine d_rng (by simp only [clo, chi, cE2, sev, svl, cen, List.cons_append, List.nil_append]; omega) ?_
          refine d_set 0 a.toNat s (by simp only [cE2, sev, svl, cen, List.cons_append, List.nil_append]; omega) (by simp only [cE2, sev, svl, cen, List.cons_append, List.nil_append]; omega) (by omega) (by simp only [cE2, sev, svl, cen, List.cons_append, List.nil_append]; omega) ?_
          exact d_ret [1] rfl (by decide) (Or.inl ⟨by omega, rfl, rfl⟩)
        · simp only [cCmp, cE2, sev, svl, cen, List.cons_append, List.nil_append] at h
          omega
      · refine ⟨rfl, ?_⟩
        refine d_br (fun h => ?_) (fun h => ?_)
        · simp only [cCmp, cE2, sev, svl, cen, List.cons_append, List.nil_append] at h
          omega
        · clear h
          exact d_ret [0] rfl (by decide) (Or.inr ⟨by omega, rfl, rfl⟩)
  · refine ⟨rfl, ?_⟩
    refine d_br (fun h => ?_) (fun h => ?_)
    · clear h
      exact d_ret [0] rfl (by decide) (Or.inr ⟨by omega, rfl, rfl⟩)
    · simp only [cCmp, cE2, sev, svl, cen, List.cons_append, List.nil_append] at h
      omega
theorem m_doesAgree (hp : cPl tm tc tf EX) {p : Nat} {st : List RC} {M : SMem} (hp9 : p < 12) (h6 : st.length ≤ 6) (hI : sI tg M) (g : rLg 47 48 49 50 M p st) : cBG tm tf EX l dC dI cA ad scrS (d + 1) kX10_doesAgree [(2, 1, 0), (0, 0, (p : Int))] M (fun rr MM => MM = M ∧ ((rr = [1] ∧ (rAs (M 27 0 p) (fun k => M 29 0 (6 * p + k)) (fun k => M 30 0 (6 * p + k)) st)) ∨ (rr = [0] ∧ ¬ (rAs (M 27 0 p) (fun k => M 29 0 (6 * p + k)) (fun k => M 30 0 (6 * p + k)) st)))) := by
  obtain ⟨A0, hA0⟩ : ∃ A0, A0 = rAs (M 27 0 p) (fun k => M 29 0 (6 * p + k)) (fun k => M 30 0 (6 * p + k)) st := ⟨_, rfl⟩
  rw [← hA0]
  refine cMeth (v := [(p : Int)]) (Fd := 90) hp (by decide) gX10_doesAgree_ok gX10_doesAgree_m0 (by simp [cAs, cE2, sev, svl, cen]) ?_
  obtain ⟨n, hn⟩ : ∃ n, n = st.length := ⟨_, rfl⟩
  have g0 : M 47 0 p = (n : Int) := by rw [hn]; exact g.1
  have b27 := wIb (f := 27) (i := p) (lo := 0) (hi := 6) hI 0 rfl
  have out : ∀ (k : Nat), ¬ A0 → k ≤ (M 27 0 p).toNat → cEnds (cBG tm tf EX l dC dI cA ad scrS d) (fun rr MM => MM = M ∧ ((rr = [1] ∧ (A0)) ∨ (rr = [0] ∧ ¬ (A0)))) 90 gX10_doesAgree 23 [(p : Int), 0, (k : Int)] M := fun k hk hk6 => by
    refine cEnds_at gX10_doesAgree_m23 rfl ?_
    refine d_row 0 p (by simp only [cE2, sev, svl, cen, List.cons_append, List.nil_append]; omega) (by simp only [cE2, sev, svl, cen, List.cons_append, List.nil_append]; omega) (by omega) ?_
    refine d_br (fun h => ?_) (fun h => ?_)
    · simp only [cCmp, cE2, sev, svl, cen, List.cons_append, List.nil_append] at h
      first
      | omega
      | skip
        exact d_ret [0] rfl (by decide) ⟨rfl, Or.inr ⟨rfl, hk⟩⟩
    · simp only [cCmp, cE2, sev, svl, cen, List.cons_append, List.nil_append] at h
      first
      | omega
      | skip
        refine d_br (fun h => ?_) (fun h => ?_)
        · clear h
          exact d_ret [0] rfl (by decide) ⟨rfl, Or.inr ⟨rfl, hk⟩⟩
        · simp only [cCmp, cE2, sev, svl, cen, List.cons_append, List.nil_append] at h
          omega
  have loop : ∀ (m k : Nat), k + m = n → M 27 0 p = (n : Int) → (∀ (j : Nat) (c : RC), j < k → st[j]? = some c → M 29 0 (6 * p + j) = c.2.1 ∧ (M 30 0 (6 * p + j) = -1 ∨ M 30 0 (6 * p + j) = c.2.2)) → cEnds (cBG tm tf EX l dC dI cA ad scrS d) (fun rr MM => MM = M ∧ ((rr = [1] ∧ (A0)) ∨ (rr = [0] ∧ ¬ (A0)))) 90 gX10_doesAgree 23 [(p : Int), 1, (k : Int)] M := by
    intro m
    induction m with
    | zero =>
      intro k hk h5 ha
      have hk : k = n := hk
      refine cEnds_at gX10_doesAgree_m23 rfl ?_
      refine d_row 0 p (by simp only [cE2, sev, svl, cen, List.cons_append, List.nil_append]; omega) (by simp only [cE2, sev, svl, cen, List.cons_append, List.nil_append]; omega) (by omega) ?_
      rw [h5]
      refine d_br (fun h => ?_) (fun h => ?_)
      · simp only [cCmp, cE2, sev, svl, cen, List.cons_append, List.nil_append] at h
        first
        | omega
        | skip
          exact d_ret [1] rfl (by decide) ⟨rfl, Or.inl ⟨rfl, by rw [hA0]; exact ⟨by rw [h5, hn], fun j c hc => ha j c (by have := (List.getElem?_eq_some_iff.mp hc).1; omega) hc⟩⟩⟩
      · simp only [cCmp, cE2, sev, svl, cen, List.cons_append, List.nil_append] at h
        first
        | omega
        | skip
          refine d_br (fun h => ?_) (fun h => ?_)
          · simp only [cCmp, cE2, sev, svl, cen, List.cons_append, List.nil_append] at h
            omega
          · clear h
            refine d_rng (by simp only [clo, chi, cE2, sev, svl, cen, List.cons_append, List.nil_append]; omega) ?_
            refine d_rng (by simp only [clo, chi, cE2, sev, svl, cen, List.cons_append, List.nil_append]; omega) ?_
            refine d_row 0 (6 * p + k) (by simp only [cE2, sev, svl, cen, List.cons_append, List.nil_append]; omega) (by simp only [cE2, sev, svl, cen, List.cons_append, List.nil_append]; omega) (by omega) ?_
            refine d_row 0 (6 * p + k) (by simp only [cE2, sev, svl, cen, List.cons_append, List.nil_append]; omega) (by simp only [cE2, sev, svl, cen, List.cons_append, List.nil_append]; omega) (by omega) ?_
            refine d_br (fun h => ?_) (fun h => ?_)
            · simp only [cCmp, cE2, sev, svl, cen, List.cons_append, List.nil_append] at h
              first
              | omega
              | skip
                refine d_rng (by simp only [clo, chi, cE2, sev, svl, cen, List.cons_append, List.nil_append]; omega) ?_
                refine d_cut [(p : Int), 0, ((k : Int) + 1)] (by simp [cE2, sev, svl, cen] <;> omega) ?_
                exact (by omega)
            · simp only [cCmp, cE2, sev, svl, cen, List.cons_append, List.nil_append] at h
              first
              | omega
              | skip
                refine d_row 0 (6 * p + k) (by simp only [cE2, sev, svl, cen, List.cons_append, List.nil_append]; omega) (by simp only [cE2, sev, svl, cen, List.cons_append, List.nil_append]; omega) (by omega) ?_
                refine d_br (fun h => ?_) (fun h => ?_)
                · simp only [cCmp, cE2, sev, svl, cen, List.cons_append, List.nil_append] at h
                  first
                  | omega
                  | skip
                    refine d_rng (by simp only [clo, chi, cE2, sev, svl, cen, List.cons_append, List.nil_append]; omega) ?_
                    refine d_cut [(p : Int), 1, ((k : Int) + 1)] (by simp [cE2, sev, svl, cen] <;> omega) ?_
                    exact (by omega)
                · simp only [cCmp, cE2, sev, svl, cen, List.cons_append, List.nil_append] at h
                  first
                  | omega
                  | skip
                    refine d_row 0 (6 * p + k) (by simp only [cE2, sev, svl, cen, List.cons_append, List.nil_append]; omega) (by simp only [cE2, sev, svl, cen, List.cons_append, List.nil_append]; omega) (by omega) ?_
                    refine d_row 0 (6 * p + k) (by simp only [cE2, sev, svl, cen, List.cons_append, List.nil_append]; omega) (by simp only [cE2, sev, svl, cen, List.cons_append, List.nil_append]; omega) (by omega) ?_
                    refine d_br (fun h => ?_) (fun h => ?_)
                    · simp only [cCmp, cE2, sev, svl, cen, List.cons_append, List.nil_append] at h
                      first
                      | omega
                      | skip
                        refine d_rng (by simp only [clo, chi, cE2, sev, svl, cen, List.cons_append, List.nil_append]; omega) ?_
                        refine d_cut [(p : Int), 0, ((k : Int) + 1)] (by simp [cE2, sev, svl, cen] <;> omega) ?_
                        exact (by omega)
                    · simp only [cCmp, cE2, sev, svl, cen, List.cons_append, List.nil_append] at h
                      first
                      | omega
                      | skip
                        refine d_rng (by simp only [clo, chi, cE2, sev, svl, cen, List.cons_append, List.nil_append]; omega) ?_
                        refine d_cut [(p : Int), 1, ((k : Int) + 1)] (by simp [cE2, sev, svl, cen] <;> omega) ?_
                        exact (by omega)
    | succ m ih =>
      intro k hk h5 ha
      obtain ⟨c, hc⟩ := rGet (st := st) (k := k) (by omega)
      obtain ⟨e1, e2, e3⟩ := g.2 k c hc
      have nxt : M 29 0 (6 * p + k) = c.2.1 → (M 30 0 (6 * p + k) = -1 ∨ M 30 0 (6 * p + k) = c.2.2) → cEnds (cBG tm tf EX l dC dI cA ad scrS d) (fun rr MM => MM = M ∧ ((rr = [1] ∧ (A0)) ∨ (rr = [0] ∧ ¬ (A0)))) 90 gX10_doesAgree 23 [(p : Int), 1, ((k + 1 : Nat) : Int)] M := fun q1 q2 => ih (k + 1) (by omega) h5 (fun j c' hj hc' => by
        by_cases z : j = k
        · subst z
          cases hc.symm.trans hc'
          exact ⟨q1, q2⟩
        · exact ha j c' (by omega) hc')
      have no : (M 29 0 (6 * p + k) = c.2.1 → (M 30 0 (6 * p + k) = -1 ∨ M 30 0 (6 * p + k) = c.2.2) → False) → cEnds (cBG tm tf EX l dC dI cA ad scrS d) (fun rr MM => MM = M ∧ ((rr = [1] ∧ (A0)) ∨ (rr = [0] ∧ ¬ (A0)))) 90 gX10_doesAgree 23 [(p : Int), 0, ((k + 1 : Nat) : Int)] M := fun q => out (k + 1) (fun z => by
        rw [hA0] at z
        exact q (z.2 k c hc).1 (z.2 k c hc).2) (by omega)
      refine cEnds_at gX10_doesAgree_m23 rfl ?_
      refine d_row 0 p (by simp only [cE2, sev, svl, cen, List.cons_append, List.nil_append]; omega) (by simp only [cE2, sev, svl, cen, List.cons_append, List.nil_append]; omega) (by omega) ?_
      rw [h5]
      refine d_br (fun h => ?_) (fun h => ?_)
      · simp only [cCmp, cE2, sev, svl, cen, List.cons_append, List.nil_append] at h
        first
        | omega
        | skip
          exact d_ret [1] rfl (by decide) (by omega)
      · simp only [cCmp, cE2, sev, svl, cen, List.cons_append, List.nil_append] at h
        first
        | omega
        | skip
          refine d_br (fun h => ?_) (fun h => ?_)
          · simp only [cCmp, cE2, sev, svl, cen, List.cons_append, List.nil_append] at h
            omega
          · clear h
            refine d_rng (by simp only [clo, chi, cE2, sev, svl, cen, List.cons_append, List.nil_append]; omega) ?_
            refine d_rng (by simp only [clo, chi, cE2, sev, svl, cen, List.cons_append, List.nil_append]; omega) ?_
            refine d_row 0 (6 * p + k) (by simp only [cE2, sev, svl, cen, List.cons_append, List.nil_append]; omega) (by simp only [cE2, sev, svl, cen, List.cons_append, List.nil_append]; omega) (by omega) ?_
            refine d_row 0 (6 * p + k) (by simp only [cE2, sev, svl, cen, List.cons_append, List.nil_append]; omega) (by simp only [cE2, sev, svl, cen, List.cons_append, List.nil_append]; omega) (by omega) ?_
            rw [e2]
            refine d_br (fun h => ?_) (fun h => ?_)
            · simp only [cCmp, cE2, sev, svl, cen, List.cons_append, List.nil_append] at h
              first
              | omega
              | skip
                refine d_rng (by simp only [clo, chi, cE2, sev, svl, cen, List.cons_append, List.nil_append]; omega) ?_
                refine d_cut [(p : Int), 0, ((k + 1 : Nat) : Int)] (by simp [cE2, sev, svl, cen] <;> omega) ?_
                exact no (fun z1 z2 => by omega)
            · simp only [cCmp, cE2, sev, svl, cen, List.cons_append, List.nil_append] at h
              first
              | omega
              | skip
                refine d_row 0 (6 * p + k) (by simp only [cE2, sev, svl, cen, List.cons_append, List.nil_append]; omega) (by simp only [cE2, sev, svl, cen, List.cons_append, List.nil_append]; omega) (by omega) ?_
                refine d_br (fun h => ?_) (fun h => ?_)
                · simp only [cCmp, cE2, sev, svl, cen, List.cons_append, List.nil_append] at h
                  first
                  | omega
                  | skip
                    refine d_rng (by simp only [clo, chi, cE2, sev, svl, cen, List.cons_append, List.nil_append]; omega) ?_
                    refine d_cut [(p : Int), 1, ((k + 1 : Nat) : Int)] (by simp [cE2, sev, svl, cen] <;> omega) ?_
                    exact nxt (by omega) (by omega)
                · simp only [cCmp, cE2, sev, svl, cen, List.cons_append, List.nil_append] at h
                  first
                  | omega
                  | skip
                    refine d_row 0 (6 * p + k) (by simp only [cE2, sev, svl, cen, List.cons_append, List.nil_append]; omega) (by simp only [cE2, sev, svl, cen, List.cons_append, List.nil_append]; omega) (by omega) ?_
                    refine d_row 0 (6 * p + k) (by simp only [cE2, sev, svl, cen, List.cons_append, List.nil_append]; omega) (by simp only [cE2, sev, svl, cen, List.cons_append, List.nil_append]; omega) (by omega) ?_
                    rw [e3]
                    refine d_br (fun h => ?_) (fun h => ?_)
                    · simp only [cCmp, cE2, sev, svl, cen, List.cons_append, List.nil_append] at h
                      first
                      | omega
                      | skip
                        refine d_rng (by simp only [clo, chi, cE2, sev, svl, cen, List.cons_append, List.nil_append]; omega) ?_
                        refine d_cut [(p : Int), 0, ((k + 1 : Nat) : Int)] (by simp [cE2, sev, svl, cen] <;> omega) ?_
                        exact no (fun z1 z2 => by omega)
                    · simp only [cCmp, cE2, sev, svl, cen, List.cons_append, List.nil_append] at h
                      first
                      | omega
                      | skip
                        refine d_rng (by simp only [clo, chi, cE2, sev, svl, cen, List.cons_append, List.nil_append]; omega) ?_
                        refine d_cut [(p : Int), 1, ((k + 1 : Nat) : Int)] (by simp [cE2, sev, svl, cen] <;> omega) ?_
                        exact nxt (by omega) (by omega)
  refine cEnds_at gX10_doesAgree_m0 rfl ?_
  refine d_row 0 p (by simp only [cE2, sev, svl, cen, List.cons_append, List.nil_append]; omega) (by simp only [cE2, sev, svl, cen, List.cons_append, List.nil_append]; omega) (by omega) ?_
  rw [g0]
  refine d_row 0 p (by simp only [cE2, sev, svl, cen, List.cons_append, List.nil_append]; omega) (by simp only [cE2, sev, svl, cen, List.cons_append, List.nil_append]; omega) (by omega) ?_
  refine d_br (fun h => ?_) (fun h => ?_)
  · simp only [cCmp, cE2, sev, svl, cen, List.cons_append, List.nil_append] at h
    first
    | omega
    | skip
      refine d_cut [(p : Int), 0, ((0 : Nat) : Int)] (by simp [cE2, sev, svl, cen] <;> omega) ?_
      exact out 0 (fun z => by rw [hA0] at z; have := z.1; omega) (by omega)
  · simp only [cCmp, cE2, sev, svl, cen, List.cons_append, List.nil_append] at h
    first
    | omega
    | skip
      refine d_cut [(p : Int), 1, ((0 : Nat) : Int)] (by simp [cE2, sev, svl, cen] <;> omega) ?_
      exact loop n 0 (by omega) (by omega) (fun j c hj => absurd hj (Nat.not_lt_zero j))
theorem m_agrees (hp : cPl tm tc tf EX) {Z : RZT} {B : Nat → List OLn} {w : Int} {M : SMem} (hI : sI tg M) (hZ : rZr Z M) (hZn : ∀ p, -1 ≤ Z.2.1 p 0 ∧ Z.2.1 p 0 ≤ 7) (hB : ∀ r, r < 6 → oMl M r (B r)) (h5 : mS5 M) : cBG tm tf EX l dC dI cA ad scrS (d + 6) kX10_agrees [(2, 1, 0), (0, 0, w)] M (fun rr MM => rr = [rAgr Z B (fun p st => rAs (M 27 0 p) (fun k => M 29 0 (6 * p + k)) (fun k => M 30 0 (6 * p + k)) st) w] ∧ mKX M MM) := by
  have i0 : sI tg (supd M 1 0 0 0) := wI hI (lo := 0) (hi := 1) rfl ⟨by omega, by omega⟩
  have hW := rRun_wf (B := B) hZn (fun r hr => ⟨(hB r hr).2.1, (hB r hr).2.2.1⟩)
  have h6 : ∀ p, ((rRun Z B 6).1 p).length ≤ 6 := fun p => ((hW 6 (by omega)).1 p).1
  have hs := hW 6 (by omega)
  have bs := rSm_b h6
  have v0 : w = 0 → rAgr Z B (fun p st => rAs (M 27 0 p) (fun k => M 29 0 (6 * p + k)) (fun k => M 30 0 (6 * p + k)) st) w = wBt (wDc (fun p => Z.1 p 0 ≠ 0 ∧ (fun p st => rAs (M 27 0 p) (fun k => M 29 0 (6 * p + k)) (fun k => M 30 0 (6 * p + k)) st) p ((rRun Z B 6).1 p))) 12 := fun h => if_pos h
  have v1 : w = 1 → rAgr Z B (fun p st => rAs (M 27 0 p) (fun k => M 29 0 (6 * p + k)) (fun k => M 30 0 (6 * p + k)) st) w = (rRun Z B 6).2 := fun h => by unfold rAgr; rw [if_neg (by omega), if_pos h]
  have v2 : w = 2 → rAgr Z B (fun p st => rAs (M 27 0 p) (fun k => M 29 0 (6 * p + k)) (fun k => M 30 0 (6 * p + k)) st) w = rSm (rRun Z B 6).1 12 := fun h => by unfold rAgr; rw [if_neg (by omega), if_neg (by omega), if_pos h]
  have v3 : ¬ (w = 0 ∨ w = 1 ∨ w = 2) → rAgr Z B (fun p st => rAs (M 27 0 p) (fun k => M 29 0 (6 * p + k)) (fun k => M 30 0 (6 * p + k)) st) w = -1 := fun h => by unfold rAgr; rw [if_neg (by omega), if_neg (by omega), if_neg (by omega)]
  refine cMeth (v := [w]) (Fd := 90) hp (by decide) gX10_agrees_ok gX10_agrees_m0 (by simp [cAs, cE2, sev, svl, cen]) ?_
  suffices H : ∀ Po : List Int → SMem → Prop, (∀ rr MM, (rr = [rAgr Z B (fun p st => rAs (M 27 0 p) (fun k => M 29 0 (6 * p + k)) (fun k => M 30 0 (6 * p + k)) st) w] ∧ mKX M MM) → Po rr MM) → cEnds (cBG tm tf EX l dC dI cA ad scrS (d + 5)) Po 90 gX10_agrees 0 [w] M from H _ (fun _ _ h => h)
  intro Po hPo
  have loop : ∀ (M1 : SMem), mRP Z B 6 (supd M 1 0 0 0) M1 → ∀ (m k : Nat), k + m = 12 → cEnds (cBG tm tf EX l dC dI cA ad scrS (d + 5)) Po 90 gX10_agrees 17 [w, wBt (wDc (fun p => Z.1 p 0 ≠ 0 ∧ (fun p st => rAs (M 27 0 p) (fun k => M 29 0 (6 * p + k)) (fun k => M 30 0 (6 * p + k)) st) p ((rRun Z B 6).1 p))) k, rSm (rRun Z B 6).1 k, (k : Int)] M1 := by
    intro M1 W m
    have K : mKX M M1 := mKX_R W
    have e50 := W.2.2.2.2
    have eM : ∀ f j i, f = 22 ∨ f = 27 ∨ f = 29 ∨ f = 30 → M1 f j i = M f j i := fun f j i hf => K.2.1 f j i (by simp only [List.mem_cons, List.not_mem_nil, or_false, not_or]; omega) (by omega)
    induction m with
    | zero =>
      intro k hk
      have hk : k = 12 := hk
      subst hk
      have bb := wBt_r (wDc (fun p => Z.1 p 0 ≠ 0 ∧ (fun p st => rAs (M 27 0 p) (fun k => M 29 0 (6 * p + k)) (fun k => M 30 0 (6 * p + k)) st) p ((rRun Z B 6).1 p))) 12
      obtain ⟨V, hV⟩ : ∃ V, V = wBt (wDc (fun p => Z.1 p 0 ≠ 0 ∧ (fun p st => rAs (M 27 0 p) (fun k => M 29 0 (6 * p + k)) (fun k => M 30 0 (6 * p + k)) st) p ((rRun Z B 6).1 p))) 12 := ⟨_, rfl⟩
      rw [← hV] at bb v0 ⊢
      have b12 := bs 12
      refine cEnds_at gX10_agrees_m17 rfl ?_
      refine d_br (fun h => ?_) (fun h => ?_)
      · simp only [cCmp, cE2, sev, svl, cen, List.cons_append, List.nil_append] at h
        first
        | omega
        | skip
          refine d_br (fun h => ?_) (fun h => ?_)
          · simp only [cCmp, cE2, sev, svl, cen, List.cons_append, List.nil_append] at h
            first
            | omega
            | skip
              refine d_br (fun h => ?_) (fun h => ?_)
              · simp only [cCmp, cE2, sev, svl, cen, List.cons_append, List.nil_append] at h
                first
                | omega
                | skip
                  refine d_br (fun h => ?_) (fun h => ?_)
                  · simp only [cCmp, cE2, sev, svl, cen, List.cons_append, List.nil_append] at h
                    first
                    | omega
                    | skip
                      exact d_ret [(-1)] rfl (by decide) (hPo _ _ ⟨by rw [v3 (by omega)], K⟩)
                  · simp only [cCmp, cE2, sev, svl, cen, List.cons_append, List.nil_append] at h
                    first
                    | omega
                    | skip
                      exact wret1 (rSm (rRun Z B 6).1 12) (by simp only [cE2, sev, svl, cen, List.cons_append, List.nil_append]; omega) (by omega) (hPo _ _ ⟨by rw [v2 (by omega)], K⟩)
              · simp only [cCmp, cE2, sev, svl, cen, List.cons_append, List.nil_append] at h
                first
                | omega
                | skip
                  refine d_fld 0 (by simp only [cE2, sev, svl, cen, List.cons_append, List.nil_append]; omega) ?_
                  rw [e50]
                  exact wret1 ((rRun Z B 6).2) (by simp only [cE2, sev, svl, cen, List.cons_append, List.nil_append]; omega) (by omega) (hPo _ _ ⟨by rw [v1 (by omega)], K⟩)
          · simp only [cCmp, cE2, sev, svl, cen, List.cons_append, List.nil_append] at h
            first
            | omega
            | skip
              exact wret1 V (by simp only [cE2, sev, svl, cen, List.cons_append, List.nil_append]; omega) (by omega) (hPo _ _ ⟨by rw [v0 (by omega)], K⟩)
      · simp only [cCmp, cE2, sev, svl, cen, List.cons_append, List.nil_append] at h
        first
        | omega
        | skip
          refine d_row 0 (12) (by simp only [cE2, sev, svl, cen, List.cons_append, List.nil_append]; omega) (by simp only [cE2, sev, svl, cen, List.cons_append, List.nil_append]; omega) (by omega) ?_
          refine d_br (fun h => ?_) (fun h => ?_)
          · simp only [cCmp, cE2, sev, svl, cen, List.cons_append, List.nil_append] at h
            first
            | omega
            | skip
              refine d_opw V 0 (by simp [cE2, sev, svl, cen] <;> omega) (by simp [cE2, sev, svl, cen] <;> omega) ?_
              refine d_row 0 (12) (by simp only [cE2, sev, svl, cen, List.cons_append, List.nil_append]; omega) (by simp only [cE2, sev, svl, cen, List.cons_append, List.nil_append]; omega) (by omega) ?_
              refine d_rng (by simp only [clo, chi, cE2, sev, svl, cen, List.cons_append, List.nil_append]; omega) ?_
              refine d_rng (by simp only [clo, chi, cE2, sev, svl, cen, List.cons_append, List.nil_append]; omega) ?_
              refine d_cut [w, (cfn 1 V 0), ((rSm (rRun Z B 6).1 12) + (M1 47 0 (12))), (((12 : Nat) : Int) + 1)] (by simp [cE2, sev, svl, cen] <;> omega) ?_
              exact (by omega)
          · simp only [cCmp, cE2, sev, svl, cen, List.cons_append, List.nil_append] at h
            first
            | omega
            | skip
              omega
    | succ m ih =>
      intro k hk
      have ih := ih (k + 1) (by omega)
      have b := bs k
      have b6 := h6 k
      rw [show rSm (rRun Z B 6).1 (k + 1) = rSm (rRun Z B 6).1 k + (((rRun Z B 6).1 k).length : Int) from rfl] at ih
      have yes : (Z.1 k 0 ≠ 0 ∧ (fun p st => rAs (M 27 0 p) (fun k => M 29 0 (6 * p + k)) (fun k => M 30 0 (6 * p + k)) st) k ((rRun Z B 6).1 k)) → wBt (wDc (fun p => Z.1 p 0 ≠ 0 ∧ (fun p st => rAs (M 27 0 p) (fun k => M 29 0 (6 * p + k)) (fun k => M 30 0 (6 * p + k)) st) p ((rRun Z B 6).1 p))) (k + 1) = cfn 1 (wBt (wDc (fun p => Z.1 p 0 ≠ 0 ∧ (fun p st => rAs (M 27 0 p) (fun k => M 29 0 (6 * p + k)) (fun k => M 30 0 (6 * p + k)) st) p ((rRun Z B 6).1 p))) k) (cfn 2 1 (k : Int)) := fun h => wBt_y (wDc_y h)
      have no : ¬ (Z.1 k 0 ≠ 0 ∧ (fun p st => rAs (M 27 0 p) (fun k => M 29 0 (6 * p + k)) (fun k => M 30 0 (6 * p + k)) st) k ((rRun Z B 6).1 k)) → wBt (wDc (fun p => Z.1 p 0 ≠ 0 ∧ (fun p st => rAs (M 27 0 p) (fun k => M 29 0 (6 * p + k)) (fun k => M 30 0 (6 * p + k)) st) p ((rRun Z B 6).1 p))) (k + 1) = wBt (wDc (fun p => Z.1 p 0 ≠ 0 ∧ (fun p st => rAs (M 27 0 p) (fun k => M 29 0 (6 * p + k)) (fun k => M 30 0 (6 * p + k)) st) p ((rRun Z B 6).1 p))) k := fun h => wBt_n (wDc_n h)
      have c0 := cfn1_0 (wBt_r (wDc (fun p => Z.1 p 0 ≠ 0 ∧ (fun p st => rAs (M 27 0 p) (fun k => M 29 0 (6 * p + k)) (fun k => M 30 0 (6 * p + k)) st) p ((rRun Z B 6).1 p))) k)
      obtain ⟨X, hX⟩ : ∃ X, X = wBt (wDc (fun p => Z.1 p 0 ≠ 0 ∧ (fun p st => rAs (M 27 0 p) (fun k => M 29 0 (6 * p + k)) (fun k => M 30 0 (6 * p + k)) st) p ((rRun Z B 6).1 p))) k := ⟨_, rfl⟩
      rw [← hX] at yes no c0 ⊢
      have cA : cBG tm tf EX l dC dI cA ad scrS (d + 5) kX10_doesAgree [(2, 1, 0), (0, 0, (k : Int))] M1 (fun rr MM => MM = M1 ∧ ((rr = [1] ∧ (fun p st => rAs (M 27 0 p) (fun k => M 29 0 (6 * p + k)) (fun k => M 30 0 (6 * p + k)) st) k ((rRun Z B 6).1 k)) ∨ (rr = [0] ∧ ¬ (fun p st => rAs (M 27 0 p) (fun k => M 29 0 (6 * p + k)) (fun k => M 30 0 (6 * p + k)) st) k ((rRun Z B 6).1 k)))) := by
        have w9 := m_doesAgree (EX := EX) (l := l) (dC := dC) (dI := dI) (cA := cA) (ad := ad) (scrS := scrS) (d := d + 4) hp (p := k) (st := (rRun Z B 6).1 k) (M := M1) (by omega) (h6 k) W.1 (W.2.2.2.1 k (by omega))
        refine oBG_post w9 (fun rr MM h => ⟨h.1, ?_⟩)
        have e := rAs_cg (N := M 27 0 k) (N' := M1 27 0 k) (D := fun i => M 29 0 (6 * k + i)) (D' := fun i => M1 29 0 (6 * k + i)) (E := fun i => M 30 0 (6 * k + i)) (E' := fun i => M1 30 0 (6 * k + i)) (st := (rRun Z B 6).1 k) (eM 27 0 k (by omega)) (fun i _ => ⟨eM 29 0 _ (by omega), eM 30 0 _ (by omega)⟩)
        rcases h.2 with ⟨q1, q2⟩ | ⟨q1, q2⟩
        · exact Or.inl ⟨q1, e.mp q2⟩
        · exact Or.inr ⟨q1, fun z => q2 (e.mpr z)⟩
      have e22 : M1 22 0 k = Z.1 k 0 := (eM 22 0 k (by omega)).trans (hZ.1 k (by omega)).1
      have e47 : M1 47 0 k = (((rRun Z B 6).1 k).length : Int) := (W.2.2.2.1 k (by omega)).1
      refine cEnds_at gX10_agrees_m17 rfl ?_
      refine d_br (fun h => ?_) (fun h => ?_)
      · simp only [cCmp, cE2, sev, svl, cen, List.cons_append, List.nil_append] at h
        first
        | omega
        | skip
          refine d_br (fun h => ?_) (fun h => ?_)
          · simp only [cCmp, cE2, sev, svl, cen, List.cons_append, List.nil_append] at h
            first
            | omega
            | skip
              refine d_br (fun h => ?_) (fun h => ?_)
              · simp only [cCmp, cE2, sev, svl, cen, List.cons_append, List.nil_append] at h
                first
                | omega
                | skip
                  refine d_br (fun h => ?_) (fun h => ?_)
                  · simp only [cCmp, cE2, sev, svl, cen, List.cons_append, List.nil_append] at h
                    first
                    | omega
                    | skip
                      exact d_ret [(-1)] rfl (by decide) (by omega)
                  · simp only [cCmp, cE2, sev, svl, cen, List.cons_append, List.nil_append] at h
                    first
                    | omega
                    | skip
                      exact wret1 (rSm (rRun Z B 6).1 k) (by simp only [cE2, sev, svl, cen, List.cons_append, List.nil_append]; omega) (by omega) (by omega)
              · simp only [cCmp, cE2, sev, svl, cen, List.cons_append, List.nil_append] at h
                first
                | omega
                | skip
                  refine d_fld 0 (by simp only [cE2, sev, svl, cen, List.cons_append, List.nil_append]; omega) ?_
                  rw [e50]
                  exact wret1 ((rRun Z B 6).2) (by simp only [cE2, sev, svl, cen, List.cons_append, List.nil_append]; omega) (by omega) (by omega)
          · simp only [cCmp, cE2, sev, svl, cen, List.cons_append, List.nil_append] at h
            first
            | omega
            | skip
              exact wret1 X (by simp only [cE2, sev, svl, cen, List.cons_append, List.nil_append]; omega) (by omega) (by omega)
      · simp only [cCmp, cE2, sev, svl, cen, List.cons_append, List.nil_append] at h
        first
        | omega
        | skip
          refine d_row 0 k (by simp only [cE2, sev, svl, cen, List.cons_append, List.nil_append]; omega) (by simp only [cE2, sev, svl, cen, List.cons_append, List.nil_append]; omega) (by omega) ?_
          rw [e22]
          refine d_br (fun h => ?_) (fun h => ?_)
          · simp only [cCmp, cE2, sev, svl, cen, List.cons_append, List.nil_append] at h
            first
            | omega
            | skip
              refine d_opw X 0 (by simp [cE2, sev, svl, cen] <;> omega) (by simp [cE2, sev, svl, cen] <;> omega) ?_
              rw [c0]
              refine d_row 0 k (by simp only [cE2, sev, svl, cen, List.cons_append, List.nil_append]; omega) (by simp only [cE2, sev, svl, cen, List.cons_append, List.nil_append]; omega) (by omega) ?_
              rw [e47]
              refine d_rng (by simp only [clo, chi, cE2, sev, svl, cen, List.cons_append, List.nil_append]; omega) ?_
              refine d_rng (by simp only [clo, chi, cE2, sev, svl, cen, List.cons_append, List.nil_append]; omega) ?_
              rw [no (fun z => by omega)] at ih
              refine d_cut [w, X, rSm (rRun Z B 6).1 k + (((rRun Z B 6).1 k).length : Int), ((k + 1 : Nat) : Int)] (by simp [cE2, sev, svl, cen] <;> omega) ?_
              exact ih
          · simp only [cCmp, cE2, sev, svl, cen, List.cons_append, List.nil_append] at h
            first
            | omega
            | skip
              refine d_call (cA) (by simp [cAs, cE2, sev, svl, cen] <;> omega) ?_
              intro rr M' hq
              obtain ⟨hM', hq⟩ := hq
              rw [hM']
              rcases hq with ⟨rfl, q5⟩ | ⟨rfl, q5⟩
              · refine ⟨rfl, ?_⟩
                refine d_br (fun h => ?_) (fun h => ?_)
                · simp only [cCmp, cE2, sev, svl, cen, List.cons_append, List.nil_append] at h
                  omega
                · clear h
                  refine d_opw 1 (k : Int) (by simp [cE2, sev, svl, cen] <;> omega) (by simp [cE2, sev, svl, cen] <;> omega) ?_
                  refine d_opw X (cfn 2 1 (k : Int)) (by simp [cE2, sev, svl, cen] <;> omega) (by simp [cE2, sev, svl, cen] <;> omega) ?_
                  refine d_row 0 k (by simp only [cE2, sev, svl, cen, List.cons_append, List.nil_append]; omega) (by simp only [cE2, sev, svl, cen, List.cons_append, List.nil_append]; omega) (by omega) ?_
                  rw [e47]
                  refine d_rng (by simp only [clo, chi, cE2, sev, svl, cen, List.cons_append, List.nil_append]; omega) ?_
                  refine d_rng (by simp only [clo, chi, cE2, sev, svl, cen, List.cons_append, List.nil_append]; omega) ?_
                  rw [yes ⟨by omega, q5⟩] at ih
                  refine d_cut [w, cfn 1 X (cfn 2 1 (k : Int)), rSm (rRun Z B 6).1 k + (((rRun Z B 6).1 k).length : Int), ((k + 1 : Nat) : Int)] (by simp [cE2, sev, svl, cen] <;> omega) ?_
                  exact ih
              · refine ⟨rfl, ?_⟩
                refine d_br (fun h => ?_) (fun h => ?_)
                · clear h
                  refine d_opw X 0 (by simp [cE2, sev, svl, cen] <;> omega) (by simp [cE2, sev, svl, cen] <;> omega) ?_
                  rw [c0]
                  refine d_row 0 k (by simp only [cE2, sev, svl, cen, List.cons_append, List.nil_append]; omega) (by simp only [cE2, sev, svl, cen, List.cons_append, List.nil_append]; omega) (by omega) ?_
                  rw [e47]
                  refine d_rng (by simp only [clo, chi, cE2, sev, svl, cen, List.cons_append, List.nil_append]; omega) ?_
                  refine d_rng (by simp only [clo, chi, cE2, sev, svl, cen, List.cons_append, List.nil_append]; omega) ?_
                  rw [no (fun z => q5 z.2)] at ih
                  refine d_cut [w, X, rSm (rRun Z B 6).1 k + (((rRun Z B 6).1 k).length : Int), ((k + 1 : Nat) : Int)] (by simp [cE2, sev, svl, cen] <;> omega) ?_
                  exact ih
                · simp only [cCmp, cE2, sev, svl, cen, List.cons_append, List.nil_append] at h
                  omega
  refine cEnds_at gX10_agrees_m0 rfl ?_
  refine d_put 0 0 (by simp only [cE2, sev, svl, cen, List.cons_append, List.nil_append]; omega) (by simp only [cE2, sev, svl, cen, List.cons_append, List.nil_append]; omega) ?_
  refine d_call (m_runs (d := d) hp (Z := Z) (B := B) (L := 5) i0 (m0_Z hZ) hZn (m0_B hB) (m0_5 h5) (by omega)) (by simp [cAs, cE2, sev, svl, cen] <;> omega) ?_
  rintro rr M1 ⟨rfl, W⟩
  refine ⟨rfl, ?_⟩
  refine d_cut [w, 0, 0, ((0 : Nat) : Int)] (by simp [cE2, sev, svl, cen] <;> omega) ?_
  exact loop M1 W 12 0 (by omega)
def rHit (ls : List OLn) (st : List RC) (k : Nat) : Prop := ∃ (j : Nat) (q : OLn), j < k ∧ ls[j]? = some q ∧ (q.1 = 0 ∨ q.1 = 1) ∧ st.length ≠ 0 ∧ rTop st = q.2.1
theorem rHit_s {ls : List OLn} {st : List RC} {k : Nat} {q : OLn} (hq : ls[k]? = some q) : rHit ls st (k + 1) ↔ (rHit ls st k ∨ ((q.1 = 0 ∨ q.1 = 1) ∧ st.length ≠ 0 ∧ rTop st = q.2.1)) := by
  constructor
  · rintro ⟨j, q', h1, h2, h3⟩
    by_cases z : j = k
    · subst z
      cases hq.symm.trans h2
      exact Or.inr h3
    · exact Or.inl ⟨j, q', by omega, h2, h3⟩
  · rintro (⟨j, q', h1, h2, h3⟩ | h3)
    · exact ⟨j, q', by omega, h2, h3⟩
    · exact ⟨k, q, by omega, hq, h3⟩
set_option maxHeartbeats 1000000 in
theorem m_missed (hp : cPl tm tc tf EX) {Z : RZT} {B : Nat → List OLn} {a : Int} {M : SMem} (hI : sI tg M) (hZ : rZr Z M) (hZn : ∀ p, -1 ≤ Z.2.1 p 0 ∧ Z.2.1 p 0 ≤ 7) (hB : ∀ r, r < 6 → oMl M r (B r)) (h5 : mS5 M) : cBG tm tf EX l dC dI cA ad scrS (d + 6) kX10_missed [(2, 1, 0), (0, 0, a)] M (fun rr MM => rr = [rMissed Z B a] ∧ mKX M MM) := by
  have i0 : sI tg (supd M 1 0 0 0) := wI hI (lo := 0) (hi := 1) rfl ⟨by omega, by omega⟩
  have hW := rRun_wf (B := B) hZn (fun r hr => ⟨(hB r hr).2.1, (hB r hr).2.2.1⟩)
  have no : ¬ (0 ≤ a ∧ a < 6) → rMissed Z B a = -1 := fun h => if_neg h
  refine cMeth (v := [a]) (Fd := 90) hp (by decide) gX10_missed_ok gX10_missed_m0 (by simp [cAs, cE2, sev, svl, cen]) ?_
  suffices H : ∀ Po : List Int → SMem → Prop, (∀ rr MM, (rr = [rMissed Z B a] ∧ mKX M MM) → Po rr MM) → cEnds (cBG tm tf EX l dC dI cA ad scrS (d + 5)) Po 90 gX10_missed 0 [a] M from H _ (fun _ _ h => h)
  intro Po hPo
  by_cases ha : 0 ≤ a ∧ a < 6
  · obtain ⟨r, rfl⟩ : ∃ r : Nat, a = (r : Int) := ⟨a.toNat, by omega⟩
    have yes : rMissed Z B (r : Int) = wBt (wDc (fun p => rTop ((rRun Z B (r + 1)).1 p) ≠ -1 ∧ rAg (B r) (rTop ((rRun Z B (r + 1)).1 p)))) 12 := by
      unfold rMissed
      rw [if_pos ha]
      rfl
    have hr : r < 6 := by omega
    have h6 := (hW (r + 1) (by omega)).1
    obtain ⟨e37, h12, hk9, -⟩ := hB r hr
    have l25 : ∀ (M1 : SMem), mRP Z B (r + 1) (supd M 1 0 0 0) M1 → ∀ (m k : Nat), k + m = 12 → cEnds (cBG tm tf EX l dC dI cA ad scrS (d + 5)) Po 90 gX10_missed 25 [(r : Int), wBt (wDc (fun p => rTop ((rRun Z B (r + 1)).1 p) ≠ -1 ∧ rAg (B r) (rTop ((rRun Z B (r + 1)).1 p)))) k, (k : Int)] M1 := by
      intro M1 W m
      have K : mKX M M1 := mKX_R W
      have e37' : M1 37 0 r = ((B r).length : Int) := (K.2.1 37 0 r (by decide) (by omega)).trans e37
      have eL := mXf_L W.2.1 (m0_B hB r hr)
      induction m with
      | zero =>
        intro k hk
        have hk : k = 12 := hk
        subst hk
        have bb := wBt_r (wDc (fun p => rTop ((rRun Z B (r + 1)).1 p) ≠ -1 ∧ rAg (B r) (rTop ((rRun Z B (r + 1)).1 p)))) 12
        refine cEnds_at gX10_missed_m25 rfl ?_
        refine d_br (fun h => ?_) (fun h => ?_)
        · exact wret1 (wBt (wDc (fun p => rTop ((rRun Z B (r + 1)).1 p) ≠ -1 ∧ rAg (B r) (rTop ((rRun Z B (r + 1)).1 p)))) 12) (by simp only [cE2, sev, svl, cen, List.cons_append, List.nil_append]; omega) (by omega) (hPo _ _ ⟨by rw [yes], K⟩)
        · simp only [cCmp, cE2, sev, svl, cen, List.cons_append, List.nil_append] at h
          omega
      | succ m ih =>
        intro k hk
        have ih := ih (k + 1) (by omega)
        obtain ⟨st, hst⟩ : ∃ st, st = (rRun Z B (r + 1)).1 k := ⟨_, rfl⟩
        have w := h6 k
        have u1 := W.2.2.2.1 k (by omega)
        have bt := rWf_top w
        rw [← hst] at w u1 bt
        have hall : rHit (B r) st (B r).length ↔ (rTop st ≠ -1 ∧ rAg (B r) (rTop st)) := by
          constructor
          · rintro ⟨j, q, h1, h2, h3, h4, h5⟩
            have qk := hk9 q (by obtain ⟨x, y⟩ := List.getElem?_eq_some_iff.mp h2; rw [← y]; exact List.getElem_mem x)
            exact ⟨by have := qk.2.2.2.1; omega, j, q, h2, by omega, h5.symm⟩
          · rintro ⟨h1, j, q, h2, h3, h4⟩
            refine ⟨j, q, (List.getElem?_eq_some_iff.mp h2).1, h2, by omega, fun z => h1 ?_, h4.symm⟩
            rw [List.length_eq_zero_iff.mp z]
            rfl
        have c0 := cfn1_0 (wBt_r (wDc (fun p => rTop ((rRun Z B (r + 1)).1 p) ≠ -1 ∧ rAg (B r) (rTop ((rRun Z B (r + 1)).1 p)))) k)
        have fin : wBt (wDc (fun p => rTop ((rRun Z B (r + 1)).1 p) ≠ -1 ∧ rAg (B r) (rTop ((rRun Z B (r + 1)).1 p)))) (k + 1) = pIf (rHit (B r) st (B r).length) (cfn 1 (wBt (wDc (fun p => rTop ((rRun Z B (r + 1)).1 p) ≠ -1 ∧ rAg (B r) (rTop ((rRun Z B (r + 1)).1 p)))) k) (cfn 2 1 (k : Int))) (wBt (wDc (fun p => rTop ((rRun Z B (r + 1)).1 p) ≠ -1 ∧ rAg (B r) (rTop ((rRun Z B (r + 1)).1 p)))) k) := by
          by_cases z : rHit (B r) st (B r).length
          · rw [pIf_y z]
            exact wBt_y (wDc_y (by rw [← hst]; exact hall.mp z))
          · rw [pIf_n z]
            exact wBt_n (wDc_n (by rw [← hst]; exact fun y => z (hall.mpr y)))
        rw [fin] at ih
        obtain ⟨X, hX⟩ : ∃ X, X = wBt (wDc (fun p => rTop ((rRun Z B (r + 1)).1 p) ≠ -1 ∧ rAg (B r) (rTop ((rRun Z B (r + 1)).1 p)))) k := ⟨_, rfl⟩
        obtain ⟨bt1, hbt1⟩ : ∃ bt1, bt1 = cfn 2 1 (k : Int) := ⟨_, rfl⟩
        rw [← hX] at ih c0 ⊢
        rw [← hbt1] at ih
        have cX : cfn 1 (cfn 1 X bt1) 0 = cfn 1 X bt1 := cfn1_0 (k32 _)
        have e47 : M1 47 0 k = (st.length : Int) := u1.1
        have l37 : ∀ (n j : Nat), j + n = (B r).length → cEnds (cBG tm tf EX l dC dI cA ad scrS (d + 5)) Po 90 gX10_missed 37 [(r : Int), pIf (rHit (B r) st j) (cfn 1 X bt1) X, (k : Int), ((12 * r + j : Nat) : Int)] M1 := by
          intro n
          induction n with
          | zero =>
            intro j hj
            have hj : j = (B r).length := hj
            rw [hj]
            refine cEnds_at gX10_missed_m37 rfl ?_
            refine d_rng (by simp only [clo, chi, cE2, sev, svl, cen, List.cons_append, List.nil_append]; omega) ?_
            refine d_row 0 r (by simp only [cE2, sev, svl, cen, List.cons_append, List.nil_append]; omega) (by simp only [cE2, sev, svl, cen, List.cons_append, List.nil_append]; omega) (by omega) ?_
            rw [e37']
            refine d_rng (by simp only [clo, chi, cE2, sev, svl, cen, List.cons_append, List.nil_append]; omega) ?_
            refine d_br (fun h => ?_) (fun h => ?_)
            · refine d_rng (by simp only [clo, chi, cE2, sev, svl, cen, List.cons_append, List.nil_append]; omega) ?_
              refine d_cut [(r : Int), pIf (rHit (B r) st (B r).length) (cfn 1 X bt1) X, ((k + 1 : Nat) : Int)] (by simp [cE2, sev, svl, cen] <;> omega) ?_
              exact ih
            · simp only [cCmp, cE2, sev, svl, cen, List.cons_append, List.nil_append] at h
              omega
          | succ n ihn =>
            intro j hj
            obtain ⟨q, hq⟩ : ∃ q, (B r)[j]? = some q := ⟨_, List.getElem?_eq_getElem (by omega)⟩
            have qk := hk9 q (by obtain ⟨x, y⟩ := List.getElem?_eq_some_iff.mp hq; rw [← y]; exact List.getElem_mem x)
            obtain ⟨t1, t2, t3, -⟩ := eL.2.2.2 j q hq
            have hs := rHit_s (st := st) hq
            have ihn := ihn (j + 1) (by omega)
            obtain ⟨jj, hjj⟩ : ∃ jj, jj = 12 * r + j := ⟨_, rfl⟩
            rw [← hjj] at t2 t3 ⊢
            have n120 : ∀ Y : Int, Y = pIf (rHit (B r) st (j + 1)) (cfn 1 X bt1) X → cEnds (cBG tm tf EX l dC dI cA ad scrS (d + 5)) Po 90 gX10_missed 120 [(r : Int), Y, (k : Int), (jj : Int)] M1 := fun Y hY => by
              refine cEnds_at gX10_missed_m120 rfl ?_
              refine d_rng (by simp only [clo, chi, cE2, sev, svl, cen, List.cons_append, List.nil_append]; omega) ?_
              refine d_cut [(r : Int), Y, (k : Int), ((12 * r + (j + 1) : Nat) : Int)] (by simp [cE2, sev, svl, cen] <;> omega) ?_
              rw [hY]
              exact ihn
            obtain ⟨V, hV⟩ : ∃ V, V = pIf (rHit (B r) st j) (cfn 1 X bt1) X := ⟨_, rfl⟩
            have V0 : cfn 1 V 0 = V := by
              rw [hV]
              by_cases z : rHit (B r) st j
              · rw [pIf_y z]; exact cX
              · rw [pIf_n z]; exact c0
            have V1 : cfn 1 V bt1 = cfn 1 X bt1 := by
              rw [hV]
              by_cases z : rHit (B r) st j
              · rw [pIf_y z]; exact cfn1_11
              · rw [pIf_n z]
            have same : ¬ ((q.1 = 0 ∨ q.1 = 1) ∧ st.length ≠ 0 ∧ rTop st = q.2.1) → V = pIf (rHit (B r) st (j + 1)) (cfn 1 X bt1) X := fun h => by
              rw [hV]
              exact pIf_cg ⟨fun z => hs.mpr (Or.inl z), fun z => (hs.mp z).elim id (fun y => absurd y h)⟩
            have more : ((q.1 = 0 ∨ q.1 = 1) ∧ st.length ≠ 0 ∧ rTop st = q.2.1) → cfn 1 V bt1 = pIf (rHit (B r) st (j + 1)) (cfn 1 X bt1) X := fun h => by
              rw [V1, pIf_y (hs.mpr (Or.inr h))]
            rw [← hV]
            have l81 : ∀ aw : Int, (aw = 1 ∧ (q.1 = 0 ∨ q.1 = 1)) ∨ (aw = 0 ∧ ¬ (q.1 = 0 ∨ q.1 = 1)) → cEnds (cBG tm tf EX l dC dI cA ad scrS (d + 5)) Po 90 gX10_missed 81 [(r : Int), V, (k : Int), (jj : Int), aw] M1 := fun aw haw => by
              refine cEnds_at gX10_missed_m81 rfl ?_
              refine d_br (fun h => ?_) (fun h => ?_)
              · simp only [cCmp, cE2, sev, svl, cen, List.cons_append, List.nil_append] at h
                first
                | omega
                | skip
                  refine d_opw V 0 (by simp [cE2, sev, svl, cen] <;> omega) (by simp [cE2, sev, svl, cen] <;> omega) ?_
                  rw [V0]
                  refine d_cut [(r : Int), V, (k : Int), (jj : Int)] (by simp [cE2, sev, svl, cen] <;> omega) ?_
                  exact n120 V (same (fun z => by omega))
              · simp only [cCmp, cE2, sev, svl, cen, List.cons_append, List.nil_append] at h
                first
                | omega
                | skip
                  refine d_row 0 k (by simp only [cE2, sev, svl, cen, List.cons_append, List.nil_append]; omega) (by simp only [cE2, sev, svl, cen, List.cons_append, List.nil_append]; omega) (by omega) ?_
                  rw [e47]
                  refine d_br (fun h => ?_) (fun h => ?_)
                  · simp only [cCmp, cE2, sev, svl, cen, List.cons_append, List.nil_append] at h
                    first
                    | omega
                    | skip
                      refine d_opw V 0 (by simp [cE2, sev, svl, cen] <;> omega) (by simp [cE2, sev, svl, cen] <;> omega) ?_
                      rw [V0]
                      refine d_cut [(r : Int), V, (k : Int), (jj : Int)] (by simp [cE2, sev, svl, cen] <;> omega) ?_
                      exact n120 V (same (fun z => by omega))
                  · simp only [cCmp, cE2, sev, svl, cen, List.cons_append, List.nil_append] at h
                    first
                    | omega
                    | skip
                      refine d_call (m_standing (d := d + 4) hp W.1 (by omega) w.1 u1) (by simp [cAs, cE2, sev, svl, cen] <;> omega) ?_
                      intro rr M' hq
                      obtain ⟨hM', rfl⟩ := hq
                      rw [hM']
                      refine ⟨rfl, ?_⟩
                      refine d_row 0 jj (by simp only [cE2, sev, svl, cen, List.cons_append, List.nil_append]; omega) (by simp only [cE2, sev, svl, cen, List.cons_append, List.nil_append]; omega) (by omega) ?_
                      rw [t3]
                      refine d_br (fun h => ?_) (fun h => ?_)
                      · simp only [cCmp, cE2, sev, svl, cen, List.cons_append, List.nil_append] at h
                        first
                        | omega
                        | skip
                          refine d_opw V 0 (by simp [cE2, sev, svl, cen] <;> omega) (by simp [cE2, sev, svl, cen] <;> omega) ?_
                          rw [V0]
                          refine d_cut [(r : Int), V, (k : Int), (jj : Int)] (by simp [cE2, sev, svl, cen] <;> omega) ?_
                          exact n120 V (same (fun z => by omega))
                      · simp only [cCmp, cE2, sev, svl, cen, List.cons_append, List.nil_append] at h
                        first
                        | omega
                        | skip
                          refine d_opw 1 (k : Int) (by simp [cE2, sev, svl, cen] <;> omega) (by simp [cE2, sev, svl, cen] <;> omega) ?_
                          rw [hbt1.symm]
                          refine d_opw V bt1 (by simp [cE2, sev, svl, cen] <;> omega) (by simp [cE2, sev, svl, cen] <;> omega) ?_
                          refine d_cut [(r : Int), cfn 1 V bt1, (k : Int), (jj : Int)] (by simp [cE2, sev, svl, cen] <;> omega) ?_
                          exact n120 _ (more ⟨by omega, by omega, by omega⟩)
            refine cEnds_at gX10_missed_m37 rfl ?_
            refine d_rng (by simp only [clo, chi, cE2, sev, svl, cen, List.cons_append, List.nil_append]; omega) ?_
            refine d_row 0 r (by simp only [cE2, sev, svl, cen, List.cons_append, List.nil_append]; omega) (by simp only [cE2, sev, svl, cen, List.cons_append, List.nil_append]; omega) (by omega) ?_
            rw [e37']
            refine d_rng (by simp only [clo, chi, cE2, sev, svl, cen, List.cons_append, List.nil_append]; omega) ?_
            refine d_br (fun h => ?_) (fun h => ?_)
            · simp only [cCmp, cE2, sev, svl, cen, List.cons_append, List.nil_append] at h
              first
              | omega
              | skip
                refine d_rng (by simp only [clo, chi, cE2, sev, svl, cen, List.cons_append, List.nil_append]; omega) ?_
                refine d_cut [(r : Int), V, ((k : Int) + 1)] (by simp [cE2, sev, svl, cen] <;> omega) ?_
                exact (by omega)
            · simp only [cCmp, cE2, sev, svl, cen, List.cons_append, List.nil_append] at h
              first
              | omega
              | skip
                refine d_row 0 jj (by simp only [cE2, sev, svl, cen, List.cons_append, List.nil_append]; omega) (by simp only [cE2, sev, svl, cen, List.cons_append, List.nil_append]; omega) (by omega) ?_
                rw [t2]
                refine d_br (fun h => ?_) (fun h => ?_)
                · simp only [cCmp, cE2, sev, svl, cen, List.cons_append, List.nil_append] at h
                  first
                  | omega
                  | skip
                    refine d_cut [(r : Int), V, (k : Int), (jj : Int), 1] (by simp [cE2, sev, svl, cen] <;> omega) ?_
                    exact l81 1 (by omega)
                · simp only [cCmp, cE2, sev, svl, cen, List.cons_append, List.nil_append] at h
                  first
                  | omega
                  | skip
                    refine d_row 0 jj (by simp only [cE2, sev, svl, cen, List.cons_append, List.nil_append]; omega) (by simp only [cE2, sev, svl, cen, List.cons_append, List.nil_append]; omega) (by omega) ?_
                    rw [t2]
                    refine d_br (fun h => ?_) (fun h => ?_)
                    · simp only [cCmp, cE2, sev, svl, cen, List.cons_append, List.nil_append] at h
                      first
                      | omega
                      | skip
                        refine d_cut [(r : Int), V, (k : Int), (jj : Int), 0] (by simp [cE2, sev, svl, cen] <;> omega) ?_
                        exact l81 0 (by omega)
                    · simp only [cCmp, cE2, sev, svl, cen, List.cons_append, List.nil_append] at h
                      first
                      | omega
                      | skip
                        refine d_cut [(r : Int), V, (k : Int), (jj : Int), 1] (by simp [cE2, sev, svl, cen] <;> omega) ?_
                        exact l81 1 (by omega)
        refine cEnds_at gX10_missed_m25 rfl ?_
        refine d_br (fun h => ?_) (fun h => ?_)
        · simp only [cCmp, cE2, sev, svl, cen, List.cons_append, List.nil_append] at h
          omega
        · refine d_rng (by simp only [clo, chi, cE2, sev, svl, cen, List.cons_append, List.nil_append]; omega) ?_
          refine d_cut [(r : Int), X, (k : Int), ((12 * r + 0 : Nat) : Int)] (by simp [cE2, sev, svl, cen] <;> omega) ?_
          have w0 := l37 (B r).length 0 (by omega)
          rw [pIf_n (show ¬ rHit (B r) st 0 from fun ⟨j, q, h, _⟩ => absurd h (Nat.not_lt_zero j))] at w0
          exact w0
    refine cEnds_at gX10_missed_m0 rfl ?_
    refine d_put 0 0 (by simp only [cE2, sev, svl, cen, List.cons_append, List.nil_append]; omega) (by simp only [cE2, sev, svl, cen, List.cons_append, List.nil_append]; omega) ?_
    refine d_call (m_within (d := d + 4) hp (x := (r : Int)) (y := 0) (z := 5)) (by simp [cAs, cE2, sev, svl, cen] <;> omega) ?_
    intro rr M' hq
    obtain ⟨hM', hq⟩ := hq
    rw [hM']
    rcases hq with ⟨rfl, q1⟩ | ⟨rfl, q1⟩
    · refine ⟨rfl, ?_⟩
      refine d_br (fun h => ?_) (fun h => ?_)
      · clear h
        refine d_call (m_runs (d := d) hp (Z := Z) (B := B) (L := r) i0 (m0_Z hZ) hZn (m0_B hB) (m0_5 h5) hr) (by simp [cAs, cE2, sev, svl, cen] <;> omega) ?_
        intro rr M1 hq
        obtain ⟨rfl, W⟩ := hq
        refine ⟨rfl, ?_⟩
        refine d_cut [(r : Int), 0, ((0 : Nat) : Int)] (by simp [cE2, sev, svl, cen] <;> omega) ?_
        exact l25 M1 W 12 0 (by omega)
      · simp only [cCmp, cE2, sev, svl, cen, List.cons_append, List.nil_append] at h
        omega
    · refine ⟨rfl, ?_⟩
      refine d_br (fun h => ?_) (fun h => ?_)
      · simp only [cCmp, cE2, sev, svl, cen, List.cons_append, List.nil_append] at h
        omega
      · clear h
        exact d_ret [(-1)] rfl (by decide) (by omega)
  · refine cEnds_at gX10_missed_m0 rfl ?_
    refine d_put 0 0 (by simp only [cE2, sev, svl, cen, List.cons_append, List.nil_append]; omega) (by simp only [cE2, sev, svl, cen, List.cons_append, List.nil_append]; omega) ?_
    refine d_call (m_within (d := d + 4) hp (x := a) (y := 0) (z := 5)) (by simp [cAs, cE2, sev, svl, cen] <;> omega) ?_
    intro rr M' hq
    obtain ⟨hM', hq⟩ := hq
    rw [hM']
    rcases hq with ⟨rfl, q1⟩ | ⟨rfl, q1⟩
    · refine ⟨rfl, ?_⟩
      refine d_br (fun h => ?_) (fun h => ?_)
      · clear h
        omega
      · simp only [cCmp, cE2, sev, svl, cen, List.cons_append, List.nil_append] at h
        omega
    · refine ⟨rfl, ?_⟩
      refine d_br (fun h => ?_) (fun h => ?_)
      · simp only [cCmp, cE2, sev, svl, cen, List.cons_append, List.nil_append] at h
        omega
      · clear h
        exact d_ret [(-1)] rfl (by decide) (hPo _ _ ⟨by rw [no ha], mKX_0 hI h5⟩)
end CR8
