/-! what the methods do: traces -/
theorem wTrM_congr {M M2 : SMem} {q fr len m : Nat} (h : ∀ f j i, f ≠ 1 → M2 f j i = M f j i) : ∀ f j i, f ≠ 1 → wTrM M2 q fr len m f j i = wTrM M q fr len m f j i := by
  intro f j i hf
  have e : M2 12 0 = M 12 0 := by
    funext k
    exact h 12 0 k (by decide)
  unfold wTrM
  rw [e, h f j i hf]
theorem wTr_congr {M M2 : SMem} {p l fr len m : Nat} (h : ∀ f j i, ¬ (f = 3 ∧ (i = 2 ∨ i = 3)) → M2 f j i = M f j i) : ∀ f j i, ¬ (f = 3 ∧ (i = 2 ∨ i = 3)) → wTr M2 p l fr len m f j i = wTr M p l fr len m f j i := by
  intro f j i hf
  unfold wTr
  rw [h 57 0 (fr + (i - 8 * l)) (by omega), h f j i hf]
section CW5
variable {EX : SEx} {l : Launch} {dC : Nat → ClassId} {dI : Nat → Nat → Nat} {cA : Nat → ClassId} {ad : SAd} {scrS d : Nat}
set_option maxHeartbeats 4000000 in
theorem m_traces (hp : cPl tm tc tf EX) {a b : Int} {n : Nat} {M : SMem} (hI : sI tg M) (hn : M 1 0 2 = (n : Int)) (h9 : n ≤ 1000) : cBG tm tf EX l dC dI cA ad scrS (d + 5) kX10_traces [(2, 1, 0), (0, 0, a), (0, 0, b)] M (fun rr MM => ∃ r : Int, rr = [r] ∧ sI tg MM ∧ MM 1 0 2 = 0 ∧ ((r = -1 ∧ ¬ (0 ≤ a ∧ a < 12 ∧ M 22 0 a.toNat ≠ 0 ∧ 0 ≤ b ∧ b + 1 < M 27 0 a.toNat ∧ (M 29 0 (6 * a.toNat + b.toNat) = 0 ∨ M 29 0 (6 * a.toNat + b.toNat) = 3 ∨ M 29 0 (6 * a.toNat + b.toNat) = 4) ∧ M 29 0 (6 * a.toNat + b.toNat + 1) = 1)) ∨ (r = 1 ∧ (0 ≤ a ∧ a < 12 ∧ M 22 0 a.toNat ≠ 0 ∧ 0 ≤ b ∧ b + 1 < M 27 0 a.toNat ∧ (M 29 0 (6 * a.toNat + b.toNat) = 0 ∨ M 29 0 (6 * a.toNat + b.toNat) = 3 ∨ M 29 0 (6 * a.toNat + b.toNat) = 4) ∧ M 29 0 (6 * a.toNat + b.toNat + 1) = 1) ∧ ¬ wTx 1 (M 12 0) (wf (M 12 0) n) (wu (M 12 0) n)) ∨ (r = 0 ∧ (0 ≤ a ∧ a < 12 ∧ M 22 0 a.toNat ≠ 0 ∧ 0 ≤ b ∧ b + 1 < M 27 0 a.toNat ∧ (M 29 0 (6 * a.toNat + b.toNat) = 0 ∨ M 29 0 (6 * a.toNat + b.toNat) = 3 ∨ M 29 0 (6 * a.toNat + b.toNat) = 4) ∧ M 29 0 (6 * a.toNat + b.toNat + 1) = 1) ∧ wTx 1 (M 12 0) (wf (M 12 0) n) (wu (M 12 0) n))) ∧ (r ≠ 0 → ∀ f j i, f ≠ 1 → MM f j i = M f j i) ∧ (r = 0 → ∀ f j i, f ≠ 1 → MM f j i = wTrM M (6 * a.toNat + b.toNat) (wf (M 12 0) n) (wu (M 12 0) n - wf (M 12 0) n) (wu (M 12 0) n - wf (M 12 0) n) f j i)) := by
  refine cMeth (v := [a, b]) (Fd := 90) hp (by decide) gX10_traces_ok gX10_traces_m0 (by simp [cAs, cE2, sev, svl, cen]) ?_
  suffices H : ∀ Po : List Int → SMem → Prop, (∀ rr MM, (∃ r : Int, rr = [r] ∧ sI tg MM ∧ MM 1 0 2 = 0 ∧ ((r = -1 ∧ ¬ (0 ≤ a ∧ a < 12 ∧ M 22 0 a.toNat ≠ 0 ∧ 0 ≤ b ∧ b + 1 < M 27 0 a.toNat ∧ (M 29 0 (6 * a.toNat + b.toNat) = 0 ∨ M 29 0 (6 * a.toNat + b.toNat) = 3 ∨ M 29 0 (6 * a.toNat + b.toNat) = 4) ∧ M 29 0 (6 * a.toNat + b.toNat + 1) = 1)) ∨ (r = 1 ∧ (0 ≤ a ∧ a < 12 ∧ M 22 0 a.toNat ≠ 0 ∧ 0 ≤ b ∧ b + 1 < M 27 0 a.toNat ∧ (M 29 0 (6 * a.toNat + b.toNat) = 0 ∨ M 29 0 (6 * a.toNat + b.toNat) = 3 ∨ M 29 0 (6 * a.toNat + b.toNat) = 4) ∧ M 29 0 (6 * a.toNat + b.toNat + 1) = 1) ∧ ¬ wTx 1 (M 12 0) (wf (M 12 0) n) (wu (M 12 0) n)) ∨ (r = 0 ∧ (0 ≤ a ∧ a < 12 ∧ M 22 0 a.toNat ≠ 0 ∧ 0 ≤ b ∧ b + 1 < M 27 0 a.toNat ∧ (M 29 0 (6 * a.toNat + b.toNat) = 0 ∨ M 29 0 (6 * a.toNat + b.toNat) = 3 ∨ M 29 0 (6 * a.toNat + b.toNat) = 4) ∧ M 29 0 (6 * a.toNat + b.toNat + 1) = 1) ∧ wTx 1 (M 12 0) (wf (M 12 0) n) (wu (M 12 0) n))) ∧ (r ≠ 0 → ∀ f j i, f ≠ 1 → MM f j i = M f j i) ∧ (r = 0 → ∀ f j i, f ≠ 1 → MM f j i = wTrM M (6 * a.toNat + b.toNat) (wf (M 12 0) n) (wu (M 12 0) n - wf (M 12 0) n) (wu (M 12 0) n - wf (M 12 0) n) f j i)) → Po rr MM) → cEnds (cBG tm tf EX l dC dI cA ad scrS (d + 4)) Po 90 gX10_traces 0 [a, b] M from H _ (fun _ _ h => h)
  intro Po hPo
  have i1 : sI tg (supd M 1 0 0 0) := wI (lo := 0) (hi := 1) hI rfl ⟨by omega, by omega⟩
  have g1 : ∀ f j i, f ≠ 1 → supd M 1 0 0 0 f j i = M f j i := fun f j i q => supd_f q
  have n1 : supd M 1 0 0 0 1 0 2 = (n : Int) := (supd_i (by decide)).trans hn
  refine cEnds_at gX10_traces_m0 rfl ?_
  refine d_put 0 0 (by simp only [cE2, sev, svl, cen, List.cons_append, List.nil_append]; omega) (by simp only [cE2, sev, svl, cen, List.cons_append, List.nil_append]; omega) ?_
  generalize supd M 1 0 0 0 = M1 at i1 g1 n1 ⊢
  have e12 : M1 12 0 = M 12 0 := by
    funext k
    exact g1 12 0 k (by decide)
  refine d_call (m_bares hp n1 h9 i1) (by simp [cAs, cE2, sev, svl, cen]) ?_
  rintro rr M2 ⟨rfl, i2, f2, e10, e11, e2, -⟩
  refine ⟨rfl, ?_⟩
  rw [e12] at e10 e11
  have g2 : ∀ f j i, f ≠ 1 → M2 f j i = M f j i := fun f j i q => (f2 f j i q).trans (g1 f j i q)
  have r12 : M2 12 0 = M 12 0 := by
    funext k
    exact g2 12 0 k (by decide)
  have hfu := wfu (M 12 0) n
  generalize wf (M 12 0) n = fr at *
  generalize wu (M 12 0) n = up at *
  have e22 := g2 22 0 a.toNat (by decide)
  have e27 := g2 27 0 a.toNat (by decide)
  have e29 := g2 29 0 (6 * a.toNat + b.toNat) (by decide)
  have e29' := g2 29 0 (6 * a.toNat + b.toNat + 1) (by decide)
  have b6 := wIb (f := 27) (i := a.toNat) (lo := 0) (hi := 6) hI 0 rfl
  have loop : ∀ q : Nat, q = 6 * a.toNat + b.toNat → q < 72 → (0 ≤ a ∧ a < 12 ∧ M 22 0 a.toNat ≠ 0 ∧ 0 ≤ b ∧ b + 1 < M 27 0 a.toNat ∧ (M 29 0 (6 * a.toNat + b.toNat) = 0 ∨ M 29 0 (6 * a.toNat + b.toNat) = 3 ∨ M 29 0 (6 * a.toNat + b.toNat) = 4) ∧ M 29 0 (6 * a.toNat + b.toNat + 1) = 1) → wTx 1 (M 12 0) fr up → ∀ (m k : Nat), k + m = up - fr → cEnds (cBG tm tf EX l dC dI cA ad scrS (d + 4)) Po 90 gX10_traces 84 [(q : Int), (k : Int)] (wTrM M2 q fr (up - fr) k) := by
    intro q hq hq9 hN hT m
    have t1 := hT.1
    have t2 := hT.2.1
    have r31 : ∀ k, wTrM M2 q fr (up - fr) k 31 0 q = ((up - fr : Nat) : Int) := fun k => by
      unfold wTrM
      rw [if_neg (by omega), if_pos ⟨rfl, rfl, rfl⟩]
    have r1 : ∀ k i, wTrM M2 q fr (up - fr) k 1 0 i = M2 1 0 i := fun k i => by
      unfold wTrM
      rw [if_neg (by omega), if_neg (by omega)]
    have r10 : ∀ k, wTrM M2 q fr (up - fr) k 1 0 10 = (fr : Int) := fun k => (r1 k 10).trans e10
    have r12 : ∀ k i, wTrM M2 q fr (up - fr) k 12 0 i = M 12 0 i := fun k i => by
      unfold wTrM
      rw [if_neg (by omega), if_neg (by omega), r12]
    induction m with
    | zero =>
      intro k hk
      have ek : k = up - fr := by omega
      refine cEnds_at gX10_traces_m84 rfl ?_
      refine d_row 0 q (by simp only [cE2, sev, svl, cen, List.cons_append, List.nil_append]; omega) (by simp only [cE2, sev, svl, cen, List.cons_append, List.nil_append]; omega) (by omega) ?_
      rw [r31 k]
      refine d_br (fun h => ?_) (fun h => ?_)
      · simp only [cCmp, cE2, sev, svl, cen, List.cons_append, List.nil_append] at h
        first
        | omega
        | skip
          refine d_rng (by simp only [clo, chi, cE2, sev, svl, cen, List.cons_append, List.nil_append]; omega) ?_
          refine d_put 0 1 (by simp only [cE2, sev, svl, cen, List.cons_append, List.nil_append]; omega) (by simp only [cE2, sev, svl, cen, List.cons_append, List.nil_append]; omega) ?_
          exact d_ret [0] rfl (by decide) (hPo _ _ ⟨0, rfl, wI (lo := 0) (hi := 1) (sI_trM i2 (by omega) k) rfl ⟨by omega, by omega⟩, by rw [supd_i (by decide), r1, e2], Or.inr (Or.inr ⟨rfl, hN, hT⟩), fun z => absurd rfl z, fun _ f j i z => by rw [supd_f z, wTrM_congr g2 f j i z, ek, hq]⟩)
      · simp only [cCmp, cE2, sev, svl, cen, List.cons_append, List.nil_append] at h
        first
        | omega
        | skip
          refine d_rng (by simp only [clo, chi, cE2, sev, svl, cen, List.cons_append, List.nil_append]; omega) ?_
          refine d_rng (by simp only [clo, chi, cE2, sev, svl, cen, List.cons_append, List.nil_append]; omega) ?_
          refine d_fld 0 (by simp only [cE2, sev, svl, cen, List.cons_append, List.nil_append]; omega) ?_
          rw [r10 k]
          refine d_rng (by simp only [clo, chi, cE2, sev, svl, cen, List.cons_append, List.nil_append]; omega) ?_
          refine d_row 0 (k + fr) (by simp only [cE2, sev, svl, cen, List.cons_append, List.nil_append]; omega) (by simp only [cE2, sev, svl, cen, List.cons_append, List.nil_append]; omega) (by omega) ?_
          refine d_br (fun h => ?_) (fun h => ?_)
          · simp only [cCmp, cE2, sev, svl, cen, List.cons_append, List.nil_append] at h
            first
            | omega
            | skip
              refine d_fld 0 (by simp only [cE2, sev, svl, cen, List.cons_append, List.nil_append]; omega) ?_
              rw [r10 k]
              refine d_rng (by simp only [clo, chi, cE2, sev, svl, cen, List.cons_append, List.nil_append]; omega) ?_
              refine d_row 0 (k + fr) (by simp only [cE2, sev, svl, cen, List.cons_append, List.nil_append]; omega) (by simp only [cE2, sev, svl, cen, List.cons_append, List.nil_append]; omega) (by omega) ?_
              refine d_set 0 (8 * q + k) (wTrM M2 q fr (up - fr) k) 12 0 (k + fr) (by simp only [cE2, sev, svl, cen, List.cons_append, List.nil_append]; omega) (by simp only [cE2, sev, svl, cen, List.cons_append, List.nil_append]; omega) (by omega) (by simp only [cE2, sev, svl, cen, List.cons_append, List.nil_append]; omega) ?_
              refine d_rng (by simp only [clo, chi, cE2, sev, svl, cen, List.cons_append, List.nil_append]; omega) ?_
              refine d_cut [(q : Int), ((k : Int) + 1)] (by simp [cE2, sev, svl, cen] <;> omega) ?_
              exact hPo _ _ (by omega)
          · simp only [cCmp, cE2, sev, svl, cen, List.cons_append, List.nil_append] at h
            first
            | omega
            | skip
              refine d_set 0 (8 * q + k) 0 (by simp only [cE2, sev, svl, cen, List.cons_append, List.nil_append]; omega) (by simp only [cE2, sev, svl, cen, List.cons_append, List.nil_append]; omega) (by omega) (by simp only [cE2, sev, svl, cen, List.cons_append, List.nil_append]; omega) ?_
              refine d_rng (by simp only [clo, chi, cE2, sev, svl, cen, List.cons_append, List.nil_append]; omega) ?_
              refine d_cut [(q : Int), ((k : Int) + 1)] (by simp [cE2, sev, svl, cen] <;> omega) ?_
              exact hPo _ _ (by omega)
    | succ m ih =>
      intro k hk
      have b1 := wIb (f := 12) (i := k + fr) (lo := 0) (hi := 126) hI 0 rfl
      refine cEnds_at gX10_traces_m84 rfl ?_
      refine d_row 0 q (by simp only [cE2, sev, svl, cen, List.cons_append, List.nil_append]; omega) (by simp only [cE2, sev, svl, cen, List.cons_append, List.nil_append]; omega) (by omega) ?_
      rw [r31 k]
      refine d_br (fun h => ?_) (fun h => ?_)
      · simp only [cCmp, cE2, sev, svl, cen, List.cons_append, List.nil_append] at h
        first
        | omega
        | skip
          refine d_rng (by simp only [clo, chi, cE2, sev, svl, cen, List.cons_append, List.nil_append]; omega) ?_
          refine d_put 0 1 (by simp only [cE2, sev, svl, cen, List.cons_append, List.nil_append]; omega) (by simp only [cE2, sev, svl, cen, List.cons_append, List.nil_append]; omega) ?_
          exact d_ret [0] rfl (by decide) (hPo _ _ (by omega))
      · simp only [cCmp, cE2, sev, svl, cen, List.cons_append, List.nil_append] at h
        first
        | omega
        | skip
          refine d_rng (by simp only [clo, chi, cE2, sev, svl, cen, List.cons_append, List.nil_append]; omega) ?_
          refine d_rng (by simp only [clo, chi, cE2, sev, svl, cen, List.cons_append, List.nil_append]; omega) ?_
          refine d_fld 0 (by simp only [cE2, sev, svl, cen, List.cons_append, List.nil_append]; omega) ?_
          rw [r10 k]
          refine d_rng (by simp only [clo, chi, cE2, sev, svl, cen, List.cons_append, List.nil_append]; omega) ?_
          refine d_row 0 (k + fr) (by simp only [cE2, sev, svl, cen, List.cons_append, List.nil_append]; omega) (by simp only [cE2, sev, svl, cen, List.cons_append, List.nil_append]; omega) (by omega) ?_
          rw [r12 k (k + fr)]
          refine d_br (fun h => ?_) (fun h => ?_)
          · simp only [cCmp, cE2, sev, svl, cen, List.cons_append, List.nil_append] at h
            first
            | omega
            | skip
              refine d_fld 0 (by simp only [cE2, sev, svl, cen, List.cons_append, List.nil_append]; omega) ?_
              rw [r10 k]
              refine d_rng (by simp only [clo, chi, cE2, sev, svl, cen, List.cons_append, List.nil_append]; omega) ?_
              refine d_row 0 (k + fr) (by simp only [cE2, sev, svl, cen, List.cons_append, List.nil_append]; omega) (by simp only [cE2, sev, svl, cen, List.cons_append, List.nil_append]; omega) (by omega) ?_
              rw [r12 k (k + fr)]
              refine d_set 0 (8 * q + k) (M 12 0 (k + fr)) (by simp only [cE2, sev, svl, cen, List.cons_append, List.nil_append]; omega) (by simp only [cE2, sev, svl, cen, List.cons_append, List.nil_append]; omega) (by omega) (by simp only [cE2, sev, svl, cen, List.cons_append, List.nil_append]; omega) ?_
              refine d_rng (by simp only [clo, chi, cE2, sev, svl, cen, List.cons_append, List.nil_append]; omega) ?_
              have ev : M 12 0 (k + fr) = wTv (M2 12 0) (fr + k) := by unfold wTv; rw [if_neg (by rw [g2 12 0 _ (by decide), show fr + k = k + fr by omega]; omega), g2 12 0 _ (by decide), show fr + k = k + fr by omega]
              rw [ev, wTrM_s]
              refine d_cut [(q : Int), ((k + 1 : Nat) : Int)] (by simp [cE2, sev, svl, cen] <;> omega) ?_
              exact ih (k + 1) (by omega)
          · simp only [cCmp, cE2, sev, svl, cen, List.cons_append, List.nil_append] at h
            first
            | omega
            | skip
              refine d_set 0 (8 * q + k) 0 (by simp only [cE2, sev, svl, cen, List.cons_append, List.nil_append]; omega) (by simp only [cE2, sev, svl, cen, List.cons_append, List.nil_append]; omega) (by omega) (by simp only [cE2, sev, svl, cen, List.cons_append, List.nil_append]; omega) ?_
              refine d_rng (by simp only [clo, chi, cE2, sev, svl, cen, List.cons_append, List.nil_append]; omega) ?_
              have ev : (0 : Int) = wTv (M2 12 0) (fr + k) := by unfold wTv; rw [if_pos (by rw [g2 12 0 _ (by decide), show fr + k = k + fr by omega]; omega)]
              rw [ev, wTrM_s]
              refine d_cut [(q : Int), ((k + 1 : Nat) : Int)] (by simp [cE2, sev, svl, cen] <;> omega) ?_
              exact ih (k + 1) (by omega)
  refine d_call (m_isNaming hp (a := a) (b := b) i2) (by simp [cAs, cE2, sev, svl, cen] <;> omega) ?_
  intro rr M' hq
  obtain ⟨hM', hq⟩ := hq
  rw [hM']
  rcases hq with ⟨rfl, q2⟩ | ⟨rfl, q2⟩
  · refine ⟨rfl, ?_⟩
    refine d_br (fun h => ?_) (fun h => ?_)
    · simp only [cCmp, cE2, sev, svl, cen, List.cons_append, List.nil_append] at h
      omega
    · clear h
      refine d_rng (by simp only [clo, chi, cE2, sev, svl, cen, List.cons_append, List.nil_append]; omega) ?_
      refine d_row 0 a.toNat (by simp only [cE2, sev, svl, cen, List.cons_append, List.nil_append]; omega) (by simp only [cE2, sev, svl, cen, List.cons_append, List.nil_append]; omega) (by omega) ?_
      refine d_br (fun h => ?_) (fun h => ?_)
      · simp only [cCmp, cE2, sev, svl, cen, List.cons_append, List.nil_append] at h
        first
        | omega
        | skip
          exact d_ret [(-1)] rfl (by decide) (hPo _ _ ⟨-1, rfl, i2, e2, Or.inl ⟨rfl, by omega⟩, fun _ => g2, fun z => by omega⟩)
      · simp only [cCmp, cE2, sev, svl, cen, List.cons_append, List.nil_append] at h
        first
        | omega
        | skip
          refine d_rng (by simp only [clo, chi, cE2, sev, svl, cen, List.cons_append, List.nil_append]; omega) ?_
          refine d_rng (by simp only [clo, chi, cE2, sev, svl, cen, List.cons_append, List.nil_append]; omega) ?_
          refine d_rng (by simp only [clo, chi, cE2, sev, svl, cen, List.cons_append, List.nil_append]; omega) ?_
          refine d_row 0 (6 * a.toNat + b.toNat + 1) (by simp only [cE2, sev, svl, cen, List.cons_append, List.nil_append]; omega) (by simp only [cE2, sev, svl, cen, List.cons_append, List.nil_append]; omega) (by omega) ?_
          refine d_br (fun h => ?_) (fun h => ?_)
          · simp only [cCmp, cE2, sev, svl, cen, List.cons_append, List.nil_append] at h
            first
            | omega
            | skip
              refine d_call (m_areLetters hp (s := 1) (fr := fr) (up := up) e10 e11 (by omega)) (by simp [cAs, cE2, sev, svl, cen] <;> omega) ?_
              intro rr M' hq
              obtain ⟨hM', hq⟩ := hq
              rw [hM']
              rcases hq with ⟨rfl, q5⟩ | ⟨rfl, q5⟩
              · refine ⟨rfl, ?_⟩
                refine d_br (fun h => ?_) (fun h => ?_)
                · clear h
                  refine d_rng (by simp only [clo, chi, cE2, sev, svl, cen, List.cons_append, List.nil_append]; omega) ?_
                  refine d_rng (by simp only [clo, chi, cE2, sev, svl, cen, List.cons_append, List.nil_append]; omega) ?_
                  refine d_fld 0 (by simp only [cE2, sev, svl, cen, List.cons_append, List.nil_append]; omega) ?_
                  rw [e11]
                  refine d_fld 0 (by simp only [cE2, sev, svl, cen, List.cons_append, List.nil_append]; omega) ?_
                  rw [e10]
                  refine d_rng (by simp only [clo, chi, cE2, sev, svl, cen, List.cons_append, List.nil_append]; omega) ?_
                  refine d_set 0 (6 * a.toNat + b.toNat) ((up : Int) - (fr : Int)) (by simp only [cE2, sev, svl, cen, List.cons_append, List.nil_append]; omega) (by simp only [cE2, sev, svl, cen, List.cons_append, List.nil_append]; omega) (by omega) (by simp only [cE2, sev, svl, cen, List.cons_append, List.nil_append]; omega) ?_
                  have e9 : (up : Int) - (fr : Int) = ((up - fr : Nat) : Int) := by have := q5.1; omega
                  rw [e9, ← wTrM_0 (fr := fr)]
                  rw [r12] at q5
                  refine d_cut [((6 * a.toNat + b.toNat : Nat) : Int), ((0 : Nat) : Int)] (by simp [cE2, sev, svl, cen] <;> omega) ?_
                  exact loop _ rfl (by omega) (by omega) q5 (up - fr) 0 (by omega)
                · simp only [cCmp, cE2, sev, svl, cen, List.cons_append, List.nil_append] at h
                  omega
              · refine ⟨rfl, ?_⟩
                refine d_br (fun h => ?_) (fun h => ?_)
                · simp only [cCmp, cE2, sev, svl, cen, List.cons_append, List.nil_append] at h
                  omega
                · clear h
                  exact d_ret [1] rfl (by decide) (hPo _ _ ⟨1, rfl, i2, e2, Or.inr (Or.inl ⟨rfl, by omega, by rw [r12] at q5; exact q5⟩), fun _ => g2, fun z => by omega⟩)
          · simp only [cCmp, cE2, sev, svl, cen, List.cons_append, List.nil_append] at h
            first
            | omega
            | skip
              exact d_ret [(-1)] rfl (by decide) (hPo _ _ ⟨-1, rfl, i2, e2, Or.inl ⟨rfl, by omega⟩, fun _ => g2, fun z => by omega⟩)
  · refine ⟨rfl, ?_⟩
    refine d_br (fun h => ?_) (fun h => ?_)
    · clear h
      exact d_ret [(-1)] rfl (by decide) (hPo _ _ ⟨-1, rfl, i2, e2, Or.inl ⟨rfl, by omega⟩, fun _ => g2, fun z => by omega⟩)
    · simp only [cCmp, cE2, sev, svl, cen, List.cons_append, List.nil_append] at h
      omega
theorem b_tellTr (hp : cPl tm tc tf EX) {a b : Int} {n : Nat} {M : SMem} (hI : sI tg M) (hn : M 3 0 1 = (n : Int)) (h9 : n ≤ 1000) : cBG tm tf EX l dC dI cA ad scrS (d + 5) kX9_tellTraces [(2, 0, 0), (0, 0, a), (0, 0, b)] M (fun rr MM => ∃ r : Int, rr = [r] ∧ sI tg MM ∧ ((r = -1 ∧ ¬ (0 ≤ a ∧ a < 12 ∧ M 64 a.toNat 0 ≠ 0 ∧ 0 ≤ b ∧ b + 1 < M 64 a.toNat 5 ∧ ¬ (M 92 a.toNat b.toNat = 1 ∨ M 92 a.toNat b.toNat = 2) ∧ M 92 a.toNat (b.toNat + 1) = 1)) ∨ (r = 1 ∧ (0 ≤ a ∧ a < 12 ∧ M 64 a.toNat 0 ≠ 0 ∧ 0 ≤ b ∧ b + 1 < M 64 a.toNat 5 ∧ ¬ (M 92 a.toNat b.toNat = 1 ∨ M 92 a.toNat b.toNat = 2) ∧ M 92 a.toNat (b.toNat + 1) = 1) ∧ ¬ wTx 1 (M 57 0) (wf (M 57 0) n) (wu (M 57 0) n)) ∨ (r = 0 ∧ (0 ≤ a ∧ a < 12 ∧ M 64 a.toNat 0 ≠ 0 ∧ 0 ≤ b ∧ b + 1 < M 64 a.toNat 5 ∧ ¬ (M 92 a.toNat b.toNat = 1 ∨ M 92 a.toNat b.toNat = 2) ∧ M 92 a.toNat (b.toNat + 1) = 1) ∧ wTx 1 (M 57 0) (wf (M 57 0) n) (wu (M 57 0) n))) ∧ (r ≠ 0 → ∀ f j i, ¬ (f = 3 ∧ (i = 2 ∨ i = 3)) → MM f j i = M f j i) ∧ (r = 0 → ∀ f j i, ¬ (f = 3 ∧ (i = 2 ∨ i = 3)) → f ≠ 7 → f ≠ 10 → MM f j i = wTr M a.toNat b.toNat (wf (M 57 0) n) (wu (M 57 0) n - wf (M 57 0) n) (wu (M 57 0) n - wf (M 57 0) n) f j i)) := by
  have hfu := wfu (M 57 0) n
  have b6 := wIb (f := 64) (i := 5) (lo := 0) (hi := 6) hI a.toNat rfl
  refine cMeth (v := [a, b]) (Fd := 90) hp (by decide) gX9_tellTraces_ok gX9_tellTraces_m0 (by simp [cAs, cE2, sev, svl, cen]) ?_
  refine cEnds_at gX9_tellTraces_m0 rfl ?_
  refine d_call (b_isNameCut hp (a := a) (b := b) hI) (by simp [cAs, cE2, sev, svl, cen] <;> omega) ?_
  intro rr M' hq
  obtain ⟨hM', hq⟩ := hq
  rw [hM']
  rcases hq with ⟨rfl, q2⟩ | ⟨rfl, q2⟩
  · refine ⟨rfl, ?_⟩
    refine d_br (fun h => ?_) (fun h => ?_)
    · simp only [cCmp, cE2, sev, svl, cen, List.cons_append, List.nil_append] at h
      omega
    · clear h
      refine d_idx (by simp only [cE2, sev, svl, cen, List.cons_append, List.nil_append]; omega) ?_
      refine d_call (b_hasOutOver hp (p := a.toNat) (ly := b.toNat) hI (by omega)) (by simp [cAs, cE2, sev, svl, cen] <;> omega) ?_
      intro rr M' hq
      obtain ⟨hM', hq⟩ := hq
      rw [hM']
      rcases hq with ⟨rfl, q3⟩ | ⟨rfl, q3⟩
      · refine ⟨rfl, ?_⟩
        refine d_br (fun h => ?_) (fun h => ?_)
        · clear h
          refine d_call (b_trim hp hn h9 hI) (by simp [cAs, cE2, sev, svl, cen] <;> omega) ?_
          intro rr M' hq
          obtain ⟨rfl, i1, f1, e2, e3⟩ := hq
          have e2 : M' 3 0 2 = (wf (M 57 0) n : Int) := e2
          have e3 : M' 3 0 3 = (wu (M 57 0) n : Int) := e3
          have r57 : M' 57 0 = M 57 0 := by funext k; exact f1 57 0 k (by omega)
          generalize M' = M1 at i1 f1 e2 e3 r57 ⊢
          refine ⟨rfl, ?_⟩
          refine d_call (b_isText hp (s := 1) e2 e3 (by omega)) (by simp [cAs, cE2, sev, svl, cen] <;> omega) ?_
          intro rr M' hq
          obtain ⟨hM', hq⟩ := hq
          rw [hM']
          rcases hq with ⟨rfl, q4⟩ | ⟨rfl, q4⟩
          · refine ⟨rfl, ?_⟩
            refine d_br (fun h => ?_) (fun h => ?_)
            · clear h
              refine d_idx (by simp only [cE2, sev, svl, cen, List.cons_append, List.nil_append]; omega) ?_
              refine d_call (b_wtraces hp (p := a.toNat) (ly := b.toNat) i1 (by omega) (by omega) e2 e3 (by have := q4.1; omega) (by have := q4.2.1; omega) (by omega)) (by simp [cAs, cE2, sev, svl, cen] <;> omega) ?_
              intro rr M' hq
              obtain ⟨rfl, hM'⟩ := hq
              rw [hM']
              refine ⟨rfl, ?_⟩
              refine d_call (b_forgetF hp (sI_tr (p := a.toNat) (l := b.toNat) (fr := wf (M 57 0) n) (len := wu (M 57 0) n - wf (M 57 0) n) i1 (by have := q4.2.1; omega) _)) (by simp [cAs, cE2, sev, svl, cen] <;> omega) ?_
              intro rr M' hq
              obtain ⟨rfl, i9, f9⟩ := hq
              refine ⟨rfl, ?_⟩
              exact d_ret [0] rfl (by decide) ⟨0, rfl, i9, Or.inr (Or.inr ⟨rfl, by omega, by rw [r57] at q4; exact q4⟩), fun z => absurd rfl z, fun _ f j i z1 z2 z3 => by rw [f9 f j i z2 z3, wTr_congr f1 f j i z1]⟩
            · simp only [cCmp, cE2, sev, svl, cen, List.cons_append, List.nil_append] at h
              omega
          · refine ⟨rfl, ?_⟩
            refine d_br (fun h => ?_) (fun h => ?_)
            · simp only [cCmp, cE2, sev, svl, cen, List.cons_append, List.nil_append] at h
              omega
            · clear h
              exact d_ret [1] rfl (by decide) ⟨1, rfl, i1, Or.inr (Or.inl ⟨rfl, by omega, by rw [r57] at q4; exact q4⟩), fun _ => f1, fun z => by omega⟩
        · simp only [cCmp, cE2, sev, svl, cen, List.cons_append, List.nil_append] at h
          omega
      · refine ⟨rfl, ?_⟩
        refine d_br (fun h => ?_) (fun h => ?_)
        · simp only [cCmp, cE2, sev, svl, cen, List.cons_append, List.nil_append] at h
          omega
        · clear h
          exact d_ret [(-1)] rfl (by decide) ⟨-1, rfl, hI, Or.inl ⟨rfl, by omega⟩, fun _ _ _ _ _ => rfl, fun z => by omega⟩
  · refine ⟨rfl, ?_⟩
    refine d_br (fun h => ?_) (fun h => ?_)
    · clear h
      exact d_ret [(-1)] rfl (by decide) ⟨-1, rfl, hI, Or.inl ⟨rfl, by omega⟩, fun _ _ _ _ _ => rfl, fun z => by omega⟩
    · simp only [cCmp, cE2, sev, svl, cen, List.cons_append, List.nil_append] at h
      omega
theorem b_traces (hp : cPl tm tc tf EX) {a b : Int} {n : Nat} {M : SMem} (hI : sI tg M) (hn : M 3 0 1 = (n : Int)) (h9 : n ≤ 1000) : cBG tm tf EX l dC dI cA ad scrS (d + 6) kX9_traces [(2, 0, 0), (0, 0, a), (0, 0, b)] M (fun rr MM => ∃ r : Int, rr = [r] ∧ sI tg MM ∧ MM 3 0 1 = 0 ∧ ((r = -1 ∧ ¬ (0 ≤ a ∧ a < 12 ∧ M 64 a.toNat 0 ≠ 0 ∧ 0 ≤ b ∧ b + 1 < M 64 a.toNat 5 ∧ ¬ (M 92 a.toNat b.toNat = 1 ∨ M 92 a.toNat b.toNat = 2) ∧ M 92 a.toNat (b.toNat + 1) = 1)) ∨ (r = 1 ∧ (0 ≤ a ∧ a < 12 ∧ M 64 a.toNat 0 ≠ 0 ∧ 0 ≤ b ∧ b + 1 < M 64 a.toNat 5 ∧ ¬ (M 92 a.toNat b.toNat = 1 ∨ M 92 a.toNat b.toNat = 2) ∧ M 92 a.toNat (b.toNat + 1) = 1) ∧ ¬ wTx 1 (M 57 0) (wf (M 57 0) n) (wu (M 57 0) n)) ∨ (r = 0 ∧ (0 ≤ a ∧ a < 12 ∧ M 64 a.toNat 0 ≠ 0 ∧ 0 ≤ b ∧ b + 1 < M 64 a.toNat 5 ∧ ¬ (M 92 a.toNat b.toNat = 1 ∨ M 92 a.toNat b.toNat = 2) ∧ M 92 a.toNat (b.toNat + 1) = 1) ∧ wTx 1 (M 57 0) (wf (M 57 0) n) (wu (M 57 0) n))) ∧ (r ≠ 0 → ∀ f j i, f ≠ 3 → MM f j i = M f j i) ∧ (r = 0 → ∀ f j i, f ≠ 3 → f ≠ 7 → f ≠ 10 → MM f j i = wTr M a.toNat b.toNat (wf (M 57 0) n) (wu (M 57 0) n - wf (M 57 0) n) (wu (M 57 0) n - wf (M 57 0) n) f j i)) := by
  refine cMeth (v := [a, b]) (Fd := 90) hp (by decide) gX9_traces_ok gX9_traces_m0 (by simp [cAs, cE2, sev, svl, cen]) ?_
  refine cEnds_at gX9_traces_m0 rfl ?_
  refine d_call (b_tellTr hp (a := a) (b := b) hI hn h9) (by simp [cAs, cE2, sev, svl, cen] <;> omega) ?_
  intro rr M' hq
  obtain ⟨r, rfl, i1, hr, k1, k2⟩ := hq
  refine ⟨rfl, ?_⟩
  refine d_put 0 0 (by simp only [cE2, sev, svl, cen, List.cons_append, List.nil_append]; omega) (by simp only [cE2, sev, svl, cen, List.cons_append, List.nil_append]; omega) ?_
  exact wret1 r (by simp only [cE2, sev, svl, cen, List.cons_append, List.nil_append]; omega) (by omega) ⟨r, rfl, wI (lo := 0) (hi := 1000) i1 rfl ⟨by omega, by omega⟩, supd_at _ _ _ _ _, hr, fun z f j i q => by rw [supd_f q, k1 z f j i (fun y => q y.1)], fun z f j i q q2 q3 => by rw [supd_f q, k2 z f j i (fun y => q y.1) q2 q3]⟩
end CW5
