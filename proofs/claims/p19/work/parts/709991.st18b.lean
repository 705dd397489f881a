/-! stories: the reference is asked for the hand to be dated, for names that stood -/
theorem stN_nil {L : List (Nat → Int)} {op : Nat → Prop} (h : ∀ k, ¬ op k) : ∀ k, stN L op k = -1 := by
  intro k
  induction k with
  | zero => rfl
  | succ k ih => rw [stN_n (fun q => h k q.1)]; exact ih
section CS18B
variable {EX : SEx} {l : Launch} {dC : Nat → ClassId} {dI : Nat → Nat → Nat} {cA : Nat → ClassId} {ad : SAd} {scrS d : Nat}
set_option maxHeartbeats 4000000 in
theorem m_next (hp : cPl tm tc tf EX) {Z : STZ} {dt : Nat → Int} {w : Int} {M : SMem} (hI : sI tg M) (hX : sX M) (hZ : sWf Z) (hz : sMz Z M) (hdt : M 33 0 = dt) (hK : sKm Z dt M) : cBG tm tf EX l dC dI cA ad scrS (d + 18) kX10_next [(2, 1, 0), (0, 0, w)] M (fun rr MM => sRF Z dt MM M ∧ ∃ r : Int, rr = [r] ∧ ∀ L op, L = (stS Z dt) → op = (fun k => 0 < L.length ∧ sBz Z k ∧ dt k = -1) → ((¬ ((w = 0 ∨ w = 1) ∧ stN L op 6 ≠ -1) ∧ r = -1) ∨ (((w = 0 ∨ w = 1) ∧ stN L op 6 ≠ -1) ∧ r = if w = 0 then stN L op 6 else stM L (stN L op 6).toNat 6))) := by
  refine cMeth (v := [w]) (Fd := 90) hp (by decide) gX10_next_ok gX10_next_m0 (by simp [cAs, cE2, sev, svl, cen]) ?_
  suffices H : ∀ Po : List Int → SMem → Prop, (∀ rr MM, (sRF Z dt MM M ∧ ∃ r : Int, rr = [r] ∧ ∀ L op, L = (stS Z dt) → op = (fun k => 0 < L.length ∧ sBz Z k ∧ dt k = -1) → ((¬ ((w = 0 ∨ w = 1) ∧ stN L op 6 ≠ -1) ∧ r = -1) ∨ (((w = 0 ∨ w = 1) ∧ stN L op 6 ≠ -1) ∧ r = if w = 0 then stN L op 6 else stM L (stN L op 6).toNat 6))) → Po rr MM) → cEnds (cBG tm tf EX l dC dI cA ad scrS (d + 17)) Po 90 gX10_next 0 [w] M from H _ (fun _ _ h => h)
  intro Po hPo
  refine cEnds_at gX10_next_m0 rfl ?_
  refine d_put 0 0 (by simp only [cE2, sev, svl, cen, List.cons_append, List.nil_append]; omega) (by simp only [cE2, sev, svl, cen, List.cons_append, List.nil_append]; omega) ?_
  refine d_call (m_find (d := d) hp hI hX hZ hz hdt hK) (by simp [cAs, cE2, sev, svl, cen]) ?_
  rintro rr M1 ⟨rfl, hF⟩
  refine ⟨rfl, ?_⟩
  obtain ⟨i1, f1, e28, e34, hk⟩ := id hF
  obtain ⟨e32, e36, e35⟩ := hk e28
  have b9 := stS_len (Z := Z) (dt := dt)
  have hs := fun s (h : s ∈ stS Z dt) => stS_rng hZ h
  generalize hL : stS Z dt = L at e32 e36 b9 hs hPo
  obtain ⟨op, hop⟩ : ∃ op : Nat → Prop, op = (fun k => 0 < L.length ∧ sBz Z k ∧ dt k = -1) := ⟨_, rfl⟩
  have ret : ∀ r : Int, ((¬ ((w = 0 ∨ w = 1) ∧ stN L op 6 ≠ -1) ∧ r = -1) ∨ (((w = 0 ∨ w = 1) ∧ stN L op 6 ≠ -1) ∧ r = if w = 0 then stN L op 6 else stM L (stN L op 6).toNat 6)) → Po [r] M1 := fun r hr => hPo _ _ ⟨hF, r, rfl, fun L' op' h1 h2 => by subst h1 h2; rw [← hop]; exact hr⟩
  have hop' : ∀ k, op k ↔ (0 < L.length ∧ sBz Z k ∧ dt k = -1) := fun k => by rw [hop]
  have e33 : ∀ k, M1 33 0 k = dt k := fun k => by rw [f1 33 0 k (by decide) (by decide) (by decide) (by omega), hdt]
  have bN := stN_b (L := L) (op := op)
  have bM := fun a => stM_b (L := L) (a := a) 6
  have l34 : 0 < L.length → (w = 0 ∨ w = 1) → ∀ (m k : Nat), k + m = 6 → ∀ le : Int, (stN L op k = -1 ∨ le = stM L (stN L op k).toNat 6) → cEnds (cBG tm tf EX l dC dI cA ad scrS (d + 17)) Po 90 gX10_next 34 [w, stN L op k, le, (k : Int)] M1 := by
    intro h0 hw m
    induction m with
    | zero =>
      intro k hk le hle
      have ek : k = 6 := by omega
      subst ek
      have b := bN 6
      have b2 := bM (stN L op 6).toNat
      refine cEnds_at gX10_next_m34 rfl ?_
      refine d_br (fun h => ?_) (fun h => ?_)
      · simp only [cCmp, cE2, sev, svl, cen, List.cons_append, List.nil_append] at h
        first
        | omega
        | skip
          refine d_br (fun h => ?_) (fun h => ?_)
          · simp only [cCmp, cE2, sev, svl, cen, List.cons_append, List.nil_append] at h
            first
            | omega
            | skip
              refine d_br (fun h => ?_) (fun h => ?_)
              · simp only [cCmp, cE2, sev, svl, cen, List.cons_append, List.nil_append] at h
                first
                | omega
                | skip
                  exact wret1 le (by simp only [cE2, sev, svl, cen, List.cons_append, List.nil_append]; omega) (by omega) (ret _ (Or.inr ⟨⟨hw, by omega⟩, by rw [if_neg (by omega)]; omega⟩))
              · simp only [cCmp, cE2, sev, svl, cen, List.cons_append, List.nil_append] at h
                first
                | omega
                | skip
                  exact wret1 (stN L op 6) (by simp only [cE2, sev, svl, cen, List.cons_append, List.nil_append]; omega) (by omega) (ret _ (Or.inr ⟨⟨hw, by omega⟩, by rw [if_pos (by omega)]⟩))
          · simp only [cCmp, cE2, sev, svl, cen, List.cons_append, List.nil_append] at h
            first
            | omega
            | skip
              exact d_ret [(-1)] rfl (by decide) (ret _ (Or.inl ⟨fun z => z.2 (by omega), rfl⟩))
      · simp only [cCmp, cE2, sev, svl, cen, List.cons_append, List.nil_append] at h
        first
        | omega
        | skip
          refine d_cut [w, (stN L op 6), le, ((6 : Nat) : Int), 0, 0] (by simp [cE2, sev, svl, cen] <;> omega) ?_
          exact ret _ (by omega)
    | succ m ih =>
      intro k hk le hle
      have k6 : k < 6 := by omega
      have b := bN k
      have e35k : (M1 35 0 k = 1 ∧ sBz Z k) ∨ (M1 35 0 k = 0 ∧ ¬ sBz Z k) := by
        rw [e35 k k6]
        cases e : sBb Z k with
        | true => exact Or.inl ⟨rfl, sBb_y.mp e⟩
        | false => exact Or.inr ⟨rfl, sBb_n.mp e⟩
      have e33k := e33 k
      have keep : ¬ (op k ∧ (stN L op k = -1 ∨ stM L k 6 < stM L (stN L op k).toNat 6)) → cEnds (cBG tm tf EX l dC dI cA ad scrS (d + 17)) Po 90 gX10_next 34 [w, stN L op k, le, ((k + 1 : Nat) : Int)] M1 := fun hno => by
        have := ih (k + 1) (by omega) le (by rw [stN_n hno]; exact hle)
        rw [stN_n hno] at this
        exact this
      have take : (op k ∧ (stN L op k = -1 ∨ stM L k 6 < stM L (stN L op k).toNat 6)) → cEnds (cBG tm tf EX l dC dI cA ad scrS (d + 17)) Po 90 gX10_next 34 [w, (k : Int), stM L k 6, ((k + 1 : Nat) : Int)] M1 := fun hy => by
        have := ih (k + 1) (by omega) (stM L k 6) (by rw [stN_y hy, show ((k : Nat) : Int).toNat = k by omega]; exact Or.inr rfl)
        rw [stN_y hy] at this
        exact this
      by_cases hb : sBz Z k
      · have e35' : M1 35 0 k = 1 := by rcases e35k with y | y; { exact y.1 }; { exact absurd hb y.2 }
        have l47 : ∀ (n x : Nat), x + n = 6 → cEnds (cBG tm tf EX l dC dI cA ad scrS (d + 17)) Po 90 gX10_next 47 [w, stN L op k, le, (k : Int), stM L k x, (x : Int)] M1 := by
          intro n
          induction n with
          | zero =>
            intro x hx
            have ex : x = 6 := by omega
            subst ex
            refine cEnds_at gX10_next_m47 rfl ?_
            refine d_br (fun h => ?_) (fun h => ?_)
            · simp only [cCmp, cE2, sev, svl, cen, List.cons_append, List.nil_append] at h
              first
              | omega
              | skip
                refine d_row 0 k (by simp only [cE2, sev, svl, cen, List.cons_append, List.nil_append]; omega) (by simp only [cE2, sev, svl, cen, List.cons_append, List.nil_append]; omega) (by omega) ?_
                rw [e35']
                refine d_br (fun h => ?_) (fun h => ?_)
                · simp only [cCmp, cE2, sev, svl, cen, List.cons_append, List.nil_append] at h
                  omega
                · clear h
                  refine d_row 0 k (by simp only [cE2, sev, svl, cen, List.cons_append, List.nil_append]; omega) (by simp only [cE2, sev, svl, cen, List.cons_append, List.nil_append]; omega) (by omega) ?_
                  rw [e33k]
                  refine d_br (fun h => ?_) (fun h => ?_)
                  · simp only [cCmp, cE2, sev, svl, cen, List.cons_append, List.nil_append] at h
                    first
                    | omega
                    | skip
                      refine d_rng (by simp only [clo, chi, cE2, sev, svl, cen, List.cons_append, List.nil_append]; omega) ?_
                      refine d_cut [w, stN L op k, le, ((k + 1 : Nat) : Int)] (by simp [cE2, sev, svl, cen] <;> omega) ?_
                      exact keep (fun z => by have := ((hop' k).mp z.1).2.2; omega)
                  · simp only [cCmp, cE2, sev, svl, cen, List.cons_append, List.nil_append] at h
                    first
                    | omega
                    | skip
                      refine d_br (fun h => ?_) (fun h => ?_)
                      · simp only [cCmp, cE2, sev, svl, cen, List.cons_append, List.nil_append] at h
                        first
                        | omega
                        | skip
                          refine d_rng (by simp only [clo, chi, cE2, sev, svl, cen, List.cons_append, List.nil_append]; omega) ?_
                          refine d_cut [w, (k : Int), stM L k 6, ((k + 1 : Nat) : Int)] (by simp [cE2, sev, svl, cen] <;> omega) ?_
                          exact take ⟨(hop' k).mpr ⟨h0, hb, by omega⟩, Or.inl (by omega)⟩
                      · simp only [cCmp, cE2, sev, svl, cen, List.cons_append, List.nil_append] at h
                        first
                        | omega
                        | skip
                          refine d_br (fun h => ?_) (fun h => ?_)
                          · simp only [cCmp, cE2, sev, svl, cen, List.cons_append, List.nil_append] at h
                            first
                            | omega
                            | skip
                              refine d_rng (by simp only [clo, chi, cE2, sev, svl, cen, List.cons_append, List.nil_append]; omega) ?_
                              refine d_cut [w, stN L op k, le, ((k + 1 : Nat) : Int)] (by simp [cE2, sev, svl, cen] <;> omega) ?_
                              exact keep (fun z => by have := z.2; omega)
                          · simp only [cCmp, cE2, sev, svl, cen, List.cons_append, List.nil_append] at h
                            first
                            | omega
                            | skip
                              refine d_rng (by simp only [clo, chi, cE2, sev, svl, cen, List.cons_append, List.nil_append]; omega) ?_
                              refine d_cut [w, (k : Int), stM L k 6, ((k + 1 : Nat) : Int)] (by simp [cE2, sev, svl, cen] <;> omega) ?_
                              exact take ⟨(hop' k).mpr ⟨h0, hb, by omega⟩, Or.inr (by omega)⟩
            · simp only [cCmp, cE2, sev, svl, cen, List.cons_append, List.nil_append] at h
              first
              | omega
              | skip
                refine d_row 0 k (by simp only [cE2, sev, svl, cen, List.cons_append, List.nil_append]; omega) (by simp only [cE2, sev, svl, cen, List.cons_append, List.nil_append]; omega) (by omega) ?_
                rw [e35']
                refine d_br (fun h => ?_) (fun h => ?_)
                · simp only [cCmp, cE2, sev, svl, cen, List.cons_append, List.nil_append] at h
                  omega
                · clear h
                  omega
          | succ n ihn =>
            intro x hx
            have m1 := @cfn11 (stM L k x) ((stC L k (x : Int) : Nat) : Int)
            have em : stM L k (x + 1) = cfn 11 (stM L k x) ((stC L k (x : Int) : Nat) : Int) := rfl
            refine cEnds_at gX10_next_m47 rfl ?_
            refine d_br (fun h => ?_) (fun h => ?_)
            · simp only [cCmp, cE2, sev, svl, cen, List.cons_append, List.nil_append] at h
              first
              | omega
              | skip
                refine d_row 0 k (by simp only [cE2, sev, svl, cen, List.cons_append, List.nil_append]; omega) (by simp only [cE2, sev, svl, cen, List.cons_append, List.nil_append]; omega) (by omega) ?_
                rw [e35']
                refine d_br (fun h => ?_) (fun h => ?_)
                · simp only [cCmp, cE2, sev, svl, cen, List.cons_append, List.nil_append] at h
                  omega
                · clear h
                  refine d_row 0 k (by simp only [cE2, sev, svl, cen, List.cons_append, List.nil_append]; omega) (by simp only [cE2, sev, svl, cen, List.cons_append, List.nil_append]; omega) (by omega) ?_
                  refine d_br (fun h => ?_) (fun h => ?_)
                  · simp only [cCmp, cE2, sev, svl, cen, List.cons_append, List.nil_append] at h
                    first
                    | omega
                    | skip
                      refine d_rng (by simp only [clo, chi, cE2, sev, svl, cen, List.cons_append, List.nil_append]; omega) ?_
                      refine d_cut [w, (stN L op k), le, ((k : Int) + 1)] (by simp [cE2, sev, svl, cen] <;> omega) ?_
                      exact (by omega)
                  · simp only [cCmp, cE2, sev, svl, cen, List.cons_append, List.nil_append] at h
                    first
                    | omega
                    | skip
                      refine d_br (fun h => ?_) (fun h => ?_)
                      · simp only [cCmp, cE2, sev, svl, cen, List.cons_append, List.nil_append] at h
                        first
                        | omega
                        | skip
                          refine d_rng (by simp only [clo, chi, cE2, sev, svl, cen, List.cons_append, List.nil_append]; omega) ?_
                          refine d_cut [w, (k : Int), (stM L k x), ((k : Int) + 1)] (by simp [cE2, sev, svl, cen] <;> omega) ?_
                          exact (by omega)
                      · simp only [cCmp, cE2, sev, svl, cen, List.cons_append, List.nil_append] at h
                        first
                        | omega
                        | skip
                          refine d_br (fun h => ?_) (fun h => ?_)
                          · simp only [cCmp, cE2, sev, svl, cen, List.cons_append, List.nil_append] at h
                            first
                            | omega
                            | skip
                              refine d_rng (by simp only [clo, chi, cE2, sev, svl, cen, List.cons_append, List.nil_append]; omega) ?_
                              refine d_cut [w, (stN L op k), le, ((k : Int) + 1)] (by simp [cE2, sev, svl, cen] <;> omega) ?_
                              exact (by omega)
                          · simp only [cCmp, cE2, sev, svl, cen, List.cons_append, List.nil_append] at h
                            first
                            | omega
                            | skip
                              refine d_rng (by simp only [clo, chi, cE2, sev, svl, cen, List.cons_append, List.nil_append]; omega) ?_
                              refine d_cut [w, (k : Int), (stM L k x), ((k : Int) + 1)] (by simp [cE2, sev, svl, cen] <;> omega) ?_
                              exact (by omega)
            · simp only [cCmp, cE2, sev, svl, cen, List.cons_append, List.nil_append] at h
              first
              | omega
              | skip
                refine d_row 0 k (by simp only [cE2, sev, svl, cen, List.cons_append, List.nil_append]; omega) (by simp only [cE2, sev, svl, cen, List.cons_append, List.nil_append]; omega) (by omega) ?_
                rw [e35']
                refine d_br (fun h => ?_) (fun h => ?_)
                · simp only [cCmp, cE2, sev, svl, cen, List.cons_append, List.nil_append] at h
                  omega
                · clear h
                  refine d_call (m_countOf hp (L := L) (g := k) (x := (x : Int)) b9 e32 e36 hs k6) (by simp [cAs, cE2, sev, svl, cen] <;> omega) ?_
                  intro rr M' hq
                  obtain ⟨hM', rfl⟩ := hq
                  rw [hM']
                  refine ⟨rfl, ?_⟩
                  refine d_br (fun h => ?_) (fun h => ?_)
                  · simp only [cCmp, cE2, sev, svl, cen, List.cons_append, List.nil_append] at h
                    first
                    | omega
                    | skip
                      refine d_rng (by simp only [clo, chi, cE2, sev, svl, cen, List.cons_append, List.nil_append]; omega) ?_
                      refine d_cut [w, stN L op k, le, (k : Int), stM L k (x + 1), ((x + 1 : Nat) : Int)] (by simp [cE2, sev, svl, cen] <;> omega) ?_
                      exact ihn (x + 1) (by omega)
                  · simp only [cCmp, cE2, sev, svl, cen, List.cons_append, List.nil_append] at h
                    first
                    | omega
                    | skip
                      refine d_call (m_countOf hp (L := L) (g := k) (x := (x : Int)) b9 e32 e36 hs k6) (by simp [cAs, cE2, sev, svl, cen] <;> omega) ?_
                      intro rr M' hq
                      obtain ⟨hM', rfl⟩ := hq
                      rw [hM']
                      refine ⟨rfl, ?_⟩
                      refine d_rng (by simp only [clo, chi, cE2, sev, svl, cen, List.cons_append, List.nil_append]; omega) ?_
                      refine d_cut [w, stN L op k, le, (k : Int), stM L k (x + 1), ((x + 1 : Nat) : Int)] (by simp [cE2, sev, svl, cen] <;> omega) ?_
                      exact ihn (x + 1) (by omega)
        refine cEnds_at gX10_next_m34 rfl ?_
        refine d_br (fun h => ?_) (fun h => ?_)
        · simp only [cCmp, cE2, sev, svl, cen, List.cons_append, List.nil_append] at h
          omega
        · refine d_cut [w, stN L op k, le, (k : Int), stM L k 0, ((0 : Nat) : Int)] (by simp [cE2, sev, svl, cen, stM]) ?_
          exact l47 6 0 (by omega)
      · have e35' : M1 35 0 k = 0 := by rcases e35k with y | y; { exact absurd y.2 hb }; { exact y.1 }
        refine cEnds_at gX10_next_m34 rfl ?_
        refine d_br (fun h => ?_) (fun h => ?_)
        · simp only [cCmp, cE2, sev, svl, cen, List.cons_append, List.nil_append] at h
          omega
        · refine d_cut [w, stN L op k, le, (k : Int), 0, ((0 : Nat) : Int)] (by simp [cE2, sev, svl, cen] <;> omega) ?_
          refine cEnds_at gX10_next_m47 rfl ?_
          refine d_br (fun h => ?_) (fun h => ?_)
          · simp only [cCmp, cE2, sev, svl, cen, List.cons_append, List.nil_append] at h
            first
            | omega
            | skip
              refine d_row 0 k (by simp only [cE2, sev, svl, cen, List.cons_append, List.nil_append]; omega) (by simp only [cE2, sev, svl, cen, List.cons_append, List.nil_append]; omega) (by omega) ?_
              rw [e35']
              refine d_br (fun h => ?_) (fun h => ?_)
              · clear h
                refine d_rng (by simp only [clo, chi, cE2, sev, svl, cen, List.cons_append, List.nil_append]; omega) ?_
                refine d_cut [w, (stN L op k), le, ((k : Int) + 1)] (by simp [cE2, sev, svl, cen] <;> omega) ?_
                exact (by omega)
              · simp only [cCmp, cE2, sev, svl, cen, List.cons_append, List.nil_append] at h
                omega
          · simp only [cCmp, cE2, sev, svl, cen, List.cons_append, List.nil_append] at h
            first
            | omega
            | skip
              refine d_row 0 k (by simp only [cE2, sev, svl, cen, List.cons_append, List.nil_append]; omega) (by simp only [cE2, sev, svl, cen, List.cons_append, List.nil_append]; omega) (by omega) ?_
              rw [e35']
              refine d_br (fun h => ?_) (fun h => ?_)
              · clear h
                refine d_row 0 k (by simp only [cE2, sev, svl, cen, List.cons_append, List.nil_append]; omega) (by simp only [cE2, sev, svl, cen, List.cons_append, List.nil_append]; omega) (by omega) ?_
                rw [e35']
                refine d_br (fun h => ?_) (fun h => ?_)
                · clear h
                  refine d_rng (by simp only [clo, chi, cE2, sev, svl, cen, List.cons_append, List.nil_append]; omega) ?_
                  refine d_cut [w, stN L op k, le, ((k + 1 : Nat) : Int)] (by simp [cE2, sev, svl, cen] <;> omega) ?_
                  exact keep (fun z => hb ((hop' k).mp z.1).2.1)
                · simp only [cCmp, cE2, sev, svl, cen, List.cons_append, List.nil_append] at h
                  omega
              · simp only [cCmp, cE2, sev, svl, cen, List.cons_append, List.nil_append] at h
                omega
  refine d_fld 0 (by simp only [cE2, sev, svl, cen, List.cons_append, List.nil_append]; omega) ?_
  rw [e32]
  refine d_br (fun h => ?_) (fun h => ?_)
  · simp only [cCmp, cE2, sev, svl, cen, List.cons_append, List.nil_append] at h
    first
    | omega
    | skip
      exact d_ret [(-1)] rfl (by decide) (ret _ (Or.inl ⟨fun z => z.2 (stN_nil (fun k y => by have := ((hop' k).mp y).1; omega) 6), rfl⟩))
  · simp only [cCmp, cE2, sev, svl, cen, List.cons_append, List.nil_append] at h
    first
    | omega
    | skip
      refine d_call (m_within hp (x := w) (y := 0) (z := 1)) (by simp [cAs, cE2, sev, svl, cen] <;> omega) ?_
      intro rr M' hq
      obtain ⟨hM', hq⟩ := hq
      rw [hM']
      rcases hq with ⟨rfl, q2⟩ | ⟨rfl, q2⟩
      · refine ⟨rfl, ?_⟩
        refine d_br (fun h => ?_) (fun h => ?_)
        · clear h
          refine d_cut [w, stN L op 0, 0, ((0 : Nat) : Int)] (by simp [cE2, sev, svl, cen, stN]) ?_
          exact l34 (by omega) (by omega) 6 0 (by omega) 0 (Or.inl rfl)
        · simp only [cCmp, cE2, sev, svl, cen, List.cons_append, List.nil_append] at h
          omega
      · refine ⟨rfl, ?_⟩
        refine d_br (fun h => ?_) (fun h => ?_)
        · simp only [cCmp, cE2, sev, svl, cen, List.cons_append, List.nil_append] at h
          omega
        · clear h
          exact d_ret [(-1)] rfl (by decide) (ret _ (Or.inl ⟨fun z => q2 (by omega), rfl⟩))
set_option maxHeartbeats 8000000 in
theorem m_stood (hp : cPl tm tc tf EX) {Z : STZ} {dt : Nat → Int} {a b : Int} {M : SMem} (hI : sI tg M) (hX : sX M) (hZ : sWf Z) (hz : sMz Z M) (hdt : M 33 0 = dt) (hK : sKm Z dt M) : cBG tm tf EX l dC dI cA ad scrS (d + 18) kX10_stood [(2, 1, 0), (0, 0, a), (0, 0, b)] M (fun rr MM => sRF Z dt MM M ∧ ∃ r : Int, rr = [r] ∧ ((¬ ((0 ≤ a ∧ a < 12 ∧ M 22 0 a.toNat ≠ 0 ∧ 0 ≤ b ∧ b < M 27 0 a.toNat ∧ (M 29 0 (6 * a.toNat + b.toNat) = 0 ∨ M 29 0 (6 * a.toNat + b.toNat) = 3 ∨ M 29 0 (6 * a.toNat + b.toNat) = 4)) ∧ (stS Z dt) ≠ []) ∧ r = -1) ∨ (((0 ≤ a ∧ a < 12 ∧ M 22 0 a.toNat ≠ 0 ∧ 0 ≤ b ∧ b < M 27 0 a.toNat ∧ (M 29 0 (6 * a.toNat + b.toNat) = 0 ∨ M 29 0 (6 * a.toNat + b.toNat) = 3 ∨ M 29 0 (6 * a.toNat + b.toNat) = 4)) ∧ (stS Z dt) ≠ []) ∧ r = wBt (wDc (stSZ Z (stS Z dt) a.toNat b.toNat)) 8))) := by
  refine cMeth (v := [a, b]) (Fd := 90) hp (by decide) gX10_stood_ok gX10_stood_m0 (by simp [cAs, cE2, sev, svl, cen]) ?_
  suffices H : ∀ Po : List Int → SMem → Prop, (∀ rr MM, (sRF Z dt MM M ∧ ∃ r : Int, rr = [r] ∧ ((¬ ((0 ≤ a ∧ a < 12 ∧ M 22 0 a.toNat ≠ 0 ∧ 0 ≤ b ∧ b < M 27 0 a.toNat ∧ (M 29 0 (6 * a.toNat + b.toNat) = 0 ∨ M 29 0 (6 * a.toNat + b.toNat) = 3 ∨ M 29 0 (6 * a.toNat + b.toNat) = 4)) ∧ (stS Z dt) ≠ []) ∧ r = -1) ∨ (((0 ≤ a ∧ a < 12 ∧ M 22 0 a.toNat ≠ 0 ∧ 0 ≤ b ∧ b < M 27 0 a.toNat ∧ (M 29 0 (6 * a.toNat + b.toNat) = 0 ∨ M 29 0 (6 * a.toNat + b.toNat) = 3 ∨ M 29 0 (6 * a.toNat + b.toNat) = 4)) ∧ (stS Z dt) ≠ []) ∧ r = wBt (wDc (stSZ Z (stS Z dt) a.toNat b.toNat)) 8))) → Po rr MM) → cEnds (cBG tm tf EX l dC dI cA ad scrS (d + 17)) Po 90 gX10_stood 0 [a, b] M from H _ (fun _ _ h => h)
  intro Po hPo
  refine cEnds_at gX10_stood_m0 rfl ?_
  refine d_put 0 0 (by simp only [cE2, sev, svl, cen, List.cons_append, List.nil_append]; omega) (by simp only [cE2, sev, svl, cen, List.cons_append, List.nil_append]; omega) ?_
  refine d_call (m_find (d := d) hp hI hX hZ hz hdt hK) (by simp [cAs, cE2, sev, svl, cen]) ?_
  rintro rr M1 ⟨rfl, hF⟩
  refine ⟨rfl, ?_⟩
  obtain ⟨i1, f1, e28, e34, hk⟩ := id hF
  obtain ⟨e32, e36, e35⟩ := hk e28
  have row : ∀ f, f ≠ 34 → f ≠ 35 → f ≠ 36 → f ≠ 1 → M1 f = M f := fun f y1 y2 y3 y4 => by
    funext j i
    exact f1 f j i y1 y2 y3 (fun q => y4 q.1)
  have x1 : sX M1 := sX_congr (row 29 (by decide) (by decide) (by decide) (by decide)) (row 27 (by decide) (by decide) (by decide) (by decide)) (row 50 (by decide) (by decide) (by decide) (by decide)) hX
  have z1 : sMz Z M1 := sMz_cg (fun f hf => by
    simp only [lVF, List.mem_cons, List.not_mem_nil, or_false] at hf
    exact row f (by omega) (by omega) (by omega) (by omega)) hz
  have b9 := stS_len (Z := Z) (dt := dt)
  have hs := fun s (h : s ∈ stS Z dt) => stS_rng hZ h
  generalize stS Z dt = L at e32 e36 b9 hs hPo ⊢
  have eN := m_isNaming (d := d + 13) (ad := ad) (scrS := scrS) (l := l) (dC := dC) (dI := dI) (cA := cA) hp (a := a) (b := b) i1
  rw [row 22 (by decide) (by decide) (by decide) (by decide), row 27 (by decide) (by decide) (by decide) (by decide), row 29 (by decide) (by decide) (by decide) (by decide)] at eN
  have hne : L ≠ [] ↔ 0 < L.length := List.length_pos_iff.symm
  obtain ⟨sb, hsb⟩ : ∃ sb : Nat → Bool, sb = wDc (stSZ Z L a.toNat b.toNat) := ⟨_, rfl⟩
  have l40 : (0 ≤ a ∧ a < 12 ∧ M 22 0 a.toNat ≠ 0 ∧ 0 ≤ b ∧ b < M 27 0 a.toNat ∧ (M 29 0 (6 * a.toNat + b.toNat) = 0 ∨ M 29 0 (6 * a.toNat + b.toNat) = 3 ∨ M 29 0 (6 * a.toNat + b.toNat) = 4)) → 0 < L.length → ∀ (m n : Nat), n + m = 8 → cEnds (cBG tm tf EX l dC dI cA ad scrS (d + 17)) Po 90 gX10_stood 40 [a, b, 6 * a + b, wBt sb n, (n : Int)] M1 := by
    intro hN h0
    obtain ⟨n1, n2, n3, n4, n5, n6⟩ := hN
    obtain ⟨p, rfl⟩ : ∃ p : Nat, a = (p : Int) := ⟨a.toNat, by omega⟩
    obtain ⟨ly, rfl⟩ : ∃ ly : Nat, b = (ly : Int) := ⟨b.toNat, by omega⟩
    rw [show ((p : Nat) : Int).toNat = p by omega, show ((ly : Nat) : Int).toNat = ly by omega] at *
    have hp9 : p < 12 := by omega
    obtain ⟨u0, u1, u2⟩ := z1.1 p hp9
    have hl : ly < Z.1 p := by have := (hz.1 p hp9).2.1; omega
    obtain ⟨v1, v2⟩ := z1.2.1 p ly hp9 hl
    have ed : M 29 0 (6 * p + ly) = Z.2.2.1 p ly := (hz.2.1 p ly hp9 hl).2
    rw [ed] at n6
    have he : ly % 2 = 0 := by have := hZ.2.2 p ly hp9 hl; omega
    obtain ⟨ha, eha⟩ : ∃ ha : Nat, ha = Z.2.1 p ly := ⟨_, rfl⟩
    obtain ⟨hb, ehb⟩ : ∃ hb : Nat, hb = Z.2.1 p (ly + 1) := ⟨_, rfl⟩
    have ha6 : ha < 6 := by rw [eha]; exact hZ.1 p ly
    have hb6 : hb < 6 := by rw [ehb]; exact hZ.1 p (ly + 1)
    rw [← eha] at v1
    have v3 : ly + 1 < Z.1 p → M1 28 0 ((6 * p + ly) + 1) = (hb : Int) := fun z => by rw [Nat.add_assoc, (z1.2.1 p (ly + 1) hp9 z).1, ehb]
    obtain ⟨dv, edv⟩ : ∃ dv : Int, dv = Z.2.2.1 p ly := ⟨_, rfl⟩
    rw [← edv] at v2 n6
    intro m
    induction m with
    | zero =>
      intro n hn
      have br := wBt_r sb n
      refine cEnds_at gX10_stood_m40 rfl ?_
      refine d_br (fun h => ?_) (fun h => ?_)
      · exact wret1 (wBt sb n) (by simp only [cE2, sev, svl, cen, List.cons_append, List.nil_append]; omega) (by omega) (hPo _ _ ⟨hF, _, rfl, Or.inr ⟨⟨⟨by omega, by omega, n3, by omega, n5, by rw [ed, ← edv]; exact n6⟩, hne.mpr h0⟩, by rw [show n = 8 by omega, hsb]⟩⟩)
      · simp only [cCmp, cE2, sev, svl, cen, List.cons_append, List.nil_append] at h
        omega
    | succ m ih =>
      intro n hn
      have br := wBt_r sb n
      have n8 : n < 8 := by omega
      have nx := ih (n + 1) (by omega)
      have no : ¬ stSZ Z L p ly n → cfn 1 (wBt sb n) 0 = wBt sb (n + 1) := fun z => by rw [cfn1_0 br, wBt_n (by rw [hsb]; exact wDc_n z)]
      have yes : stSZ Z L p ly n → cfn 1 (wBt sb n) (cfn 2 1 (n : Int)) = wBt sb (n + 1) := fun z => by rw [wBt_y (by rw [hsb]; exact wDc_y z)]
      generalize wBt sb (n + 1) = R2 at no yes nx
      have v4 := z1.2.2.2 n n8
      obtain ⟨rn, ern⟩ : ∃ rn : Int, rn = Z.2.2.2.2 n := ⟨_, rfl⟩
      rw [← ern] at v4
      have hfit := z1.2.2.1 p ly n hp9 hl n8
      have hP : ∀ s : Nat → Int, ((Z.2.2.1 p ly ≠ 4 → Z.2.2.2.2 n ≤ s (Z.2.1 p ly)) ∧ (ly + 1 < Z.1 p → Z.2.2.2.2 n + 1 ≤ s (Z.2.1 p (ly + 1)))) ↔ ((dv ≠ 4 → rn ≤ s ha) ∧ (ly + 1 < Z.1 p → rn + 1 ≤ s hb)) := fun s => by rw [← edv, ← ern, ← eha, ← ehb]
      have hS : stSZ Z L p ly n ↔ (vFt M1 p n ly ∧ ∃ s, s ∈ L ∧ ((dv ≠ 4 → rn ≤ s ha) ∧ (ly + 1 < Z.1 p → rn + 1 ≤ s hb))) := by
        unfold stSZ
        rw [hfit]
        exact and_congr Iff.rfl ⟨fun ⟨s, y1, y2⟩ => ⟨s, y1, (hP s).mp y2⟩, fun ⟨s, y1, y2⟩ => ⟨s, y1, (hP s).mpr y2⟩⟩
      -- out of the stories
      have outY : stSZ Z L p ly n → ∀ k : Nat, cEnds (cBG tm tf EX l dC dI cA ad scrS (d + 17)) Po 90 gX10_stood 53 [(p : Int), (ly : Int), 6 * (p : Int) + (ly : Int), wBt sb n, (n : Int), 1, (k : Int)] M1 := by
        intro hy k
        refine cEnds_at gX10_stood_m53 rfl ?_
        refine d_fld 0 (by simp only [cE2, sev, svl, cen, List.cons_append, List.nil_append]; omega) ?_
        refine d_br (fun h => ?_) (fun h => ?_)
        · simp only [cCmp, cE2, sev, svl, cen, List.cons_append, List.nil_append] at h
          refine d_br (fun h => ?_) (fun h => ?_)
          · simp only [cCmp, cE2, sev, svl, cen, List.cons_append, List.nil_append] at h
            omega
          · clear h
            refine d_opw 1 (n : Int) (by simp [cE2, sev, svl, cen] <;> omega) (by simp [cE2, sev, svl, cen] <;> omega) ?_
            refine d_opw (wBt sb n) (cfn 2 1 (n : Int)) (by simp [cE2, sev, svl, cen] <;> omega) (by simp [cE2, sev, svl, cen] <;> omega) ?_
            refine d_rng (by simp only [clo, chi, cE2, sev, svl, cen, List.cons_append, List.nil_append]; omega) ?_
            rw [yes hy]
            refine d_cut [(p : Int), (ly : Int), 6 * (p : Int) + (ly : Int), R2, ((n + 1 : Nat) : Int)] (by simp [cE2, sev, svl, cen] <;> omega) ?_
            exact nx
        · simp only [cCmp, cE2, sev, svl, cen, List.cons_append, List.nil_append] at h
          refine d_br (fun h => ?_) (fun h => ?_)
          · clear h
            refine d_br (fun h => ?_) (fun h => ?_)
            · simp only [cCmp, cE2, sev, svl, cen, List.cons_append, List.nil_append] at h
              omega
            · clear h
              refine d_opw 1 (n : Int) (by simp [cE2, sev, svl, cen] <;> omega) (by simp [cE2, sev, svl, cen] <;> omega) ?_
              refine d_opw (wBt sb n) (cfn 2 1 (n : Int)) (by simp [cE2, sev, svl, cen] <;> omega) (by simp [cE2, sev, svl, cen] <;> omega) ?_
              refine d_rng (by simp only [clo, chi, cE2, sev, svl, cen, List.cons_append, List.nil_append]; omega) ?_
              rw [yes hy]
              refine d_cut [(p : Int), (ly : Int), 6 * (p : Int) + (ly : Int), R2, ((n + 1 : Nat) : Int)] (by simp [cE2, sev, svl, cen] <;> omega) ?_
              exact nx
          · simp only [cCmp, cE2, sev, svl, cen, List.cons_append, List.nil_append] at h
            omega
      have l53 : ∀ (m2 k : Nat), k + m2 = L.length → (¬ ∃ s, s ∈ L.take k ∧ ((dv ≠ 4 → rn ≤ s ha) ∧ (ly + 1 < Z.1 p → rn + 1 ≤ s hb))) → cEnds (cBG tm tf EX l dC dI cA ad scrS (d + 17)) Po 90 gX10_stood 53 [(p : Int), (ly : Int), 6 * (p : Int) + (ly : Int), wBt sb n, (n : Int), 0, (k : Int)] M1 := by
        intro m2
        induction m2 with
        | zero =>
          intro k hk hq
          have ek : k = L.length := by omega
          subst ek
          rw [List.take_length] at hq
          have hno : ¬ stSZ Z L p ly n := fun z => hq (hS.mp z).2
          refine cEnds_at gX10_stood_m53 rfl ?_
          refine d_fld 0 (by simp only [cE2, sev, svl, cen, List.cons_append, List.nil_append]; omega) ?_
          rw [e32]
          refine d_br (fun h => ?_) (fun h => ?_)
          · simp only [cCmp, cE2, sev, svl, cen, List.cons_append, List.nil_append] at h
            first
            | omega
            | skip
              refine d_br (fun h => ?_) (fun h => ?_)
              · clear h
                refine d_opw (wBt sb n) 0 (by simp [cE2, sev, svl, cen] <;> omega) (by simp [cE2, sev, svl, cen] <;> omega) ?_
                refine d_rng (by simp only [clo, chi, cE2, sev, svl, cen, List.cons_append, List.nil_append]; omega) ?_
                rw [no hno]
                refine d_cut [(p : Int), (ly : Int), 6 * (p : Int) + (ly : Int), R2, ((n + 1 : Nat) : Int)] (by simp [cE2, sev, svl, cen] <;> omega) ?_
                exact nx
              · simp only [cCmp, cE2, sev, svl, cen, List.cons_append, List.nil_append] at h
                omega
          · simp only [cCmp, cE2, sev, svl, cen, List.cons_append, List.nil_append] at h
            first
            | omega
            | skip
              refine d_br (fun h => ?_) (fun h => ?_)
              · simp only [cCmp, cE2, sev, svl, cen, List.cons_append, List.nil_append] at h
                omega
              · clear h
                omega
        | succ m2 ihm =>
          intro k hk hq
          obtain ⟨s, hsk⟩ : ∃ s, L[k]? = some s := ⟨L[k]'(by omega), List.getElem?_eq_getElem (by omega)⟩
          have hm := List.mem_of_getElem? hsk
          have ba := hs s hm ha ha6
          have bb := hs s hm hb hb6
          have go : ¬ ((dv ≠ 4 → rn ≤ s ha) ∧ (ly + 1 < Z.1 p → rn + 1 ≤ s hb)) → cEnds (cBG tm tf EX l dC dI cA ad scrS (d + 17)) Po 90 gX10_stood 53 [(p : Int), (ly : Int), 6 * (p : Int) + (ly : Int), wBt sb n, (n : Int), 0, ((k + 1 : Nat) : Int)] M1 := fun hno => ihm (k + 1) (by omega) (fun z => ((take_ex hsk (fun s => (dv ≠ 4 → rn ≤ s ha) ∧ (ly + 1 < Z.1 p → rn + 1 ≤ s hb))).mp z).elim hq hno)
          have yo : vFt M1 p n ly → ((dv ≠ 4 → rn ≤ s ha) ∧ (ly + 1 < Z.1 p → rn + 1 ≤ s hb)) → cEnds (cBG tm tf EX l dC dI cA ad scrS (d + 17)) Po 90 gX10_stood 53 [(p : Int), (ly : Int), 6 * (p : Int) + (ly : Int), wBt sb n, (n : Int), 1, ((k + 1 : Nat) : Int)] M1 := fun z1 z2 => outY (hS.mpr ⟨z1, s, hm, z2⟩) (k + 1)
          have rI : ∀ g : Nat, g < 6 → _ := fun g hg => m_reignIn (d := d + 16) (ad := ad) (scrS := scrS) (l := l) (dC := dC) (dI := dI) (cA := cA) hp (i := k) (g := g) (s := s) (M := M1) (by omega) (e36 k s hsk) (hs s hm) hg
          refine cEnds_at gX10_stood_m53 rfl ?_
          refine d_fld 0 (by simp only [cE2, sev, svl, cen, List.cons_append, List.nil_append]; omega) ?_
          rw [e32]
          refine d_br (fun h => ?_) (fun h => ?_)
          · simp only [cCmp, cE2, sev, svl, cen, List.cons_append, List.nil_append] at h
            first
            | omega
            | skip
              refine d_br (fun h => ?_) (fun h => ?_)
              · clear h
                refine d_opw (wBt sb n) 0 (by simp [cE2, sev, svl, cen] <;> omega) (by simp [cE2, sev, svl, cen] <;> omega) ?_
                refine d_rng (by simp only [clo, chi, cE2, sev, svl, cen, List.cons_append, List.nil_append]; omega) ?_
                refine d_cut [(p : Int), (ly : Int), (6 * (p : Int) + (ly : Int)), (cfn 1 (wBt sb n) 0), ((n : Int) + 1)] (by simp [cE2, sev, svl, cen] <;> omega) ?_
                exact (by omega)
              · simp only [cCmp, cE2, sev, svl, cen, List.cons_append, List.nil_append] at h
                omega
          · simp only [cCmp, cE2, sev, svl, cen, List.cons_append, List.nil_append] at h
            first
            | omega
            | skip
              refine d_br (fun h => ?_) (fun h => ?_)
              · simp only [cCmp, cE2, sev, svl, cen, List.cons_append, List.nil_append] at h
                omega
              · clear h
                refine d_call (m_doesFit (d := d + 11) hp i1 x1 (nm := n) (p := p) n8 hp9 3 ly (by omega) he (by omega)) (by simp [cAs, cE2, sev, svl, cen] <;> omega) ?_
                intro rr M' hq
                obtain ⟨hM', hq⟩ := hq
                rw [hM']
                rcases hq with ⟨rfl, q8⟩ | ⟨rfl, q8⟩
                · refine ⟨rfl, ?_⟩
                  refine d_br (fun h => ?_) (fun h => ?_)
                  · simp only [cCmp, cE2, sev, svl, cen, List.cons_append, List.nil_append] at h
                    omega
                  · clear h
                    refine d_row 0 ((6 * p + ly)) (by simp only [cE2, sev, svl, cen, List.cons_append, List.nil_append]; omega) (by simp only [cE2, sev, svl, cen, List.cons_append, List.nil_append]; omega) (by omega) ?_
                    rw [v2]
                    refine d_br (fun h => ?_) (fun h => ?_)
                    · simp only [cCmp, cE2, sev, svl, cen, List.cons_append, List.nil_append] at h
                      first
                      | omega
                      | skip
                        refine d_rng (by simp only [clo, chi, cE2, sev, svl, cen, List.cons_append, List.nil_append]; omega) ?_
                        refine d_row 0 p (by simp only [cE2, sev, svl, cen, List.cons_append, List.nil_append]; omega) (by simp only [cE2, sev, svl, cen, List.cons_append, List.nil_append]; omega) (by omega) ?_
                        rw [u1]
                        refine d_br (fun h => ?_) (fun h => ?_)
                        · simp only [cCmp, cE2, sev, svl, cen, List.cons_append, List.nil_append] at h
                          first
                          | omega
                          | skip
                            refine d_rng (by simp only [clo, chi, cE2, sev, svl, cen, List.cons_append, List.nil_append]; omega) ?_
                            refine d_cut [(p : Int), (ly : Int), 6 * (p : Int) + (ly : Int), wBt sb n, (n : Int), 1, ((k + 1 : Nat) : Int)] (by simp [cE2, sev, svl, cen] <;> omega) ?_
                            exact yo q8 ⟨fun z => absurd (by omega) z, fun z => by omega⟩
                        · simp only [cCmp, cE2, sev, svl, cen, List.cons_append, List.nil_append] at h
                          first
                          | omega
                          | skip
                            refine d_row 0 n (by simp only [cE2, sev, svl, cen, List.cons_append, List.nil_append]; omega) (by simp only [cE2, sev, svl, cen, List.cons_append, List.nil_append]; omega) (by omega) ?_
                            rw [v4]
                            refine d_rng (by simp only [clo, chi, cE2, sev, svl, cen, List.cons_append, List.nil_append]; omega) ?_
                            refine d_row 0 ((6 * p + ly) + 1) (by simp only [cE2, sev, svl, cen, List.cons_append, List.nil_append]; omega) (by simp only [cE2, sev, svl, cen, List.cons_append, List.nil_append]; omega) (by omega) ?_
                            rw [v3 (by omega)]
                            refine d_call (rI ((hb : Int)).toNat (by omega)) (by simp [cAs, cE2, sev, svl, cen] <;> omega) ?_
                            intro rr M' hq
                            obtain ⟨hM', rfl⟩ := hq
                            rw [hM']
                            refine ⟨rfl, ?_⟩
                            refine d_br (fun h => ?_) (fun h => ?_)
                            · simp only [cCmp, cE2, sev, svl, cen, List.cons_append, List.nil_append] at h
                              first
                              | omega
                              | skip
                                refine d_rng (by simp only [clo, chi, cE2, sev, svl, cen, List.cons_append, List.nil_append]; omega) ?_
                                refine d_cut [(p : Int), (ly : Int), 6 * (p : Int) + (ly : Int), wBt sb n, (n : Int), 0, ((k + 1 : Nat) : Int)] (by simp [cE2, sev, svl, cen] <;> omega) ?_
                                exact go (fun z => by have := z.2 (by omega); rw [show ((hb : Nat) : Int).toNat = hb by omega] at h; omega)
                            · simp only [cCmp, cE2, sev, svl, cen, List.cons_append, List.nil_append] at h
                              first
                              | omega
                              | skip
                                refine d_rng (by simp only [clo, chi, cE2, sev, svl, cen, List.cons_append, List.nil_append]; omega) ?_
                                refine d_cut [(p : Int), (ly : Int), 6 * (p : Int) + (ly : Int), wBt sb n, (n : Int), 1, ((k + 1 : Nat) : Int)] (by simp [cE2, sev, svl, cen] <;> omega) ?_
                                exact yo q8 ⟨fun z => absurd (by omega) z, fun z => by rw [show ((hb : Nat) : Int).toNat = hb by omega] at h; omega⟩
                    · simp only [cCmp, cE2, sev, svl, cen, List.cons_append, List.nil_append] at h
                      first
                      | omega
                      | skip
                        refine d_row 0 n (by simp only [cE2, sev, svl, cen, List.cons_append, List.nil_append]; omega) (by simp only [cE2, sev, svl, cen, List.cons_append, List.nil_append]; omega) (by omega) ?_
                        rw [v4]
                        refine d_row 0 ((6 * p + ly)) (by simp only [cE2, sev, svl, cen, List.cons_append, List.nil_append]; omega) (by simp only [cE2, sev, svl, cen, List.cons_append, List.nil_append]; omega) (by omega) ?_
                        rw [v1]
                        refine d_call (rI ((ha : Int)).toNat (by omega)) (by simp [cAs, cE2, sev, svl, cen] <;> omega) ?_
                        intro rr M' hq
                        obtain ⟨hM', rfl⟩ := hq
                        rw [hM']
                        refine ⟨rfl, ?_⟩
                        refine d_br (fun h => ?_) (fun h => ?_)
                        · simp only [cCmp, cE2, sev, svl, cen, List.cons_append, List.nil_append] at h
                          first
                          | omega
                          | skip
                            refine d_rng (by simp only [clo, chi, cE2, sev, svl, cen, List.cons_append, List.nil_append]; omega) ?_
                            refine d_cut [(p : Int), (ly : Int), 6 * (p : Int) + (ly : Int), wBt sb n, (n : Int), 0, ((k + 1 : Nat) : Int)] (by simp [cE2, sev, svl, cen] <;> omega) ?_
                            exact go (fun z => by have := z.1 (by omega); rw [show ((ha : Nat) : Int).toNat = ha by omega] at h; omega)
                        · simp only [cCmp, cE2, sev, svl, cen, List.cons_append, List.nil_append] at h
                          first
                          | omega
                          | skip
                            refine d_rng (by simp only [clo, chi, cE2, sev, svl, cen, List.cons_append, List.nil_append]; omega) ?_
                            refine d_row 0 p (by simp only [cE2, sev, svl, cen, List.cons_append, List.nil_append]; omega) (by simp only [cE2, sev, svl, cen, List.cons_append, List.nil_append]; omega) (by omega) ?_
                            rw [u1]
                            refine d_br (fun h => ?_) (fun h => ?_)
                            · simp only [cCmp, cE2, sev, svl, cen, List.cons_append, List.nil_append] at h
                              first
                              | omega
                              | skip
                                refine d_rng (by simp only [clo, chi, cE2, sev, svl, cen, List.cons_append, List.nil_append]; omega) ?_
                                refine d_cut [(p : Int), (ly : Int), 6 * (p : Int) + (ly : Int), wBt sb n, (n : Int), 1, ((k + 1 : Nat) : Int)] (by simp [cE2, sev, svl, cen] <;> omega) ?_
                                exact yo q8 ⟨fun z => by simp only [Int.toNat_natCast] at *; omega, fun z => by omega⟩
                            · simp only [cCmp, cE2, sev, svl, cen, List.cons_append, List.nil_append] at h
                              first
                              | omega
                              | skip
                                refine d_row 0 n (by simp only [cE2, sev, svl, cen, List.cons_append, List.nil_append]; omega) (by simp only [cE2, sev, svl, cen, List.cons_append, List.nil_append]; omega) (by omega) ?_
                                rw [v4]
                                refine d_rng (by simp only [clo, chi, cE2, sev, svl, cen, List.cons_append, List.nil_append]; omega) ?_
                                refine d_row 0 ((6 * p + ly) + 1) (by simp only [cE2, sev, svl, cen, List.cons_append, List.nil_append]; omega) (by simp only [cE2, sev, svl, cen, List.cons_append, List.nil_append]; omega) (by omega) ?_
                                rw [v3 (by omega)]
                                refine d_call (rI ((hb : Int)).toNat (by omega)) (by simp [cAs, cE2, sev, svl, cen] <;> omega) ?_
                                intro rr M' hq
                                obtain ⟨hM', rfl⟩ := hq
                                rw [hM']
                                refine ⟨rfl, ?_⟩
                                refine d_br (fun h => ?_) (fun h => ?_)
                                · simp only [cCmp, cE2, sev, svl, cen, List.cons_append, List.nil_append] at h
                                  first
                                  | omega
                                  | skip
                                    refine d_rng (by simp only [clo, chi, cE2, sev, svl, cen, List.cons_append, List.nil_append]; omega) ?_
                                    refine d_cut [(p : Int), (ly : Int), 6 * (p : Int) + (ly : Int), wBt sb n, (n : Int), 0, ((k + 1 : Nat) : Int)] (by simp [cE2, sev, svl, cen] <;> omega) ?_
                                    exact go (fun z => by have := z.2 (by omega); simp only [Int.toNat_natCast] at *; omega)
                                · simp only [cCmp, cE2, sev, svl, cen, List.cons_append, List.nil_append] at h
                                  first
                                  | omega
                                  | skip
                                    refine d_rng (by simp only [clo, chi, cE2, sev, svl, cen, List.cons_append, List.nil_append]; omega) ?_
                                    refine d_cut [(p : Int), (ly : Int), 6 * (p : Int) + (ly : Int), wBt sb n, (n : Int), 1, ((k + 1 : Nat) : Int)] (by simp [cE2, sev, svl, cen] <;> omega) ?_
                                    exact yo q8 ⟨fun z => by simp only [Int.toNat_natCast] at *; omega, fun z => by simp only [Int.toNat_natCast] at *; omega⟩
                · refine ⟨rfl, ?_⟩
                  refine d_br (fun h => ?_) (fun h => ?_)
                  · clear h
                    refine d_br (fun h => ?_) (fun h => ?_)
                    · clear h
                      refine d_opw (wBt sb n) 0 (by simp [cE2, sev, svl, cen] <;> omega) (by simp [cE2, sev, svl, cen] <;> omega) ?_
                      refine d_rng (by simp only [clo, chi, cE2, sev, svl, cen, List.cons_append, List.nil_append]; omega) ?_
                      rw [no (fun z => q8 (hS.mp z).1)]
                      refine d_cut [(p : Int), (ly : Int), 6 * (p : Int) + (ly : Int), R2, ((n + 1 : Nat) : Int)] (by simp [cE2, sev, svl, cen] <;> omega) ?_
                      exact nx
                    · simp only [cCmp, cE2, sev, svl, cen, List.cons_append, List.nil_append] at h
                      omega
                  · simp only [cCmp, cE2, sev, svl, cen, List.cons_append, List.nil_append] at h
                    omega
      refine cEnds_at gX10_stood_m40 rfl ?_
      refine d_br (fun h => ?_) (fun h => ?_)
      · simp only [cCmp, cE2, sev, svl, cen, List.cons_append, List.nil_append] at h
        omega
      · refine d_cut [(p : Int), (ly : Int), 6 * (p : Int) + (ly : Int), wBt sb n, (n : Int), 0, ((0 : Nat) : Int)] (by simp [cE2, sev, svl, cen] <;> omega) ?_
        exact l53 L.length 0 (by omega) (fun ⟨s, y, _⟩ => by cases y)
  have b27 := wIb (f := 27) (i := a.toNat) (lo := 0) (hi := 6) hI 0 rfl
  refine d_call (eN) (by simp [cAs, cE2, sev, svl, cen] <;> omega) ?_
  intro rr M' hq
  obtain ⟨hM', hq⟩ := hq
  rw [hM']
  rcases hq with ⟨rfl, q2⟩ | ⟨rfl, q2⟩
  · refine ⟨rfl, ?_⟩
    refine d_br (fun h => ?_) (fun h => ?_)
    · simp only [cCmp, cE2, sev, svl, cen, List.cons_append, List.nil_append] at h
      omega
    · clear h
      refine d_fld 0 (by simp only [cE2, sev, svl, cen, List.cons_append, List.nil_append]; omega) ?_
      rw [e32]
      refine d_br (fun h => ?_) (fun h => ?_)
      · simp only [cCmp, cE2, sev, svl, cen, List.cons_append, List.nil_append] at h
        first
        | omega
        | skip
          refine d_rng (by simp only [clo, chi, cE2, sev, svl, cen, List.cons_append, List.nil_append]; omega) ?_
          refine d_rng (by simp only [clo, chi, cE2, sev, svl, cen, List.cons_append, List.nil_append]; omega) ?_
          refine d_cut [a, b, 6 * a + b, wBt sb 0, ((0 : Nat) : Int)] (by simp [cE2, sev, svl, cen, wBt]) ?_
          exact l40 q2 (by omega) 8 0 (by omega)
      · simp only [cCmp, cE2, sev, svl, cen, List.cons_append, List.nil_append] at h
        first
        | omega
        | skip
          exact d_ret [(-1)] rfl (by decide) (hPo _ _ ⟨hF, _, rfl, Or.inl ⟨fun z => z.2 (List.length_eq_zero_iff.mp (by omega)), rfl⟩⟩)
  · refine ⟨rfl, ?_⟩
    refine d_br (fun h => ?_) (fun h => ?_)
    · clear h
      exact d_ret [(-1)] rfl (by decide) (hPo _ _ ⟨hF, _, rfl, Or.inl ⟨fun z => q2 z.1, rfl⟩⟩)
    · simp only [cCmp, cE2, sev, svl, cen, List.cons_append, List.nil_append] at h
      omega
theorem m_dated (hp : cPl tm tc tf EX) {a x : Int} {M : SMem} : cBG tm tf EX l dC dI cA ad scrS (d + 2) kX10_dated [(2, 1, 0), (0, 0, a), (0, 0, x)] M (fun rr MM => (((0 ≤ a ∧ a < 6) ∧ -1 ≤ x ∧ x < 6) ∧ rr = [1] ∧ MM = supd (supd (supd M 1 0 0 0) 33 0 a.toNat x) 1 0 28 1) ∨ (¬ ((0 ≤ a ∧ a < 6) ∧ -1 ≤ x ∧ x < 6) ∧ rr = [0] ∧ MM = supd M 1 0 0 0)) := by
  refine cMeth (v := [a, x]) (Fd := 90) hp (by decide) gX10_dated_ok gX10_dated_m0 (by simp [cAs, cE2, sev, svl, cen]) ?_
  refine cEnds_at gX10_dated_m0 rfl ?_
  refine d_put 0 0 (by simp only [cE2, sev, svl, cen, List.cons_append, List.nil_append]; omega) (by simp only [cE2, sev, svl, cen, List.cons_append, List.nil_append]; omega) ?_
  generalize supd M 1 0 0 0 = M0
  refine d_call (m_within hp (x := a) (y := 0) (z := 5)) (by simp [cAs, cE2, sev, svl, cen] <;> omega) ?_
  intro rr M' hq
  obtain ⟨hM', hq⟩ := hq
  rw [hM']
  rcases hq with ⟨rfl, q2⟩ | ⟨rfl, q2⟩
  · refine ⟨rfl, ?_⟩
    refine d_br (fun h => ?_) (fun h => ?_)
    · simp only [cCmp, cE2, sev, svl, cen, List.cons_append, List.nil_append] at h
      omega
    · clear h
      refine d_call (m_within hp (x := x) (y := (-1)) (z := 5)) (by simp [cAs, cE2, sev, svl, cen] <;> omega) ?_
      intro rr M' hq
      obtain ⟨hM', hq⟩ := hq
      rw [hM']
      rcases hq with ⟨rfl, q3⟩ | ⟨rfl, q3⟩
      · refine ⟨rfl, ?_⟩
        refine d_br (fun h => ?_) (fun h => ?_)
        · clear h
          refine d_set 0 a.toNat x (by simp only [cE2, sev, svl, cen, List.cons_append, List.nil_append]; omega) (by simp only [cE2, sev, svl, cen, List.cons_append, List.nil_append]; omega) (by omega) (by simp only [cE2, sev, svl, cen, List.cons_append, List.nil_append]; omega) ?_
          refine d_rng (by simp only [clo, chi, cE2, sev, svl, cen, List.cons_append, List.nil_append]; omega) ?_
          refine d_put 0 1 (by simp only [cE2, sev, svl, cen, List.cons_append, List.nil_append]; omega) (by simp only [cE2, sev, svl, cen, List.cons_append, List.nil_append]; omega) ?_
          exact d_ret [1] rfl (by decide) (Or.inl ⟨by omega, rfl, rfl⟩)
        · simp only [cCmp, cE2, sev, svl, cen, List.cons_append, List.nil_append] at h
          omega
      · refine ⟨rfl, ?_⟩
        refine d_br (fun h => ?_) (fun h => ?_)
        · simp only [cCmp, cE2, sev, svl, cen, List.cons_append, List.nil_append] at h
          omega
        · clear h
          exact d_ret [0] rfl (by decide) (Or.inr ⟨by omega, rfl, rfl⟩)
  · refine ⟨rfl, ?_⟩
    refine d_br (fun h => ?_) (fun h => ?_)
    · clear h
      exact d_ret [0] rfl (by decide) (Or.inr ⟨by omega, rfl, rfl⟩)
    · simp only [cCmp, cE2, sev, svl, cen, List.cons_append, List.nil_append] at h
      omega
end CS18B
