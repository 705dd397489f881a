/-! what the methods do: the reference's calls on blocks -/
theorem bRc_ge {T L R C : Nat → Int} : ∀ r u k x, r ≤ 6 → bRc T L R C r u k x → 6 - r ≤ k := by
  intro r
  induction r with
  | zero => intro u k x _ h; exact h.elim
  | succ r ih =>
    intro u k x h6 h
    unfold bRc at h
    rcases h with ⟨-, g', -, -, -, ⟨z, -⟩ | z⟩ | ⟨-, z⟩
    · omega
    · have := ih _ _ _ (by omega) z
      omega
    · have := ih _ _ _ (by omega) z
      omega
theorem bStepM {T L R C : Nat → Int} {S : Nat → Nat → Prop} {M M1 : SMem} {b r g k i : Nat} {u : Int} (hy : bFree u g ∧ bSu T L R C b g) (hb : b < 6) (hTb : T b ≠ 0) (h1 : k < b → M1 55 0 k = M 55 0 k) (h2 : (M1 55 0 b).toNat = g) (e1 : 6 - r = b + 1) : ((S k i ∨ ∃ g', g' < g ∧ bFree u g' ∧ bSu T L R C b g' ∧ ((k < b ∧ T k ≠ 0 ∧ i = (M 55 0 k).toNat ∧ 0 < bCnt T L R C r (bNext u g')) ∨ (k = b ∧ i = g' ∧ 0 < bCnt T L R C r (bNext u g')) ∨ bRc T L R C r (bNext u g') k i)) ∨ (k < 6 - r ∧ T k ≠ 0 ∧ i = (M1 55 0 k).toNat ∧ 0 < bCnt T L R C r (bNext u g)) ∨ bRc T L R C r (bNext u g) k i) ↔ (S k i ∨ ∃ g', g' < (g + 1) ∧ bFree u g' ∧ bSu T L R C b g' ∧ ((k < b ∧ T k ≠ 0 ∧ i = (M 55 0 k).toNat ∧ 0 < bCnt T L R C r (bNext u g')) ∨ (k = b ∧ i = g' ∧ 0 < bCnt T L R C r (bNext u g')) ∨ bRc T L R C r (bNext u g') k i)) := by
  constructor
  · rintro ((z | ⟨g', z1, z2⟩) | z | z)
    · exact Or.inl z
    · exact Or.inr ⟨g', by omega, z2⟩
    · refine Or.inr ⟨g, by omega, hy.1, hy.2, ?_⟩
      by_cases e : k < b
      · exact Or.inl ⟨e, z.2.1, by rw [← h1 e]; exact z.2.2.1, z.2.2.2⟩
      · have ek : k = b := by omega
        subst ek
        exact Or.inr (Or.inl ⟨rfl, by rw [← h2]; exact z.2.2.1, z.2.2.2⟩)
    · exact Or.inr ⟨g, by omega, hy.1, hy.2, Or.inr (Or.inr z)⟩
  · rintro (z | ⟨g', z1, z2⟩)
    · exact Or.inl (Or.inl z)
    · by_cases e : g' = g
      · subst e
        rcases z2.2.2 with z3 | z3 | z3
        · exact Or.inr (Or.inl ⟨by omega, z3.2.1, by rw [h1 z3.1]; exact z3.2.2.1, z3.2.2.2⟩)
        · obtain ⟨rfl, y2, y3⟩ := z3
          exact Or.inr (Or.inl ⟨by omega, hTb, by rw [h2]; exact y2, y3⟩)
        · exact Or.inr (Or.inr z3)
      · exact Or.inl (Or.inr ⟨g', by omega, z2⟩)
theorem bStepN {T L R C : Nat → Int} {S : Nat → Nat → Prop} {M : SMem} {b r k i : Nat} {u : Int} (h : T (5 - r) = 0) (e1 : 6 - r = b + 1) (e2 : b = 5 - r) : (S k i ∨ (k < 6 - r ∧ T k ≠ 0 ∧ i = (M 55 0 k).toNat ∧ 0 < bCnt T L R C r u) ∨ bRc T L R C r u k i) ↔ (S k i ∨ (k < b ∧ T k ≠ 0 ∧ i = (M 55 0 k).toNat ∧ 0 < bCnt T L R C (r + 1) u) ∨ bRc T L R C (r + 1) u k i) := by
  have e : bRc T L R C (r + 1) u k i ↔ bRc T L R C r u k i := by
    rw [bRc_s]
    constructor
    · rintro (z | z)
      · exact absurd h z.1
      · exact z.2
    · intro z
      exact Or.inr ⟨h, z⟩
  rw [e, bCnt_u h]
  constructor
  · rintro (z | z | z)
    · exact Or.inl z
    · refine Or.inr (Or.inl ⟨?_, z.2⟩)
      rcases Nat.lt_or_ge k b with y | y
      · exact y
      · have ek : k = 5 - r := by omega
        exact absurd (by rw [ek]; exact h) z.2.1
    · exact Or.inr (Or.inr z)
  · rintro (z | z | z)
    · exact Or.inl z
    · exact Or.inr (Or.inl ⟨by omega, z.2⟩)
    · exact Or.inr (Or.inr z)
section CB3
variable {EX : SEx} {l : Launch} {dC : Nat → ClassId} {dI : Nat → Nat → Nat} {cA : Nat → ClassId} {ad : SAd} {scrS d : Nat}
theorem m_doesLie (hp : cPl tm tc tf EX) {b g : Nat} {M : SMem} (hb : b < 6) (hg : g < 6) : cBG tm tf EX l dC dI cA ad scrS (d + 1) kX10_doesLie [(2, 1, 0), (0, 0, (b : Int)), (0, 0, (g : Int))] M (fun rr MM => MM = M ∧ ((rr = [1] ∧ (bSu (M 51 0) (M 52 0) (M 53 0) (M 54 0) b g)) ∨ (rr = [0] ∧ ¬ (bSu (M 51 0) (M 52 0) (M 53 0) (M 54 0) b g)))) := by
  refine cMeth (v := [(b : Int), (g : Int)]) (Fd := 90) hp (by decide) gX10_doesLie_ok gX10_doesLie_m0 (by simp [cAs, cE2, sev, svl, cen]) ?_
  unfold bSu
  rw [show 6 + g = g + 6 by omega]
  suffices H : ∀ Po : List Int → SMem → Prop, (∀ rr, ((rr = [1] ∧ (M 51 0 (g + 6) ≠ 0 ∧ M 54 0 b = M 54 0 (g + 6) ∧ ((M 52 0 b = M 52 0 (g + 6) ∧ (M 53 0 b = M 53 0 (g + 6) ∨ M 53 0 b = 0)) ∨ (M 53 0 b = M 53 0 (g + 6) ∧ M 52 0 b = 0)))) ∨ (rr = [0] ∧ ¬ (M 51 0 (g + 6) ≠ 0 ∧ M 54 0 b = M 54 0 (g + 6) ∧ ((M 52 0 b = M 52 0 (g + 6) ∧ (M 53 0 b = M 53 0 (g + 6) ∨ M 53 0 b = 0)) ∨ (M 53 0 b = M 53 0 (g + 6) ∧ M 52 0 b = 0))))) → Po rr M) → cEnds (cBG tm tf EX l dC dI cA ad scrS d) Po 90 gX10_doesLie 0 [(b : Int), (g : Int)] M from H _ (fun _ h => ⟨rfl, h⟩)
  intro Po hPo
  have s83 : ∀ x y z : Int, ((x = 1 ∧ M 52 0 b = M 52 0 (g + 6)) ∨ (x = 0 ∧ M 52 0 b ≠ M 52 0 (g + 6))) → ((y = 1 ∧ M 53 0 b = M 53 0 (g + 6)) ∨ (y = 0 ∧ M 53 0 b ≠ M 53 0 (g + 6))) → ((z = 1 ∧ (M 52 0 b = M 52 0 (g + 6) ∨ M 52 0 b = 0) ∧ (M 53 0 b = M 53 0 (g + 6) ∨ M 53 0 b = 0)) ∨ (z = 0 ∧ ¬ ((M 52 0 b = M 52 0 (g + 6) ∨ M 52 0 b = 0) ∧ (M 53 0 b = M 53 0 (g + 6) ∨ M 53 0 b = 0)))) → cEnds (cBG tm tf EX l dC dI cA ad scrS d) Po 90 gX10_doesLie 83 [(b : Int), (g : Int), x, y, z] M := by
    intro x y z hx hy hz
    refine cEnds_at gX10_doesLie_m83 rfl ?_
    refine d_rng (by simp only [clo, chi, cE2, sev, svl, cen, List.cons_append, List.nil_append]; omega) ?_
    refine d_row 0 (g + 6) (by simp only [cE2, sev, svl, cen, List.cons_append, List.nil_append]; omega) (by simp only [cE2, sev, svl, cen, List.cons_append, List.nil_append]; omega) (by omega) ?_
    refine d_br (fun h => ?_) (fun h => ?_)
    · simp only [cCmp, cE2, sev, svl, cen, List.cons_append, List.nil_append] at h
      first
      | omega
      | skip
        exact d_ret [0] rfl (by decide) (hPo _ (Or.inr ⟨rfl, by omega⟩))
    · simp only [cCmp, cE2, sev, svl, cen, List.cons_append, List.nil_append] at h
      first
      | omega
      | skip
        refine d_row 0 b (by simp only [cE2, sev, svl, cen, List.cons_append, List.nil_append]; omega) (by simp only [cE2, sev, svl, cen, List.cons_append, List.nil_append]; omega) (by omega) ?_
        refine d_rng (by simp only [clo, chi, cE2, sev, svl, cen, List.cons_append, List.nil_append]; omega) ?_
        refine d_row 0 (g + 6) (by simp only [cE2, sev, svl, cen, List.cons_append, List.nil_append]; omega) (by simp only [cE2, sev, svl, cen, List.cons_append, List.nil_append]; omega) (by omega) ?_
        refine d_br (fun h => ?_) (fun h => ?_)
        · simp only [cCmp, cE2, sev, svl, cen, List.cons_append, List.nil_append] at h
          first
          | omega
          | skip
            exact d_ret [0] rfl (by decide) (hPo _ (Or.inr ⟨rfl, by omega⟩))
        · simp only [cCmp, cE2, sev, svl, cen, List.cons_append, List.nil_append] at h
          first
          | omega
          | skip
            refine d_br (fun h => ?_) (fun h => ?_)
            · simp only [cCmp, cE2, sev, svl, cen, List.cons_append, List.nil_append] at h
              first
              | omega
              | skip
                exact d_ret [0] rfl (by decide) (hPo _ (Or.inr ⟨rfl, by omega⟩))
            · simp only [cCmp, cE2, sev, svl, cen, List.cons_append, List.nil_append] at h
              first
              | omega
              | skip
                refine d_br (fun h => ?_) (fun h => ?_)
                · simp only [cCmp, cE2, sev, svl, cen, List.cons_append, List.nil_append] at h
                  first
                  | omega
                  | skip
                    exact d_ret [1] rfl (by decide) (hPo _ (Or.inl ⟨rfl, by omega⟩))
                · simp only [cCmp, cE2, sev, svl, cen, List.cons_append, List.nil_append] at h
                  first
                  | omega
                  | skip
                    refine d_br (fun h => ?_) (fun h => ?_)
                    · simp only [cCmp, cE2, sev, svl, cen, List.cons_append, List.nil_append] at h
                      first
                      | omega
                      | skip
                        exact d_ret [0] rfl (by decide) (hPo _ (Or.inr ⟨rfl, by omega⟩))
                    · simp only [cCmp, cE2, sev, svl, cen, List.cons_append, List.nil_append] at h
                      first
                      | omega
                      | skip
                        exact d_ret [1] rfl (by decide) (hPo _ (Or.inl ⟨rfl, by omega⟩))
  have s49 : ∀ x y : Int, ((x = 1 ∧ M 52 0 b = M 52 0 (g + 6)) ∨ (x = 0 ∧ M 52 0 b ≠ M 52 0 (g + 6))) → ((y = 1 ∧ M 53 0 b = M 53 0 (g + 6)) ∨ (y = 0 ∧ M 53 0 b ≠ M 53 0 (g + 6))) → cEnds (cBG tm tf EX l dC dI cA ad scrS d) Po 90 gX10_doesLie 49 [(b : Int), (g : Int), x, y] M := by
    intro x y hx hy
    refine cEnds_at gX10_doesLie_m49 rfl ?_
    refine d_br (fun h => ?_) (fun h => ?_)
    · simp only [cCmp, cE2, sev, svl, cen, List.cons_append, List.nil_append] at h
      first
      | omega
      | skip
        refine d_br (fun h => ?_) (fun h => ?_)
        · simp only [cCmp, cE2, sev, svl, cen, List.cons_append, List.nil_append] at h
          first
          | omega
          | skip
            refine d_cut [(b : Int), (g : Int), x, y, 1] (by simp [cE2, sev, svl, cen] <;> omega) ?_
            exact s83 x y 1 hx hy (by omega)
        · simp only [cCmp, cE2, sev, svl, cen, List.cons_append, List.nil_append] at h
          first
          | omega
          | skip
            refine d_row 0 b (by simp only [cE2, sev, svl, cen, List.cons_append, List.nil_append]; omega) (by simp only [cE2, sev, svl, cen, List.cons_append, List.nil_append]; omega) (by omega) ?_
            refine d_br (fun h => ?_) (fun h => ?_)
            · simp only [cCmp, cE2, sev, svl, cen, List.cons_append, List.nil_append] at h
              first
              | omega
              | skip
                refine d_cut [(b : Int), (g : Int), x, y, 0] (by simp [cE2, sev, svl, cen] <;> omega) ?_
                exact s83 x y 0 hx hy (by omega)
            · simp only [cCmp, cE2, sev, svl, cen, List.cons_append, List.nil_append] at h
              first
              | omega
              | skip
                refine d_cut [(b : Int), (g : Int), x, y, 1] (by simp [cE2, sev, svl, cen] <;> omega) ?_
                exact s83 x y 1 hx hy (by omega)
    · simp only [cCmp, cE2, sev, svl, cen, List.cons_append, List.nil_append] at h
      first
      | omega
      | skip
        refine d_row 0 b (by simp only [cE2, sev, svl, cen, List.cons_append, List.nil_append]; omega) (by simp only [cE2, sev, svl, cen, List.cons_append, List.nil_append]; omega) (by omega) ?_
        refine d_br (fun h => ?_) (fun h => ?_)
        · simp only [cCmp, cE2, sev, svl, cen, List.cons_append, List.nil_append] at h
          first
          | omega
          | skip
            refine d_cut [(b : Int), (g : Int), x, y, 0] (by simp [cE2, sev, svl, cen] <;> omega) ?_
            exact s83 x y 0 hx hy (by omega)
        · simp only [cCmp, cE2, sev, svl, cen, List.cons_append, List.nil_append] at h
          first
          | omega
          | skip
            refine d_br (fun h => ?_) (fun h => ?_)
            · simp only [cCmp, cE2, sev, svl, cen, List.cons_append, List.nil_append] at h
              first
              | omega
              | skip
                refine d_cut [(b : Int), (g : Int), x, y, 1] (by simp [cE2, sev, svl, cen] <;> omega) ?_
                exact s83 x y 1 hx hy (by omega)
            · simp only [cCmp, cE2, sev, svl, cen, List.cons_append, List.nil_append] at h
              first
              | omega
              | skip
                refine d_row 0 b (by simp only [cE2, sev, svl, cen, List.cons_append, List.nil_append]; omega) (by simp only [cE2, sev, svl, cen, List.cons_append, List.nil_append]; omega) (by omega) ?_
                refine d_br (fun h => ?_) (fun h => ?_)
                · simp only [cCmp, cE2, sev, svl, cen, List.cons_append, List.nil_append] at h
                  first
                  | omega
                  | skip
                    refine d_cut [(b : Int), (g : Int), x, y, 0] (by simp [cE2, sev, svl, cen] <;> omega) ?_
                    exact s83 x y 0 hx hy (by omega)
                · simp only [cCmp, cE2, sev, svl, cen, List.cons_append, List.nil_append] at h
                  first
                  | omega
                  | skip
                    refine d_cut [(b : Int), (g : Int), x, y, 1] (by simp [cE2, sev, svl, cen] <;> omega) ?_
                    exact s83 x y 1 hx hy (by omega)
  have s24 : ∀ x : Int, ((x = 1 ∧ M 52 0 b = M 52 0 (g + 6)) ∨ (x = 0 ∧ M 52 0 b ≠ M 52 0 (g + 6))) → cEnds (cBG tm tf EX l dC dI cA ad scrS d) Po 90 gX10_doesLie 24 [(b : Int), (g : Int), x] M := by
    intro x hx
    refine cEnds_at gX10_doesLie_m24 rfl ?_
    refine d_row 0 b (by simp only [cE2, sev, svl, cen, List.cons_append, List.nil_append]; omega) (by simp only [cE2, sev, svl, cen, List.cons_append, List.nil_append]; omega) (by omega) ?_
    refine d_rng (by simp only [clo, chi, cE2, sev, svl, cen, List.cons_append, List.nil_append]; omega) ?_
    refine d_row 0 (g + 6) (by simp only [cE2, sev, svl, cen, List.cons_append, List.nil_append]; omega) (by simp only [cE2, sev, svl, cen, List.cons_append, List.nil_append]; omega) (by omega) ?_
    refine d_br (fun h => ?_) (fun h => ?_)
    · simp only [cCmp, cE2, sev, svl, cen, List.cons_append, List.nil_append] at h
      first
      | omega
      | skip
        refine d_cut [(b : Int), (g : Int), x, 0] (by simp [cE2, sev, svl, cen] <;> omega) ?_
        exact s49 x 0 hx (by omega)
    · simp only [cCmp, cE2, sev, svl, cen, List.cons_append, List.nil_append] at h
      first
      | omega
      | skip
        refine d_cut [(b : Int), (g : Int), x, 1] (by simp [cE2, sev, svl, cen] <;> omega) ?_
        exact s49 x 1 hx (by omega)
  refine cEnds_at gX10_doesLie_m0 rfl ?_
  refine d_row 0 b (by simp only [cE2, sev, svl, cen, List.cons_append, List.nil_append]; omega) (by simp only [cE2, sev, svl, cen, List.cons_append, List.nil_append]; omega) (by omega) ?_
  refine d_rng (by simp only [clo, chi, cE2, sev, svl, cen, List.cons_append, List.nil_append]; omega) ?_
  refine d_row 0 (g + 6) (by simp only [cE2, sev, svl, cen, List.cons_append, List.nil_append]; omega) (by simp only [cE2, sev, svl, cen, List.cons_append, List.nil_append]; omega) (by omega) ?_
  refine d_br (fun h => ?_) (fun h => ?_)
  · simp only [cCmp, cE2, sev, svl, cen, List.cons_append, List.nil_append] at h
    first
    | omega
    | skip
      refine d_cut [(b : Int), (g : Int), 0] (by simp [cE2, sev, svl, cen] <;> omega) ?_
      exact s24 0 (by omega)
  · simp only [cCmp, cE2, sev, svl, cen, List.cons_append, List.nil_append] at h
    first
    | omega
    | skip
      refine d_cut [(b : Int), (g : Int), 1] (by simp [cE2, sev, svl, cen] <;> omega) ?_
      exact s24 1 (by omega)
theorem m_fills (hp : cPl tm tc tf EX) {T L R C : Nat → Int} : ∀ (r : Nat), r ≤ 6 → ∀ (u : Int) (S : Nat → Nat → Prop) (w : Nat) (M : SMem), sI tg M → M 51 0 = T → M 52 0 = L → M 53 0 = R → M 54 0 = C → (∀ k, k < 6 → M 56 0 k = wBt (wDc (S k)) 6) → M 1 0 56 = (w : Int) → w + 6 ^ r ≤ 100000 → cBG tm tf EX l dC dI cA ad scrS (d + r + 3) kX10_fills [(2, 1, 0), (0, 0, ((6 - r : Nat) : Int)), (0, 0, u)] M (fun rr MM => rr = [] ∧ sI tg MM ∧ MM 1 0 56 = ((w + bCnt T L R C r u : Nat) : Int) ∧ (∀ f j i, f ≠ 55 → f ≠ 56 → ¬ (f = 1 ∧ i = 56) → MM f j i = M f j i) ∧ (∀ k, k < (6 - r) → MM 55 0 k = M 55 0 k) ∧ ∀ k, k < 6 → MM 56 0 k = wBt (wDc (fun x => S k x ∨ (k < (6 - r) ∧ T k ≠ 0 ∧ x = (M 55 0 k).toNat ∧ 0 < bCnt T L R C r u) ∨ bRc T L R C r u k x)) 6) := by
  intro r
  induction r with
  | zero =>
    intro _ u S w M hI e51 e52 e53 e54 hS hw hw9
    refine cMeth (v := [((6 - 0 : Nat) : Int), u]) (Fd := 90) hp (by decide) gX10_fills_ok gX10_fills_m0 (by simp [cAs, cE2, sev, svl, cen]) ?_
    suffices H : ∀ Po : List Int → SMem → Prop, (∀ rr MM, (rr = [] ∧ sI tg MM ∧ MM 1 0 56 = ((w + 1 : Nat) : Int) ∧ (∀ f j i, f ≠ 56 → ¬ (f = 1 ∧ i = 56) → MM f j i = M f j i) ∧ ∀ k, k < 6 → MM 56 0 k = wBt (wDc (fun x => S k x ∨ (T k ≠ 0 ∧ x = (M 55 0 k).toNat))) 6) → Po rr MM) → cEnds (cBG tm tf EX l dC dI cA ad scrS (d + 0 + 2)) Po 90 gX10_fills 0 [((6 - 0 : Nat) : Int), u] M from H _ (fun rr MM h => ?_)
    · obtain ⟨h1, h2, h3, h4, h5⟩ := h
      refine ⟨h1, h2, h3, fun f j i z1 z2 z3 => h4 f j i z2 z3, fun k _ => h4 55 0 k (by decide) (by omega), fun k hk => ?_⟩
      rw [h5 k hk]
      refine wBt_cg 6 (fun i _ => wDc_cg ⟨fun y => y.elim Or.inl (fun y => Or.inr (Or.inl ⟨by omega, y.1, y.2, Nat.one_pos⟩)), fun y => y.elim Or.inl (fun y => y.elim (fun y => Or.inr ⟨y.2.1, y.2.2.1⟩) False.elim)⟩)
    · intro Po hPo
      have loop : ∀ (m k : Nat) (M1 : SMem), k + m = 6 → sI tg M1 → M1 1 0 56 = ((w + 1 : Nat) : Int) → (∀ f j i, f ≠ 56 → ¬ (f = 1 ∧ i = 56) → M1 f j i = M f j i) → (∀ i, i < k → M1 56 0 i = wBt (wDc (fun x => S i x ∨ (T i ≠ 0 ∧ x = (M 55 0 i).toNat))) 6) → (∀ i, k ≤ i → i < 6 → M1 56 0 i = wBt (wDc (S i)) 6) → cEnds (cBG tm tf EX l dC dI cA ad scrS (d + 0 + 2)) Po 90 gX10_fills 18 [(k : Int)] M1 := by
        intro m
        induction m with
        | zero =>
          intro k M1 hk i1 w1 f1 z1 z2
          have ek : k = 6 := by omega
          subst ek
          refine cEnds_at gX10_fills_m18 rfl ?_
          refine d_br (fun h => ?_) (fun h => ?_)
          · exact d_ret [] rfl (by decide) (hPo _ _ ⟨rfl, i1, w1, f1, z1⟩)
          · simp only [cCmp, cE2, sev, svl, cen, List.cons_append, List.nil_append] at h
            omega
        | succ m ih =>
          intro k M1 hk i1 w1 f1 z1 z2
          have t51 : M1 51 0 k = T k := by rw [f1 51 0 k (by decide) (by omega), e51]
          have t55 : M1 55 0 k = M 55 0 k := f1 55 0 k (by decide) (by omega)
          have b5 := wIb (f := 55) (i := k) (lo := 0) (hi := 5) hI 0 rfl
          have zk := z2 k (Nat.le_refl _) (by omega)
          have br := wBt_r (wDc (S k)) 6
          have go : ∀ z : Int, z = wBt (wDc (fun x => S k x ∨ (T k ≠ 0 ∧ x = (M 55 0 k).toNat))) 6 → cEnds (cBG tm tf EX l dC dI cA ad scrS (d + 0 + 2)) Po 90 gX10_fills 18 [((k + 1 : Nat) : Int)] (supd M1 56 0 k z) := by
            intro z hz
            refine ih (k + 1) _ (by omega) (wI (lo := -2147483648) (hi := 2147483647) i1 rfl (by rw [hz]; exact wBt_r _ 6)) (by rw [supd_f (by decide)]; exact w1) (fun f j i y1 y2 => by rw [supd_f y1, f1 f j i y1 y2]) (fun i hi => ?_) (fun i y1 y2 => ?_)
            · by_cases e : i = k
              · rw [e, supd_at, hz]
              · rw [supd_i e]
                exact z1 i (by omega)
            · rw [supd_i (by omega)]
              exact z2 i (by omega) y2
          refine cEnds_at gX10_fills_m18 rfl ?_
          refine d_br (fun h => ?_) (fun h => ?_)
          · simp only [cCmp, cE2, sev, svl, cen, List.cons_append, List.nil_append] at h
            first
            | omega
            | skip
              exact d_ret [] rfl (by decide) (by omega)
          · simp only [cCmp, cE2, sev, svl, cen, List.cons_append, List.nil_append] at h
            first
            | omega
            | skip
              refine d_row 0 k (by simp only [cE2, sev, svl, cen, List.cons_append, List.nil_append]; omega) (by simp only [cE2, sev, svl, cen, List.cons_append, List.nil_append]; omega) (by omega) ?_
              rw [zk]
              refine d_row 0 k (by simp only [cE2, sev, svl, cen, List.cons_append, List.nil_append]; omega) (by simp only [cE2, sev, svl, cen, List.cons_append, List.nil_append]; omega) (by omega) ?_
              rw [t51]
              refine d_br (fun h => ?_) (fun h => ?_)
              · simp only [cCmp, cE2, sev, svl, cen, List.cons_append, List.nil_append] at h
                first
                | omega
                | skip
                  refine d_opw (wBt (wDc (S k)) 6) 0 (by simp [cE2, sev, svl, cen] <;> omega) (by simp [cE2, sev, svl, cen] <;> omega) ?_
                  refine d_set 0 k (cfn 1 (wBt (wDc (S k)) 6) 0) (by simp only [cE2, sev, svl, cen, List.cons_append, List.nil_append]; omega) (by simp only [cE2, sev, svl, cen, List.cons_append, List.nil_append]; omega) (by omega) (by simp only [cE2, sev, svl, cen, List.cons_append, List.nil_append]; omega) ?_
                  refine d_rng (by simp only [clo, chi, cE2, sev, svl, cen, List.cons_append, List.nil_append]; omega) ?_
                  refine d_cut [((k + 1 : Nat) : Int)] (by simp [cE2, sev, svl, cen] <;> omega) ?_
                  exact go _ (by rw [cfn1_0 br]; exact wBt_cg 6 (fun i _ => wDc_cg ⟨Or.inl, fun y => y.elim id (fun y => absurd (by omega) y.1)⟩))
              · simp only [cCmp, cE2, sev, svl, cen, List.cons_append, List.nil_append] at h
                first
                | omega
                | skip
                  refine d_row 0 k (by simp only [cE2, sev, svl, cen, List.cons_append, List.nil_append]; omega) (by simp only [cE2, sev, svl, cen, List.cons_append, List.nil_append]; omega) (by omega) ?_
                  rw [t55]
                  refine d_opw 1 (M 55 0 k) (by simp [cE2, sev, svl, cen] <;> omega) (by simp [cE2, sev, svl, cen] <;> omega) ?_
                  refine d_opw (wBt (wDc (S k)) 6) (cfn 2 1 (M 55 0 k)) (by simp [cE2, sev, svl, cen] <;> omega) (by simp [cE2, sev, svl, cen] <;> omega) ?_
                  refine d_set 0 k (cfn 1 (wBt (wDc (S k)) 6) (cfn 2 1 (M 55 0 k))) (by simp only [cE2, sev, svl, cen, List.cons_append, List.nil_append]; omega) (by simp only [cE2, sev, svl, cen, List.cons_append, List.nil_append]; omega) (by omega) (by simp only [cE2, sev, svl, cen, List.cons_append, List.nil_append]; omega) ?_
                  refine d_rng (by simp only [clo, chi, cE2, sev, svl, cen, List.cons_append, List.nil_append]; omega) ?_
                  refine d_cut [((k + 1 : Nat) : Int)] (by simp [cE2, sev, svl, cen] <;> omega) ?_
                  exact go _ (by rw [show M 55 0 k = (((M 55 0 k).toNat : Nat) : Int) by omega, wBt_or (by omega)]; exact wBt_cg 6 (fun i _ => wDc_cg ⟨fun y => y.elim Or.inl (fun y => Or.inr ⟨by omega, by omega⟩), fun y => y.elim Or.inl (fun y => Or.inr (by have := y.2; omega))⟩))
      refine cEnds_at gX10_fills_m0 rfl ?_
      refine d_br (fun h => ?_) (fun h => ?_)
      · simp only [cCmp, cE2, sev, svl, cen, List.cons_append, List.nil_append] at h
        omega
      · refine d_fld 0 (by simp only [cE2, sev, svl, cen, List.cons_append, List.nil_append]; omega) ?_
        rw [hw]
        refine d_rng (by simp only [clo, chi, cE2, sev, svl, cen, List.cons_append, List.nil_append]; omega) ?_
        refine d_put 0 ((w + 1 : Nat) : Int) (by simp only [cE2, sev, svl, cen, List.cons_append, List.nil_append]; omega) (by simp only [cE2, sev, svl, cen, List.cons_append, List.nil_append]; omega) ?_
        refine d_cut [((0 : Nat) : Int)] (by simp [cE2, sev, svl, cen] <;> omega) ?_
        refine loop 6 0 _ (by omega) (wI (lo := -2147483648) (hi := 2147483647) hI rfl ⟨by omega, by omega⟩) (supd_at _ _ _ _ _) (fun f j i y1 y2 => ?_) (fun i hi => by omega) (fun i _ hi => by rw [supd_f (by decide)]; exact hS i hi)
        exact if_neg (fun q => y2 ⟨q.1, q.2.2⟩)
  | succ r ih =>
    intro h6 u S w M hI e51 e52 e53 e54 hS hw hw9
    obtain ⟨b, hb⟩ : ∃ b : Nat, b = 5 - r := ⟨_, rfl⟩
    have eb : (6 - (r + 1) : Nat) = b := by omega
    have eb1 : (6 - r : Nat) = b + 1 := by omega
    rw [eb]
    refine cMeth (v := [(b : Int), u]) (Fd := 90) hp (by decide) gX10_fills_ok gX10_fills_m0 (by simp [cAs, cE2, sev, svl, cen]) ?_
    have hT : M 51 0 b = T b := by rw [e51]
    have hp6 : 6 ^ (r + 1) = 6 * 6 ^ r := by rw [Nat.pow_succ, Nat.mul_comm]
    have hcl := fun u => bCnt_le (T := T) (L := L) (R := R) (C := C) r u
    suffices H : ∀ Po : List Int → SMem → Prop, (∀ rr MM, (rr = [] ∧ sI tg MM ∧ MM 1 0 56 = ((w + bCnt T L R C (r + 1) u : Nat) : Int) ∧ (∀ f j i, f ≠ 55 → f ≠ 56 → ¬ (f = 1 ∧ i = 56) → MM f j i = M f j i) ∧ (∀ k, k < b → MM 55 0 k = M 55 0 k) ∧ ∀ k, k < 6 → MM 56 0 k = wBt (wDc (fun x => S k x ∨ (k < b ∧ T k ≠ 0 ∧ x = (M 55 0 k).toNat ∧ 0 < bCnt T L R C (r + 1) u) ∨ bRc T L R C (r + 1) u k x)) 6) → Po rr MM) → cEnds (cBG tm tf EX l dC dI cA ad scrS (d + r + 3)) Po 90 gX10_fills 0 [(b : Int), u] M from H _ (fun _ _ h => h)
    intro Po hPo
    obtain ⟨F, hF⟩ : ∃ F : Nat → Nat, F = fun g => cond (wDc (fun g => bFree u g ∧ bSu T L R C (5 - r) g) g) (bCnt T L R C r (bNext u g)) 0 := ⟨_, rfl⟩
    have hFl : ∀ g, F g ≤ 6 ^ r := fun g => by
      rw [hF]
      dsimp only
      cases wDc (fun g => bFree u g ∧ bSu T L R C (5 - r) g) g with
      | true => exact hcl _
      | false => exact Nat.zero_le _
    have hFy : ∀ g, bFree u g ∧ bSu T L R C b g → F g = bCnt T L R C r (bNext u g) := fun g z => by
      rw [hF]
      dsimp only
      rw [hb] at z
      rw [wDc_y (P := fun g => bFree u g ∧ bSu T L R C (5 - r) g) z, cond_true]
    have hFn : ∀ g, ¬ (bFree u g ∧ bSu T L R C b g) → F g = 0 := fun g z => by
      rw [hF]
      dsimp only
      rw [hb] at z
      rw [wDc_n (P := fun g => bFree u g ∧ bSu T L R C (5 - r) g) z, cond_false]
    have loop : T b ≠ 0 → ∀ (m g : Nat) (M1 : SMem), g + m = 6 → sI tg M1 → M1 1 0 56 = ((w + bSum F g : Nat) : Int) → (∀ f j i, f ≠ 55 → f ≠ 56 → ¬ (f = 1 ∧ i = 56) → M1 f j i = M f j i) → (∀ k, k < b → M1 55 0 k = M 55 0 k) → (∀ k, k < 6 → M1 56 0 k = wBt (wDc (fun x => S k x ∨ ∃ g', g' < g ∧ bFree u g' ∧ bSu T L R C b g' ∧ ((k < b ∧ T k ≠ 0 ∧ x = (M 55 0 k).toNat ∧ 0 < bCnt T L R C r (bNext u g')) ∨ (k = b ∧ x = g' ∧ 0 < bCnt T L R C r (bNext u g')) ∨ bRc T L R C r (bNext u g') k x))) 6) → cEnds (cBG tm tf EX l dC dI cA ad scrS (d + r + 3)) Po 90 gX10_fills 81 [(b : Int), u, (g : Int)] M1 := by
      intro hTb m
      induction m with
      | zero =>
        intro g M1 hg i1 w1 f1 p1 s1
        have eg : g = 6 := by omega
        subst eg
        have ecn : bCnt T L R C (r + 1) u = bSum F 6 := by rw [bCnt_t (by rw [← hb]; exact hTb), hF]
        refine cEnds_at gX10_fills_m81 rfl ?_
        refine d_br (fun h => ?_) (fun h => ?_)
        · refine d_ret [] rfl (by decide) (hPo _ _ ⟨rfl, i1, by rw [ecn]; exact w1, f1, p1, fun k hk => ?_⟩)
          rw [s1 k hk]
          refine wBt_cg 6 (fun i _ => wDc_cg ?_)
          have epos : 0 < bCnt T L R C (r + 1) u ↔ ∃ g', g' < 6 ∧ bFree u g' ∧ bSu T L R C b g' ∧ 0 < bCnt T L R C r (bNext u g') := by
            rw [ecn, bSum_pos]
            constructor
            · rintro ⟨g', z1, z2⟩
              by_cases hy : bFree u g' ∧ bSu T L R C b g'
              · exact ⟨g', z1, hy.1, hy.2, by rw [← hFy g' hy]; exact z2⟩
              · rw [hFn g' hy] at z2
                omega
            · rintro ⟨g', z1, z2, z3, z4⟩
              exact ⟨g', z1, by rw [hFy g' ⟨z2, z3⟩]; exact z4⟩
          rw [epos]
          rw [bRc_s, ← hb]
          constructor
          · rintro (z | ⟨g', z1, z2, z3, z4 | z4 | z4⟩)
            · exact Or.inl z
            · exact Or.inr (Or.inl ⟨z4.1, z4.2.1, z4.2.2.1, g', z1, z2, z3, z4.2.2.2⟩)
            · exact Or.inr (Or.inr (Or.inl ⟨hTb, g', z1, z2, z3, Or.inl z4⟩))
            · exact Or.inr (Or.inr (Or.inl ⟨hTb, g', z1, z2, z3, Or.inr z4⟩))
          · rintro (z | ⟨y1, y2, y3, g', z1, z2, z3, z4⟩ | ⟨-, g', z1, z2, z3, z4 | z4⟩ | z)
            · exact Or.inl z
            · exact Or.inr ⟨g', z1, z2, z3, Or.inl ⟨y1, y2, y3, z4⟩⟩
            · exact Or.inr ⟨g', z1, z2, z3, Or.inr (Or.inl z4)⟩
            · exact Or.inr ⟨g', z1, z2, z3, Or.inr (Or.inr z4)⟩
            · exact absurd z.1 hTb
        · simp only [cCmp, cE2, sev, svl, cen, List.cons_append, List.nil_append] at h
          omega
      | succ m ihm =>
        intro g M1 hg i1 w1 f1 p1 s1
        have c1 := bSum_le hFl g
        have c3 : g * 6 ^ r ≤ 5 * 6 ^ r := Nat.mul_le_mul_right _ (by omega)
        have es : bSum F (g + 1) = bSum F g + F g := rfl
        have row : ∀ f, f ≠ 55 → f ≠ 56 → f ≠ 1 → M1 f 0 = M f 0 := fun f y1 y2 y3 => by
          funext k
          exact f1 f 0 k y1 y2 (fun q => y3 q.1)
        have t1 : M1 51 0 = T := by rw [row 51 (by decide) (by decide) (by decide), e51]
        have t2 : M1 52 0 = L := by rw [row 52 (by decide) (by decide) (by decide), e52]
        have t3 : M1 53 0 = R := by rw [row 53 (by decide) (by decide) (by decide), e53]
        have t4 : M1 54 0 = C := by rw [row 54 (by decide) (by decide) (by decide), e54]
        have skip : ¬ (bFree u g ∧ bSu T L R C b g) → cEnds (cBG tm tf EX l dC dI cA ad scrS (d + r + 3)) Po 90 gX10_fills 81 [(b : Int), u, ((g + 1 : Nat) : Int)] M1 := by
          intro hno
          refine ihm (g + 1) M1 (by omega) i1 (by rw [es, hFn g hno]; exact w1) f1 p1 (fun k hk => ?_)
          rw [s1 k hk]
          refine wBt_cg 6 (fun i _ => wDc_cg ?_)
          constructor
          · rintro (z | ⟨g', z1, z2⟩)
            · exact Or.inl z
            · exact Or.inr ⟨g', by omega, z2⟩
          · rintro (z | ⟨g', z1, z2⟩)
            · exact Or.inl z
            · by_cases e : g' = g
              · subst e
                exact absurd ⟨z2.1, z2.2.1⟩ hno
              · exact Or.inr ⟨g', by omega, z2⟩
        -- the block lies there
        have j1 : sI tg (supd M1 55 0 b (g : Int)) := wI (lo := 0) (hi := 5) i1 rfl ⟨by omega, by omega⟩
        have jr : ∀ f, f ≠ 55 → supd M1 55 0 b (g : Int) f = M1 f := fun f q => supd_ff q
        refine cEnds_at gX10_fills_m81 rfl ?_
        refine d_br (fun h => ?_) (fun h => ?_)
        · simp only [cCmp, cE2, sev, svl, cen, List.cons_append, List.nil_append] at h
          exact d_ret [] rfl (by decide) (by omega)
        · simp only [cCmp, cE2, sev, svl, cen, List.cons_append, List.nil_append] at h
          refine d_opw u (g : Int) (by simp [cE2, sev, svl, cen] <;> omega) (by simp [cE2, sev, svl, cen] <;> omega) ?_
          refine d_opw (cfn 3 u (g : Int)) 1 (by simp [cE2, sev, svl, cen] <;> omega) (by simp [cE2, sev, svl, cen] <;> omega) ?_
          refine d_br (fun h => ?_) (fun h => ?_)
          · simp only [cCmp, cE2, sev, svl, cen, List.cons_append, List.nil_append] at h
            refine d_rng (by simp only [clo, chi, cE2, sev, svl, cen, List.cons_append, List.nil_append]; omega) ?_
            refine d_cut [(b : Int), u, ((g + 1 : Nat) : Int)] (by simp [cE2, sev, svl, cen] <;> omega) ?_
            exact skip (fun z => by have := z.1; unfold bFree at this; omega)
          · simp only [cCmp, cE2, sev, svl, cen, List.cons_append, List.nil_append] at h
            refine d_call (m_doesLie hp (b := b) (g := g) (by omega) (by omega)) (by simp [cAs, cE2, sev, svl, cen] <;> omega) ?_
            intro rr M' hq
            obtain ⟨hM', hq⟩ := hq
            rw [hM']
            rcases hq with ⟨rfl, q5⟩ | ⟨rfl, q5⟩
            · refine ⟨rfl, ?_⟩
              refine d_br (fun h => ?_) (fun h => ?_)
              · simp only [cCmp, cE2, sev, svl, cen, List.cons_append, List.nil_append] at h
                omega
              · clear h
                refine d_set 0 b (g : Int) (by simp only [cE2, sev, svl, cen, List.cons_append, List.nil_append]; omega) (by simp only [cE2, sev, svl, cen, List.cons_append, List.nil_append]; omega) (by omega) (by simp only [cE2, sev, svl, cen, List.cons_append, List.nil_append]; omega) ?_
                refine d_rng (by simp only [clo, chi, cE2, sev, svl, cen, List.cons_append, List.nil_append]; omega) ?_
                refine d_opw 1 (g : Int) (by simp [cE2, sev, svl, cen] <;> omega) (by simp [cE2, sev, svl, cen] <;> omega) ?_
                refine d_opw u (cfn 2 1 (g : Int)) (by simp [cE2, sev, svl, cen] <;> omega) (by simp [cE2, sev, svl, cen] <;> omega) ?_
                refine d_call (ih (by omega) (bNext u g) _ (w + bSum F g) (supd M1 55 0 b (g : Int)) j1 (by rw [jr 51 (by decide), t1]) (by rw [jr 52 (by decide), t2]) (by rw [jr 53 (by decide), t3]) (by rw [jr 54 (by decide), t4]) (fun k hk => by rw [jr 56 (by decide)]; exact s1 k hk) (by rw [supd_f (by decide)]; exact w1) (by omega)) (by simp [cAs, cE2, sev, svl, cen, bNext] <;> omega) ?_
                intro rr M' hq
                obtain ⟨rfl, i2, w2, f2, p2, s2⟩ := hq
                rw [t1, t2, t3, t4] at q5
                have hy : bFree u g ∧ bSu T L R C b g := ⟨by unfold bFree; omega, q5⟩
                have eF := hFy g hy
                refine ⟨rfl, ?_⟩
                refine d_rng (by simp only [clo, chi, cE2, sev, svl, cen, List.cons_append, List.nil_append]; omega) ?_
                refine d_cut [(b : Int), u, ((g + 1 : Nat) : Int)] (by simp [cE2, sev, svl, cen] <;> omega) ?_
                refine ihm (g + 1) M' (by omega) i2 (by rw [w2, es, eF, Nat.add_assoc]) (fun f j i y1 y2 y3 => by rw [f2 f j i y1 y2 y3, supd_f y1, f1 f j i y1 y2 y3]) (fun k hk => by rw [p2 k (by omega), supd_i (by omega), p1 k hk]) (fun k hk => (s2 k hk).trans (wBt_cg 6 (fun i _ => wDc_cg ?_)))
                exact bStepM hy (by omega) hTb (fun z => by rw [supd_i (by omega), p1 k z]) (by rw [supd_at]; rfl) eb1
            · refine ⟨rfl, ?_⟩
              refine d_br (fun h => ?_) (fun h => ?_)
              · clear h
                refine d_rng (by simp only [clo, chi, cE2, sev, svl, cen, List.cons_append, List.nil_append]; omega) ?_
                refine d_cut [(b : Int), u, ((g + 1 : Nat) : Int)] (by simp [cE2, sev, svl, cen] <;> omega) ?_
                rw [t1, t2, t3, t4] at q5
                exact skip (fun z => q5 z.2)
              · simp only [cCmp, cE2, sev, svl, cen, List.cons_append, List.nil_append] at h
                omega
    refine cEnds_at gX10_fills_m0 rfl ?_
    refine d_br (fun h => ?_) (fun h => ?_)
    · simp only [cCmp, cE2, sev, svl, cen, List.cons_append, List.nil_append] at h
      first
      | omega
      | skip
        refine d_row 0 b (by simp only [cE2, sev, svl, cen, List.cons_append, List.nil_append]; omega) (by simp only [cE2, sev, svl, cen, List.cons_append, List.nil_append]; omega) (by omega) ?_
        rw [hT]
        refine d_br (fun h => ?_) (fun h => ?_)
        · simp only [cCmp, cE2, sev, svl, cen, List.cons_append, List.nil_append] at h
          first
          | omega
          | skip
            refine d_cut [(b : Int), u, ((0 : Nat) : Int)] (by simp [cE2, sev, svl, cen] <;> omega) ?_
            exact loop (by omega) 6 0 M (by omega) hI (by rw [hw]; rfl) (fun _ _ _ _ _ _ => rfl) (fun _ _ => rfl) (fun k hk => (hS k hk).trans (wBt_cg 6 (fun i _ => wDc_cg ⟨Or.inl, fun z => z.elim id (fun ⟨g', z1, _⟩ => by omega)⟩)))
        · simp only [cCmp, cE2, sev, svl, cen, List.cons_append, List.nil_append] at h
          first
          | omega
          | skip
            refine d_rng (by simp only [clo, chi, cE2, sev, svl, cen, List.cons_append, List.nil_append]; omega) ?_
            refine d_call (ih (by omega) u S w M hI e51 e52 e53 e54 hS hw (by omega)) (by simp [cAs, cE2, sev, svl, cen] <;> omega) ?_
            intro rr M' hq
            obtain ⟨rfl, i2, w2, f2, p2, s2⟩ := hq
            refine ⟨rfl, ?_⟩
            exact d_ret [] rfl (by decide) (hPo _ _ ⟨rfl, i2, by rw [w2, bCnt_u (by rw [← hb]; omega)], f2, fun k hk => p2 k (by omega), fun k hk => (s2 k hk).trans (wBt_cg 6 (fun i _ => wDc_cg (bStepN (by rw [← hb]; omega) eb1 hb)))⟩)
    · simp only [cCmp, cE2, sev, svl, cen, List.cons_append, List.nil_append] at h
      first
      | omega
      | skip
        refine d_fld 0 (by simp only [cE2, sev, svl, cen, List.cons_append, List.nil_append]; omega) ?_
        refine d_rng (by simp only [clo, chi, cE2, sev, svl, cen, List.cons_append, List.nil_append]; omega) ?_
        refine d_put 0 ((M 1 0 56) + 1) (by simp only [cE2, sev, svl, cen, List.cons_append, List.nil_append]; omega) (by simp only [cE2, sev, svl, cen, List.cons_append, List.nil_append]; omega) ?_
        refine d_cut [0] (by simp [cE2, sev, svl, cen] <;> omega) ?_
        exact (by omega)
end CB3
