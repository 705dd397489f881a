/-! what the methods do: walls, the class's side -/
theorem wretb {E : Nat → List CA → SMem → (List Int → SMem → Prop) → Prop} {Qr : List Int → SMem → Prop} {C : Nat → List Int → SMem → Prop} {k b : Nat} {r : List CN} {v : List Int} {M : SMem} {x : SV} (z : Int) (hz : z = cE2 v x) (h1 : 0 ≤ z ∧ z ≤ 1) (h : Qr [z] M) : cden E Qr C (k + 1) ((10, 1, b, [x]) :: r) v M := by
  refine d_ret [z] (by simp [hz]) (fun y hy => ?_) h
  rw [List.mem_singleton.mp hy]
  exact h1
theorem d_opw {E : Nat → List CA → SMem → (List Int → SMem → Prop) → Prop} {Qr : List Int → SMem → Prop} {C : Nat → List Int → SMem → Prop} {n : Nat} {r : List CN} {v : List Int} {M : SMem} {a b : Nat} {x y : SV} (p q : Int) (h1 : cE2 v x = p) (h2 : cE2 v y = q) (h : cden E Qr C n r (v ++ [cfn a p q]) M) : cden E Qr C (n + 1) ((5, a, b, [x, y]) :: r) v M := by
  subst h1 h2
  exact h
def wTell (M : SMem) (p : Nat) (s h o g : Int) : SMem := supd (supd (supd (supd (supd (supd M 64 p 0 1) 64 p 1 s) 64 p 2 h) 64 p 3 o) 64 p 4 g) 64 p 5 0
def wAddL (M : SMem) (p sz : Nat) (h dv n : Int) : SMem := supd (supd (supd (supd (supd M 91 p sz h) 92 p sz dv) 93 p sz n) 94 p sz 0) 64 p 5 ((sz : Int) + 1)
def wRem (M : SMem) (p sz : Nat) : SMem := if sz = 1 then supd M 64 p 5 ((sz : Int) - 1) else supd (supd M 64 p 5 ((sz : Int) - 1)) 94 p (sz - 2) 0
def wTr (M : SMem) (p l fr len m : Nat) : SMem := fun f j i => if f = 95 ∧ j = p ∧ 8 * l ≤ i ∧ i < 8 * l + m then M 57 0 (fr + (i - 8 * l)) else if f = 94 ∧ j = p ∧ i = l then (len : Int) else M f j i
theorem wTr_0 {M : SMem} {p l fr len : Nat} : wTr M p l fr len 0 = supd M 94 p l (len : Int) := by
  funext f j i
  unfold wTr supd
  rw [if_neg (by omega)]
theorem wTr_s {M : SMem} {p l fr len k : Nat} : supd (wTr M p l fr len k) 95 p (8 * l + k) (M 57 0 (fr + k)) = wTr M p l fr len (k + 1) := by
  funext f j i
  unfold wTr supd
  dsimp only
  by_cases h : f = 95 ∧ j = p ∧ i = 8 * l + k
  · rw [if_pos h, if_pos (by omega), h.2.2, show fr + (8 * l + k - 8 * l) = fr + k by omega]
  · rw [if_neg h]
    by_cases h2 : f = 95 ∧ j = p ∧ 8 * l ≤ i ∧ i < 8 * l + k
    · rw [if_pos h2, if_pos (by omega)]
    · rw [if_neg h2]
      by_cases h3 : f = 95 ∧ j = p ∧ 8 * l ≤ i ∧ i < 8 * l + (k + 1)
      · exact absurd ⟨h3.1, h3.2.1, by omega⟩ h
      · rw [if_neg h3]
section CW1
variable {EX : SEx} {l : Launch} {dC : Nat → ClassId} {dI : Nat → Nat → Nat} {cA : Nat → ClassId} {ad : SAd} {scrS d : Nat}
theorem b_isErasure (hp : cPl tm tc tf EX) {x : Int} {M : SMem} : cBG tm tf EX l dC dI cA ad scrS (d + 1) kX9_isErasure [(0, 0, x)] M (fun rr MM => MM = M ∧ ((rr = [1] ∧ (x = 1 ∨ x = 2)) ∨ (rr = [0] ∧ ¬ (x = 1 ∨ x = 2)))) := by
  refine cMeth (v := [x]) (Fd := 90) hp (by decide) gX9_isErasure_ok gX9_isErasure_m0 (by simp [cAs, cE2, sev, svl, cen]) ?_
  refine cEnds_at gX9_isErasure_m0 rfl ?_
  refine d_br (fun h => ?_) (fun h => ?_)
  · simp only [cCmp, cE2, sev, svl, cen, List.cons_append, List.nil_append] at h
    first
    | omega
    | skip
      exact d_ret [1] rfl (by decide) ⟨rfl, Or.inl ⟨rfl, by omega⟩⟩
  · simp only [cCmp, cE2, sev, svl, cen, List.cons_append, List.nil_append] at h
    first
    | omega
    | skip
      refine d_br (fun h => ?_) (fun h => ?_)
      · simp only [cCmp, cE2, sev, svl, cen, List.cons_append, List.nil_append] at h
        first
        | omega
        | skip
          exact d_ret [0] rfl (by decide) ⟨rfl, Or.inr ⟨rfl, by omega⟩⟩
      · simp only [cCmp, cE2, sev, svl, cen, List.cons_append, List.nil_append] at h
        first
        | omega
        | skip
          exact d_ret [1] rfl (by decide) ⟨rfl, Or.inl ⟨rfl, by omega⟩⟩
theorem b_isPlace (hp : cPl tm tc tf EX) {a : Int} {M : SMem} : cBG tm tf EX l dC dI cA ad scrS (d + 2) kX9_isPlace [(2, 0, 0), (0, 0, a)] M (fun rr MM => MM = M ∧ ((rr = [1] ∧ (0 ≤ a ∧ a < 12 ∧ M 64 a.toNat 0 ≠ 0)) ∨ (rr = [0] ∧ ¬ (0 ≤ a ∧ a < 12 ∧ M 64 a.toNat 0 ≠ 0)))) := by
  refine cMeth (v := [a]) (Fd := 90) hp (by decide) gX9_isPlace_ok gX9_isPlace_m0 (by simp [cAs, cE2, sev, svl, cen]) ?_
  refine cEnds_at gX9_isPlace_m0 rfl ?_
  refine d_call (b_isBelow hp (x := a) (y := 12)) (by simp [cAs, cE2, sev, svl, cen] <;> omega) ?_
  intro rr M' hq
  obtain ⟨hM', hq⟩ := hq
  rw [hM']
  rcases hq with ⟨rfl, q1⟩ | ⟨rfl, q1⟩
  · refine ⟨rfl, ?_⟩
    refine d_br (fun h => ?_) (fun h => ?_)
    · simp only [cCmp, cE2, sev, svl, cen, List.cons_append, List.nil_append] at h
      omega
    · clear h
      refine d_idx (by simp only [cE2, sev, svl, cen, List.cons_append, List.nil_append]; omega) ?_
      refine d_fld a.toNat (by simp only [cE2, sev, svl, cen, List.cons_append, List.nil_append]; omega) ?_
      refine d_br (fun h => ?_) (fun h => ?_)
      · simp only [cCmp, cE2, sev, svl, cen, List.cons_append, List.nil_append] at h
        first
        | omega
        | skip
          exact d_ret [0] rfl (by decide) ⟨rfl, Or.inr ⟨rfl, by omega⟩⟩
      · simp only [cCmp, cE2, sev, svl, cen, List.cons_append, List.nil_append] at h
        first
        | omega
        | skip
          exact d_ret [1] rfl (by decide) ⟨rfl, Or.inl ⟨rfl, by omega⟩⟩
  · refine ⟨rfl, ?_⟩
    refine d_br (fun h => ?_) (fun h => ?_)
    · clear h
      exact d_ret [0] rfl (by decide) ⟨rfl, Or.inr ⟨rfl, by omega⟩⟩
    · simp only [cCmp, cE2, sev, svl, cen, List.cons_append, List.nil_append] at h
      omega
theorem b_isCut (hp : cPl tm tc tf EX) {a b : Int} {M : SMem} : cBG tm tf EX l dC dI cA ad scrS (d + 3) kX9_isCut [(2, 0, 0), (0, 0, a), (0, 0, b)] M (fun rr MM => MM = M ∧ ((rr = [1] ∧ (0 ≤ a ∧ a < 12 ∧ M 64 a.toNat 0 ≠ 0 ∧ 0 ≤ b ∧ b < M 64 a.toNat 5)) ∨ (rr = [0] ∧ ¬ (0 ≤ a ∧ a < 12 ∧ M 64 a.toNat 0 ≠ 0 ∧ 0 ≤ b ∧ b < M 64 a.toNat 5)))) := by
  refine cMeth (v := [a, b]) (Fd := 90) hp (by decide) gX9_isCut_ok gX9_isCut_m0 (by simp [cAs, cE2, sev, svl, cen]) ?_
  refine cEnds_at gX9_isCut_m0 rfl ?_
  refine d_call (b_isPlace hp (a := a)) (by simp [cAs, cE2, sev, svl, cen] <;> omega) ?_
  intro rr M' hq
  obtain ⟨hM', hq⟩ := hq
  rw [hM']
  rcases hq with ⟨rfl, q2⟩ | ⟨rfl, q2⟩
  · refine ⟨rfl, ?_⟩
    refine d_br (fun h => ?_) (fun h => ?_)
    · simp only [cCmp, cE2, sev, svl, cen, List.cons_append, List.nil_append] at h
      omega
    · clear h
      refine d_idx (by simp only [cE2, sev, svl, cen, List.cons_append, List.nil_append]; omega) ?_
      refine d_fld a.toNat (by simp only [cE2, sev, svl, cen, List.cons_append, List.nil_append]; omega) ?_
      refine d_call (b_isBelow hp (x := b) (y := (M 64 a.toNat 5))) (by simp [cAs, cE2, sev, svl, cen] <;> omega) ?_
      intro rr M' hq
      obtain ⟨hM', hq⟩ := hq
      rw [hM']
      rcases hq with ⟨rfl, q4⟩ | ⟨rfl, q4⟩
      · refine ⟨rfl, ?_⟩
        refine d_br (fun h => ?_) (fun h => ?_)
        · simp only [cCmp, cE2, sev, svl, cen, List.cons_append, List.nil_append] at h
          omega
        · clear h
          exact d_ret [1] rfl (by decide) ⟨rfl, Or.inl ⟨rfl, by omega⟩⟩
      · refine ⟨rfl, ?_⟩
        refine d_br (fun h => ?_) (fun h => ?_)
        · clear h
          exact d_ret [0] rfl (by decide) ⟨rfl, Or.inr ⟨rfl, by omega⟩⟩
        · simp only [cCmp, cE2, sev, svl, cen, List.cons_append, List.nil_append] at h
          omega
  · refine ⟨rfl, ?_⟩
    refine d_br (fun h => ?_) (fun h => ?_)
    · clear h
      exact d_ret [0] rfl (by decide) ⟨rfl, Or.inr ⟨rfl, by omega⟩⟩
    · simp only [cCmp, cE2, sev, svl, cen, List.cons_append, List.nil_append] at h
      omega
theorem b_isNameCut (hp : cPl tm tc tf EX) {a b : Int} {M : SMem} (hI : sI tg M) : cBG tm tf EX l dC dI cA ad scrS (d + 4) kX9_isNameCut [(2, 0, 0), (0, 0, a), (0, 0, b)] M (fun rr MM => MM = M ∧ ((rr = [1] ∧ (0 ≤ a ∧ a < 12 ∧ M 64 a.toNat 0 ≠ 0 ∧ 0 ≤ b ∧ b < M 64 a.toNat 5 ∧ ¬ (M 92 a.toNat b.toNat = 1 ∨ M 92 a.toNat b.toNat = 2))) ∨ (rr = [0] ∧ ¬ (0 ≤ a ∧ a < 12 ∧ M 64 a.toNat 0 ≠ 0 ∧ 0 ≤ b ∧ b < M 64 a.toNat 5 ∧ ¬ (M 92 a.toNat b.toNat = 1 ∨ M 92 a.toNat b.toNat = 2))))) := by
  have b1 := wIb (f := 64) (i := 5) (lo := 0) (hi := 6) hI a.toNat rfl
  refine cMeth (v := [a, b]) (Fd := 90) hp (by decide) gX9_isNameCut_ok gX9_isNameCut_m0 (by simp [cAs, cE2, sev, svl, cen]) ?_
  refine cEnds_at gX9_isNameCut_m0 rfl ?_
  refine d_call (b_isCut hp (a := a) (b := b)) (by simp [cAs, cE2, sev, svl, cen] <;> omega) ?_
  intro rr M' hq
  obtain ⟨hM', hq⟩ := hq
  rw [hM']
  rcases hq with ⟨rfl, q2⟩ | ⟨rfl, q2⟩
  · refine ⟨rfl, ?_⟩
    refine d_br (fun h => ?_) (fun h => ?_)
    · simp only [cCmp, cE2, sev, svl, cen, List.cons_append, List.nil_append] at h
      omega
    · clear h
      refine d_idx (by simp only [cE2, sev, svl, cen, List.cons_append, List.nil_append]; omega) ?_
      refine d_row a.toNat b.toNat (by simp only [cE2, sev, svl, cen, List.cons_append, List.nil_append]; omega) (by simp only [cE2, sev, svl, cen, List.cons_append, List.nil_append]; omega) (by omega) ?_
      refine d_call (b_isErasure hp (x := (M 92 a.toNat b.toNat))) (by simp [cAs, cE2, sev, svl, cen] <;> omega) ?_
      intro rr M' hq
      obtain ⟨hM', hq⟩ := hq
      rw [hM']
      rcases hq with ⟨rfl, q4⟩ | ⟨rfl, q4⟩
      · refine ⟨rfl, ?_⟩
        refine d_br (fun h => ?_) (fun h => ?_)
        · clear h
          exact d_ret [0] rfl (by decide) ⟨rfl, Or.inr ⟨rfl, by omega⟩⟩
        · simp only [cCmp, cE2, sev, svl, cen, List.cons_append, List.nil_append] at h
          omega
      · refine ⟨rfl, ?_⟩
        refine d_br (fun h => ?_) (fun h => ?_)
        · simp only [cCmp, cE2, sev, svl, cen, List.cons_append, List.nil_append] at h
          omega
        · clear h
          exact d_ret [1] rfl (by decide) ⟨rfl, Or.inl ⟨rfl, by omega⟩⟩
  · refine ⟨rfl, ?_⟩
    refine d_br (fun h => ?_) (fun h => ?_)
    · clear h
      exact d_ret [0] rfl (by decide) ⟨rfl, Or.inr ⟨rfl, by omega⟩⟩
    · simp only [cCmp, cE2, sev, svl, cen, List.cons_append, List.nil_append] at h
      omega
theorem b_wtell (hp : cPl tm tc tf EX) {p : Nat} {s hh o g : Int} {M : SMem} : cBG tm tf EX l dC dI cA ad scrS (d + 1) kX8_tell [(2, 64, (p : Int)), (0, 0, s), (0, 0, hh), (0, 0, o), (0, 0, g)] M (fun rr MM => rr = [] ∧ MM = wTell M p s hh o g) := by
  refine cMeth (v := [(p : Int), s, hh, o, g]) (Fd := 90) hp (by decide) gX8_tell_ok gX8_tell_m0 (by simp [cAs, cE2, sev, svl, cen]) ?_
  refine cEnds_at gX8_tell_m0 rfl ?_
  refine d_rng (by simp only [clo, chi, cE2, sev, svl, cen, List.cons_append, List.nil_append]; omega) ?_
  refine d_put p 1 (by simp only [cE2, sev, svl, cen, List.cons_append, List.nil_append]; omega) (by simp only [cE2, sev, svl, cen, List.cons_append, List.nil_append]; omega) ?_
  refine d_put p s (by simp only [cE2, sev, svl, cen, List.cons_append, List.nil_append]; omega) (by simp only [cE2, sev, svl, cen, List.cons_append, List.nil_append]; omega) ?_
  refine d_put p hh (by simp only [cE2, sev, svl, cen, List.cons_append, List.nil_append]; omega) (by simp only [cE2, sev, svl, cen, List.cons_append, List.nil_append]; omega) ?_
  refine d_put p o (by simp only [cE2, sev, svl, cen, List.cons_append, List.nil_append]; omega) (by simp only [cE2, sev, svl, cen, List.cons_append, List.nil_append]; omega) ?_
  refine d_put p g (by simp only [cE2, sev, svl, cen, List.cons_append, List.nil_append]; omega) (by simp only [cE2, sev, svl, cen, List.cons_append, List.nil_append]; omega) ?_
  refine d_put p 0 (by simp only [cE2, sev, svl, cen, List.cons_append, List.nil_append]; omega) (by simp only [cE2, sev, svl, cen, List.cons_append, List.nil_append]; omega) ?_
  exact d_ret [] rfl (by decide) ⟨rfl, rfl⟩
theorem b_canBeMended (hp : cPl tm tc tf EX) {p sz : Nat} {n : Int} {M : SMem} (hsz : M 64 p 5 = (sz : Int)) (h6 : sz ≤ 6) : cBG tm tf EX l dC dI cA ad scrS (d + 1) kX8_canBeMended [(2, 64, (p : Int)), (0, 0, n)] M (fun rr MM => MM = M ∧ ((rr = [1] ∧ (sz < 2 ∨ n = -1 ∨ M 93 p (sz - 2) = -1 ∨ n = M 93 p (sz - 2))) ∨ (rr = [0] ∧ ¬ (sz < 2 ∨ n = -1 ∨ M 93 p (sz - 2) = -1 ∨ n = M 93 p (sz - 2))))) := by
  refine cMeth (v := [(p : Int), n]) (Fd := 90) hp (by decide) gX8_canBeMended_ok gX8_canBeMended_m0 (by simp [cAs, cE2, sev, svl, cen]) ?_
  refine cEnds_at gX8_canBeMended_m0 rfl ?_
  refine d_fld p (by simp only [cE2, sev, svl, cen, List.cons_append, List.nil_append]; omega) ?_
  rw [hsz]
  refine d_br (fun h => ?_) (fun h => ?_)
  · simp only [cCmp, cE2, sev, svl, cen, List.cons_append, List.nil_append] at h
    first
    | omega
    | skip
      refine d_br (fun h => ?_) (fun h => ?_)
      · simp only [cCmp, cE2, sev, svl, cen, List.cons_append, List.nil_append] at h
        first
        | omega
        | skip
          exact d_ret [1] rfl (by decide) ⟨rfl, Or.inl ⟨rfl, by omega⟩⟩
      · simp only [cCmp, cE2, sev, svl, cen, List.cons_append, List.nil_append] at h
        first
        | omega
        | skip
          exact d_ret [1] rfl (by decide) ⟨rfl, Or.inl ⟨rfl, by omega⟩⟩
  · simp only [cCmp, cE2, sev, svl, cen, List.cons_append, List.nil_append] at h
    first
    | omega
    | skip
      refine d_fld p (by simp only [cE2, sev, svl, cen, List.cons_append, List.nil_append]; omega) ?_
      rw [hsz]
      refine d_rng (by simp only [clo, chi, cE2, sev, svl, cen, List.cons_append, List.nil_append]; omega) ?_
      refine d_row p (sz - 2) (by simp only [cE2, sev, svl, cen, List.cons_append, List.nil_append]; omega) (by simp only [cE2, sev, svl, cen, List.cons_append, List.nil_append]; omega) (by omega) ?_
      refine d_br (fun h => ?_) (fun h => ?_)
      · simp only [cCmp, cE2, sev, svl, cen, List.cons_append, List.nil_append] at h
        first
        | omega
        | skip
          exact d_ret [1] rfl (by decide) ⟨rfl, Or.inl ⟨rfl, by omega⟩⟩
      · simp only [cCmp, cE2, sev, svl, cen, List.cons_append, List.nil_append] at h
        first
        | omega
        | skip
          refine d_br (fun h => ?_) (fun h => ?_)
          · simp only [cCmp, cE2, sev, svl, cen, List.cons_append, List.nil_append] at h
            first
            | omega
            | skip
              exact d_ret [1] rfl (by decide) ⟨rfl, Or.inl ⟨rfl, by omega⟩⟩
          · simp only [cCmp, cE2, sev, svl, cen, List.cons_append, List.nil_append] at h
            first
            | omega
            | skip
              refine d_br (fun h => ?_) (fun h => ?_)
              · simp only [cCmp, cE2, sev, svl, cen, List.cons_append, List.nil_append] at h
                first
                | omega
                | skip
                  exact d_ret [0] rfl (by decide) ⟨rfl, Or.inr ⟨rfl, by omega⟩⟩
              · simp only [cCmp, cE2, sev, svl, cen, List.cons_append, List.nil_append] at h
                first
                | omega
                | skip
                  exact d_ret [1] rfl (by decide) ⟨rfl, Or.inl ⟨rfl, by omega⟩⟩
theorem b_canLie (hp : cPl tm tc tf EX) {p sz : Nat} {dv n : Int} {M : SMem} (hsz : M 64 p 5 = (sz : Int)) : cBG tm tf EX l dC dI cA ad scrS (d + 2) kX8_canLie [(2, 64, (p : Int)), (0, 0, dv), (0, 0, n)] M (fun rr MM => MM = M ∧ ((rr = [1] ∧ (sz < 6 ∧ ((sz = 0 ∧ dv = 0) ∨ (sz ≠ 0 ∧ dv ≠ 0 ∧ (((dv = 1 ∨ dv = 2) ∧ ¬ (M 92 p (sz - 1) = 1 ∨ M 92 p (sz - 1) = 2)) ∨ (¬ (dv = 1 ∨ dv = 2) ∧ (M 92 p (sz - 1) = 1 ∨ M 92 p (sz - 1) = 2) ∧ (dv ≠ 4 ∨ (sz < 2 ∨ n = -1 ∨ M 93 p (sz - 2) = -1 ∨ n = M 93 p (sz - 2))))))))) ∨ (rr = [0] ∧ ¬ (sz < 6 ∧ ((sz = 0 ∧ dv = 0) ∨ (sz ≠ 0 ∧ dv ≠ 0 ∧ (((dv = 1 ∨ dv = 2) ∧ ¬ (M 92 p (sz - 1) = 1 ∨ M 92 p (sz - 1) = 2)) ∨ (¬ (dv = 1 ∨ dv = 2) ∧ (M 92 p (sz - 1) = 1 ∨ M 92 p (sz - 1) = 2) ∧ (dv ≠ 4 ∨ (sz < 2 ∨ n = -1 ∨ M 93 p (sz - 2) = -1 ∨ n = M 93 p (sz - 2))))))))))) := by
  refine cMeth (v := [(p : Int), dv, n]) (Fd := 90) hp (by decide) gX8_canLie_ok gX8_canLie_m0 (by simp [cAs, cE2, sev, svl, cen]) ?_
  refine cEnds_at gX8_canLie_m0 rfl ?_
  refine d_fld p (by simp only [cE2, sev, svl, cen, List.cons_append, List.nil_append]; omega) ?_
  rw [hsz]
  refine d_br (fun h => ?_) (fun h => ?_)
  · simp only [cCmp, cE2, sev, svl, cen, List.cons_append, List.nil_append] at h
    first
    | omega
    | skip
      refine d_fld p (by simp only [cE2, sev, svl, cen, List.cons_append, List.nil_append]; omega) ?_
      rw [hsz]
      refine d_br (fun h => ?_) (fun h => ?_)
      · simp only [cCmp, cE2, sev, svl, cen, List.cons_append, List.nil_append] at h
        first
        | omega
        | skip
          refine d_fld p (by simp only [cE2, sev, svl, cen, List.cons_append, List.nil_append]; omega) ?_
          rw [hsz]
          refine d_br (fun h => ?_) (fun h => ?_)
          · simp only [cCmp, cE2, sev, svl, cen, List.cons_append, List.nil_append] at h
            first
            | omega
            | skip
              exact d_ret [0] rfl (by decide) ⟨rfl, Or.inr ⟨rfl, by omega⟩⟩
          · simp only [cCmp, cE2, sev, svl, cen, List.cons_append, List.nil_append] at h
            first
            | omega
            | skip
              refine d_br (fun h => ?_) (fun h => ?_)
              · simp only [cCmp, cE2, sev, svl, cen, List.cons_append, List.nil_append] at h
                first
                | omega
                | skip
                  exact d_ret [0] rfl (by decide) ⟨rfl, Or.inr ⟨rfl, by omega⟩⟩
              · simp only [cCmp, cE2, sev, svl, cen, List.cons_append, List.nil_append] at h
                first
                | omega
                | skip
                  exact d_ret [1] rfl (by decide) ⟨rfl, Or.inl ⟨rfl, by omega⟩⟩
      · simp only [cCmp, cE2, sev, svl, cen, List.cons_append, List.nil_append] at h
        first
        | omega
        | skip
          refine d_br (fun h => ?_) (fun h => ?_)
          · simp only [cCmp, cE2, sev, svl, cen, List.cons_append, List.nil_append] at h
            first
            | omega
            | skip
              refine d_fld p (by simp only [cE2, sev, svl, cen, List.cons_append, List.nil_append]; omega) ?_
              rw [hsz]
              refine d_rng (by simp only [clo, chi, cE2, sev, svl, cen, List.cons_append, List.nil_append]; omega) ?_
              refine d_row p (sz - 1) (by simp only [cE2, sev, svl, cen, List.cons_append, List.nil_append]; omega) (by simp only [cE2, sev, svl, cen, List.cons_append, List.nil_append]; omega) (by omega) ?_
              refine d_call (b_isErasure hp (x := (M 92 p (sz - 1)))) (by simp [cAs, cE2, sev, svl, cen] <;> omega) ?_
              intro rr M' hq
              obtain ⟨hM', hq⟩ := hq
              rw [hM']
              rcases hq with ⟨rfl, q7⟩ | ⟨rfl, q7⟩
              · refine ⟨rfl, ?_⟩
                refine d_call (b_isErasure hp (x := dv)) (by simp [cAs, cE2, sev, svl, cen] <;> omega) ?_
                intro rr M' hq
                obtain ⟨hM', hq⟩ := hq
                rw [hM']
                rcases hq with ⟨rfl, q8⟩ | ⟨rfl, q8⟩
                · refine ⟨rfl, ?_⟩
                  refine d_br (fun h => ?_) (fun h => ?_)
                  · simp only [cCmp, cE2, sev, svl, cen, List.cons_append, List.nil_append] at h
                    omega
                  · clear h
                    refine d_br (fun h => ?_) (fun h => ?_)
                    · clear h
                      exact d_ret [0] rfl (by decide) ⟨rfl, Or.inr ⟨rfl, by omega⟩⟩
                    · simp only [cCmp, cE2, sev, svl, cen, List.cons_append, List.nil_append] at h
                      omega
                · refine ⟨rfl, ?_⟩
                  refine d_br (fun h => ?_) (fun h => ?_)
                  · clear h
                    refine d_br (fun h => ?_) (fun h => ?_)
                    · simp only [cCmp, cE2, sev, svl, cen, List.cons_append, List.nil_append] at h
                      omega
                    · clear h
                      refine d_br (fun h => ?_) (fun h => ?_)
                      · simp only [cCmp, cE2, sev, svl, cen, List.cons_append, List.nil_append] at h
                        first
                        | omega
                        | skip
                          exact d_ret [1] rfl (by decide) ⟨rfl, Or.inl ⟨rfl, by omega⟩⟩
                      · simp only [cCmp, cE2, sev, svl, cen, List.cons_append, List.nil_append] at h
                        first
                        | omega
                        | skip
                          refine d_call (b_canBeMended hp (p := p) (sz := sz) (n := n) hsz (by omega)) (by simp [cAs, cE2, sev, svl, cen] <;> omega) ?_
                          intro rr M' hq
                          obtain ⟨hM', hq⟩ := hq
                          rw [hM']
                          rcases hq with ⟨rfl, q9⟩ | ⟨rfl, q9⟩
                          · refine ⟨rfl, ?_⟩
                            refine d_br (fun h => ?_) (fun h => ?_)
                            · simp only [cCmp, cE2, sev, svl, cen, List.cons_append, List.nil_append] at h
                              omega
                            · clear h
                              exact d_ret [1] rfl (by decide) ⟨rfl, Or.inl ⟨rfl, by omega⟩⟩
                          · refine ⟨rfl, ?_⟩
                            refine d_br (fun h => ?_) (fun h => ?_)
                            · clear h
                              exact d_ret [0] rfl (by decide) ⟨rfl, Or.inr ⟨rfl, by omega⟩⟩
                            · simp only [cCmp, cE2, sev, svl, cen, List.cons_append, List.nil_append] at h
                              omega
                  · simp only [cCmp, cE2, sev, svl, cen, List.cons_append, List.nil_append] at h
                    omega
              · refine ⟨rfl, ?_⟩
                refine d_call (b_isErasure hp (x := dv)) (by simp [cAs, cE2, sev, svl, cen] <;> omega) ?_
                intro rr M' hq
                obtain ⟨hM', hq⟩ := hq
                rw [hM']
                rcases hq with ⟨rfl, q8⟩ | ⟨rfl, q8⟩
                · refine ⟨rfl, ?_⟩
                  refine d_br (fun h => ?_) (fun h => ?_)
                  · simp only [cCmp, cE2, sev, svl, cen, List.cons_append, List.nil_append] at h
                    omega
                  · clear h
                    refine d_br (fun h => ?_) (fun h => ?_)
                    · simp only [cCmp, cE2, sev, svl, cen, List.cons_append, List.nil_append] at h
                      omega
                    · clear h
                      exact d_ret [1] rfl (by decide) ⟨rfl, Or.inl ⟨rfl, by omega⟩⟩
                · refine ⟨rfl, ?_⟩
                  refine d_br (fun h => ?_) (fun h => ?_)
                  · clear h
                    refine d_br (fun h => ?_) (fun h => ?_)
                    · clear h
                      exact d_ret [0] rfl (by decide) ⟨rfl, Or.inr ⟨rfl, by omega⟩⟩
                    · simp only [cCmp, cE2, sev, svl, cen, List.cons_append, List.nil_append] at h
                      omega
                  · simp only [cCmp, cE2, sev, svl, cen, List.cons_append, List.nil_append] at h
                    omega
          · simp only [cCmp, cE2, sev, svl, cen, List.cons_append, List.nil_append] at h
            first
            | omega
            | skip
              refine d_fld p (by simp only [cE2, sev, svl, cen, List.cons_append, List.nil_append]; omega) ?_
              rw [hsz]
              refine d_br (fun h => ?_) (fun h => ?_)
              · simp only [cCmp, cE2, sev, svl, cen, List.cons_append, List.nil_append] at h
                first
                | omega
                | skip
                  exact d_ret [0] rfl (by decide) ⟨rfl, Or.inr ⟨rfl, by omega⟩⟩
              · simp only [cCmp, cE2, sev, svl, cen, List.cons_append, List.nil_append] at h
                first
                | omega
                | skip
                  refine d_br (fun h => ?_) (fun h => ?_)
                  · simp only [cCmp, cE2, sev, svl, cen, List.cons_append, List.nil_append] at h
                    first
                    | omega
                    | skip
                      exact d_ret [0] rfl (by decide) ⟨rfl, Or.inr ⟨rfl, by omega⟩⟩
                  · simp only [cCmp, cE2, sev, svl, cen, List.cons_append, List.nil_append] at h
                    first
                    | omega
                    | skip
                      exact d_ret [1] rfl (by decide) ⟨rfl, Or.inl ⟨rfl, by omega⟩⟩
  · simp only [cCmp, cE2, sev, svl, cen, List.cons_append, List.nil_append] at h
    first
    | omega
    | skip
      exact d_ret [0] rfl (by decide) ⟨rfl, Or.inr ⟨rfl, by omega⟩⟩
theorem b_wadd (hp : cPl tm tc tf EX) {p sz : Nat} {hd dv n : Int} {M : SMem} (hsz : M 64 p 5 = (sz : Int)) (h6 : sz < 6) : cBG tm tf EX l dC dI cA ad scrS (d + 1) kX8_add [(2, 64, (p : Int)), (0, 0, hd), (0, 0, dv), (0, 0, n)] M (fun rr MM => rr = [] ∧ MM = wAddL M p sz hd dv n) := by
  refine cMeth (v := [(p : Int), hd, dv, n]) (Fd := 90) hp (by decide) gX8_add_ok gX8_add_m0 (by simp [cAs, cE2, sev, svl, cen]) ?_
  refine cEnds_at gX8_add_m0 rfl ?_
  refine d_fld p (by simp only [cE2, sev, svl, cen, List.cons_append, List.nil_append]; omega) ?_
  rw [hsz]
  refine d_br (fun h => ?_) (fun h => ?_)
  · simp only [cCmp, cE2, sev, svl, cen, List.cons_append, List.nil_append] at h
    first
    | omega
    | skip
      exact d_ret [] rfl (by decide) ⟨rfl, rfl⟩
  · simp only [cCmp, cE2, sev, svl, cen, List.cons_append, List.nil_append] at h
    first
    | omega
    | skip
      refine d_fld p (by simp only [cE2, sev, svl, cen, List.cons_append, List.nil_append]; omega) ?_
      rw [hsz]
      refine d_set p sz hd (by simp only [cE2, sev, svl, cen, List.cons_append, List.nil_append]; omega) (by simp only [cE2, sev, svl, cen, List.cons_append, List.nil_append]; omega) (by omega) (by simp only [cE2, sev, svl, cen, List.cons_append, List.nil_append]; omega) ?_
      refine d_fld p (by simp only [cE2, sev, svl, cen, List.cons_append, List.nil_append]; omega) ?_
      rw [supd_f (by decide)]
      rw [hsz]
      refine d_set p sz dv (by simp only [cE2, sev, svl, cen, List.cons_append, List.nil_append]; omega) (by simp only [cE2, sev, svl, cen, List.cons_append, List.nil_append]; omega) (by omega) (by simp only [cE2, sev, svl, cen, List.cons_append, List.nil_append]; omega) ?_
      refine d_fld p (by simp only [cE2, sev, svl, cen, List.cons_append, List.nil_append]; omega) ?_
      rw [supd_f (by decide)]
      rw [supd_f (by decide)]
      rw [hsz]
      refine d_set p sz n (by simp only [cE2, sev, svl, cen, List.cons_append, List.nil_append]; omega) (by simp only [cE2, sev, svl, cen, List.cons_append, List.nil_append]; omega) (by omega) (by simp only [cE2, sev, svl, cen, List.cons_append, List.nil_append]; omega) ?_
      refine d_fld p (by simp only [cE2, sev, svl, cen, List.cons_append, List.nil_append]; omega) ?_
      rw [supd_f (by decide)]
      rw [supd_f (by decide)]
      rw [supd_f (by decide)]
      rw [hsz]
      refine d_set p sz 0 (by simp only [cE2, sev, svl, cen, List.cons_append, List.nil_append]; omega) (by simp only [cE2, sev, svl, cen, List.cons_append, List.nil_append]; omega) (by omega) (by simp only [cE2, sev, svl, cen, List.cons_append, List.nil_append]; omega) ?_
      refine d_fld p (by simp only [cE2, sev, svl, cen, List.cons_append, List.nil_append]; omega) ?_
      rw [supd_f (by decide)]
      rw [supd_f (by decide)]
      rw [supd_f (by decide)]
      rw [supd_f (by decide)]
      rw [hsz]
      refine d_rng (by simp only [clo, chi, cE2, sev, svl, cen, List.cons_append, List.nil_append]; omega) ?_
      refine d_put p ((sz : Int) + 1) (by simp only [cE2, sev, svl, cen, List.cons_append, List.nil_append]; omega) (by simp only [cE2, sev, svl, cen, List.cons_append, List.nil_append]; omega) ?_
      exact d_ret [] rfl (by decide) ⟨rfl, rfl⟩
theorem b_removeTop (hp : cPl tm tc tf EX) {p sz : Nat} {M : SMem} (hsz : M 64 p 5 = (sz : Int)) (h0 : 0 < sz) (h6 : sz ≤ 6) : cBG tm tf EX l dC dI cA ad scrS (d + 1) kX8_removeTop [(2, 64, (p : Int))] M (fun rr MM => rr = [] ∧ MM = wRem M p sz) := by
  refine cMeth (v := [(p : Int)]) (Fd := 90) hp (by decide) gX8_removeTop_ok gX8_removeTop_m0 (by simp [cAs, cE2, sev, svl, cen]) ?_
  refine cEnds_at gX8_removeTop_m0 rfl ?_
  refine d_fld p (by simp only [cE2, sev, svl, cen, List.cons_append, List.nil_append]; omega) ?_
  rw [hsz]
  refine d_br (fun h => ?_) (fun h => ?_)
  · simp only [cCmp, cE2, sev, svl, cen, List.cons_append, List.nil_append] at h
    first
    | omega
    | skip
      exact d_ret [] rfl (by decide) ⟨rfl, rfl⟩
  · simp only [cCmp, cE2, sev, svl, cen, List.cons_append, List.nil_append] at h
    first
    | omega
    | skip
      refine d_fld p (by simp only [cE2, sev, svl, cen, List.cons_append, List.nil_append]; omega) ?_
      rw [hsz]
      refine d_rng (by simp only [clo, chi, cE2, sev, svl, cen, List.cons_append, List.nil_append]; omega) ?_
      refine d_put p ((sz : Int) - 1) (by simp only [cE2, sev, svl, cen, List.cons_append, List.nil_append]; omega) (by simp only [cE2, sev, svl, cen, List.cons_append, List.nil_append]; omega) ?_
      refine d_fld p (by simp only [cE2, sev, svl, cen, List.cons_append, List.nil_append]; omega) ?_
      rw [supd_at]
      refine d_br (fun h => ?_) (fun h => ?_)
      · simp only [cCmp, cE2, sev, svl, cen, List.cons_append, List.nil_append] at h
        first
        | omega
        | skip
          exact d_ret [] rfl (by decide) ⟨rfl, (if_pos (by omega)).symm⟩
      · simp only [cCmp, cE2, sev, svl, cen, List.cons_append, List.nil_append] at h
        first
        | omega
        | skip
          refine d_fld p (by simp only [cE2, sev, svl, cen, List.cons_append, List.nil_append]; omega) ?_
          rw [supd_at]
          refine d_rng (by simp only [clo, chi, cE2, sev, svl, cen, List.cons_append, List.nil_append]; omega) ?_
          refine d_set p ((sz - 1) - 1) 0 (by simp only [cE2, sev, svl, cen, List.cons_append, List.nil_append]; omega) (by simp only [cE2, sev, svl, cen, List.cons_append, List.nil_append]; omega) (by omega) (by simp only [cE2, sev, svl, cen, List.cons_append, List.nil_append]; omega) ?_
          exact d_ret [] rfl (by decide) ⟨rfl, (if_neg (by omega)).symm⟩
theorem b_hasOutOver (hp : cPl tm tc tf EX) {p ly : Nat} {M : SMem} (hI : sI tg M) (hl : ly < 6) : cBG tm tf EX l dC dI cA ad scrS (d + 1) kX8_hasOutOver [(2, 64, (p : Int)), (0, 0, (ly : Int))] M (fun rr MM => MM = M ∧ ((rr = [1] ∧ ((ly : Int) + 1 < M 64 p 5 ∧ M 92 p (ly + 1) = 1)) ∨ (rr = [0] ∧ ¬ ((ly : Int) + 1 < M 64 p 5 ∧ M 92 p (ly + 1) = 1)))) := by
  have b1 := wIb (f := 64) (i := 5) (lo := 0) (hi := 6) hI p rfl
  refine cMeth (v := [(p : Int), (ly : Int)]) (Fd := 90) hp (by decide) gX8_hasOutOver_ok gX8_hasOutOver_m0 (by simp [cAs, cE2, sev, svl, cen]) ?_
  refine cEnds_at gX8_hasOutOver_m0 rfl ?_
  refine d_rng (by simp only [clo, chi, cE2, sev, svl, cen, List.cons_append, List.nil_append]; omega) ?_
  refine d_fld p (by simp only [cE2, sev, svl, cen, List.cons_append, List.nil_append]; omega) ?_
  refine d_br (fun h => ?_) (fun h => ?_)
  · simp only [cCmp, cE2, sev, svl, cen, List.cons_append, List.nil_append] at h
    first
    | omega
    | skip
      exact d_ret [0] rfl (by decide) ⟨rfl, Or.inr ⟨rfl, by omega⟩⟩
  · simp only [cCmp, cE2, sev, svl, cen, List.cons_append, List.nil_append] at h
    first
    | omega
    | skip
      refine d_rng (by simp only [clo, chi, cE2, sev, svl, cen, List.cons_append, List.nil_append]; omega) ?_
      refine d_row p (ly + 1) (by simp only [cE2, sev, svl, cen, List.cons_append, List.nil_append]; omega) (by simp only [cE2, sev, svl, cen, List.cons_append, List.nil_append]; omega) (by omega) ?_
      refine d_br (fun h => ?_) (fun h => ?_)
      · simp only [cCmp, cE2, sev, svl, cen, List.cons_append, List.nil_append] at h
        first
        | omega
        | skip
          exact d_ret [0] rfl (by decide) ⟨rfl, Or.inr ⟨rfl, by omega⟩⟩
      · simp only [cCmp, cE2, sev, svl, cen, List.cons_append, List.nil_append] at h
        first
        | omega
        | skip
          exact d_ret [1] rfl (by decide) ⟨rfl, Or.inl ⟨rfl, by omega⟩⟩
theorem b_wtraces (hp : cPl tm tc tf EX) {p ly fr up : Nat} {M : SMem} (hI : sI tg M) (hp9 : p < 12) (hl : ly < 6) (e2 : M 3 0 2 = (fr : Int)) (e3 : M 3 0 3 = (up : Int)) (h1 : fr + 1 ≤ up) (h2 : up ≤ fr + 8) (h3 : up ≤ 1000) : cBG tm tf EX l dC dI cA ad scrS (d + 1) kX8_tellTraces [(2, 64, (p : Int)), (0, 0, (ly : Int)), (2, 3, 0)] M (fun rr MM => rr = [] ∧ MM = wTr M p ly fr (up - fr) (up - fr)) := by
  refine cMeth (v := [(p : Int), (ly : Int)]) (Fd := 60) hp (by decide) gX8_tellTraces_ok gX8_tellTraces_m0 (by simp [cAs, cE2, sev, svl, cen]) ?_
  have r94 : ∀ k, wTr M p ly fr (up - fr) k 94 p ly = ((up - fr : Nat) : Int) := fun k => by
    unfold wTr
    rw [if_neg (by omega), if_pos ⟨rfl, rfl, rfl⟩]
  have r3 : ∀ k, wTr M p ly fr (up - fr) k 3 0 2 = (fr : Int) := fun k => by
    unfold wTr
    rw [if_neg (by omega), if_neg (by omega), e2]
  have r57 : ∀ k i, wTr M p ly fr (up - fr) k 57 0 i = M 57 0 i := fun k i => by
    unfold wTr
    rw [if_neg (by omega), if_neg (by omega)]
  have loop : ∀ (m k : Nat), k + m = up - fr → cEnds (cBG tm tf EX l dC dI cA ad scrS d) (fun rr MM => rr = [] ∧ MM = wTr M p ly fr (up - fr) (up - fr)) 60 gX8_tellTraces 17 [(p : Int), (ly : Int), (k : Int)] (wTr M p ly fr (up - fr) k) := by
    intro m
    induction m with
    | zero =>
      intro k hk
      have ek : k = up - fr := by omega
      refine cEnds_at gX8_tellTraces_m17 rfl ?_
      refine d_row p ly (by simp only [cE2, sev, svl, cen, List.cons_append, List.nil_append]; omega) (by simp only [cE2, sev, svl, cen, List.cons_append, List.nil_append]; omega) (by omega) ?_
      rw [r94 k]
      refine d_br (fun h => ?_) (fun h => ?_)
      · simp only [cCmp, cE2, sev, svl, cen, List.cons_append, List.nil_append] at h
        first
        | omega
        | skip
          exact d_ret [] rfl (by decide) ⟨rfl, by rw [ek]⟩
      · simp only [cCmp, cE2, sev, svl, cen, List.cons_append, List.nil_append] at h
        first
        | omega
        | skip
          refine d_rng (by simp only [clo, chi, cE2, sev, svl, cen, List.cons_append, List.nil_append]; omega) ?_
          refine d_rng (by simp only [clo, chi, cE2, sev, svl, cen, List.cons_append, List.nil_append]; omega) ?_
          refine d_fld 0 (by simp only [cE2, sev, svl, cen, List.cons_append, List.nil_append]; omega) ?_
          rw [r3 k]
          refine d_rng (by simp only [clo, chi, cE2, sev, svl, cen, List.cons_append, List.nil_append]; omega) ?_
          refine d_row 0 (k + fr) (by simp only [cE2, sev, svl, cen, List.cons_append, List.nil_append]; omega) (by simp only [cE2, sev, svl, cen, List.cons_append, List.nil_append]; omega) (by omega) ?_
          refine d_rng (by simp only [clo, chi, cE2, sev, svl, cen, List.cons_append, List.nil_append]; omega) ?_
          refine d_set p (8 * ly + k) (wTr M p ly fr (up - fr) k) 57 0 (k + fr) (by simp only [cE2, sev, svl, cen, List.cons_append, List.nil_append]; omega) (by simp only [cE2, sev, svl, cen, List.cons_append, List.nil_append]; omega) (by omega) (by simp only [cE2, sev, svl, cen, List.cons_append, List.nil_append]; omega) ?_
          refine d_rng (by simp only [clo, chi, cE2, sev, svl, cen, List.cons_append, List.nil_append]; omega) ?_
          refine d_cut [(p : Int), (ly : Int), ((k : Int) + 1)] (by simp [cE2, sev, svl, cen] <;> omega) ?_
          exact ⟨rfl, rfl⟩
    | succ m ih =>
      intro k hk
      have b1 := wIb (f := 57) (i := k + fr) (lo := 0) (hi := 126) hI 0 rfl
      refine cEnds_at gX8_tellTraces_m17 rfl ?_
      refine d_row p ly (by simp only [cE2, sev, svl, cen, List.cons_append, List.nil_append]; omega) (by simp only [cE2, sev, svl, cen, List.cons_append, List.nil_append]; omega) (by omega) ?_
      rw [r94 k]
      refine d_br (fun h => ?_) (fun h => ?_)
      · simp only [cCmp, cE2, sev, svl, cen, List.cons_append, List.nil_append] at h
        first
        | omega
        | skip
          exact d_ret [] rfl (by decide) ⟨rfl, rfl⟩
      · simp only [cCmp, cE2, sev, svl, cen, List.cons_append, List.nil_append] at h
        first
        | omega
        | skip
          refine d_rng (by simp only [clo, chi, cE2, sev, svl, cen, List.cons_append, List.nil_append]; omega) ?_
          refine d_rng (by simp only [clo, chi, cE2, sev, svl, cen, List.cons_append, List.nil_append]; omega) ?_
          refine d_fld 0 (by simp only [cE2, sev, svl, cen, List.cons_append, List.nil_append]; omega) ?_
          rw [r3 k]
          refine d_rng (by simp only [clo, chi, cE2, sev, svl, cen, List.cons_append, List.nil_append]; omega) ?_
          refine d_row 0 (k + fr) (by simp only [cE2, sev, svl, cen, List.cons_append, List.nil_append]; omega) (by simp only [cE2, sev, svl, cen, List.cons_append, List.nil_append]; omega) (by omega) ?_
          rw [r57 k (k + fr)]
          refine d_rng (by simp only [clo, chi, cE2, sev, svl, cen, List.cons_append, List.nil_append]; omega) ?_
          refine d_set p (8 * ly + k) (M 57 0 (k + fr)) (by simp only [cE2, sev, svl, cen, List.cons_append, List.nil_append]; omega) (by simp only [cE2, sev, svl, cen, List.cons_append, List.nil_append]; omega) (by omega) (by simp only [cE2, sev, svl, cen, List.cons_append, List.nil_append]; omega) ?_
          refine d_rng (by simp only [clo, chi, cE2, sev, svl, cen, List.cons_append, List.nil_append]; omega) ?_
          rw [show k + fr = fr + k by omega, wTr_s]
          refine d_cut [(p : Int), (ly : Int), ((k + 1 : Nat) : Int)] (by simp [cE2, sev, svl, cen] <;> omega) ?_
          exact ih (k + 1) (by omega)
  refine cEnds_at gX8_tellTraces_m0 rfl ?_
  refine d_fld 0 (by simp only [cE2, sev, svl, cen, List.cons_append, List.nil_append]; omega) ?_
  rw [e3]
  refine d_fld 0 (by simp only [cE2, sev, svl, cen, List.cons_append, List.nil_append]; omega) ?_
  rw [e2]
  refine d_rng (by simp only [clo, chi, cE2, sev, svl, cen, List.cons_append, List.nil_append]; omega) ?_
  refine d_set p ly ((up : Int) - (fr : Int)) (by simp only [cE2, sev, svl, cen, List.cons_append, List.nil_append]; omega) (by simp only [cE2, sev, svl, cen, List.cons_append, List.nil_append]; omega) (by omega) (by simp only [cE2, sev, svl, cen, List.cons_append, List.nil_append]; omega) ?_
  have e9 : (up : Int) - (fr : Int) = ((up - fr : Nat) : Int) := by omega
  rw [e9, ← wTr_0 (fr := fr)]
  refine d_cut [(p : Int), (ly : Int), ((0 : Nat) : Int)] (by simp [cE2, sev, svl, cen] <;> omega) ?_
  exact loop (up - fr) 0 (by omega)
end CW1
