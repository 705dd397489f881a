/-! what the methods do: signs, the tape without blanks -/
def wF (T : Nat → Int) : Nat → Nat → Nat
  | 0, k => k
  | m + 1, k => if T k = 10 ∨ T k = 32 then wF T m (k + 1) else k
def wU (T : Nat → Int) : Nat → Nat → Nat
  | 0, u => u
  | m + 1, u => if T (u - 1) = 10 ∨ T (u - 1) = 32 then wU T m (u - 1) else u
theorem wF_le (T : Nat → Int) : ∀ m k, k ≤ wF T m k ∧ wF T m k ≤ k + m := by
  intro m
  induction m with
  | zero => intro k; exact ⟨Nat.le_refl _, Nat.le_refl _⟩
  | succ m ih =>
    intro k
    unfold wF
    split
    · have := ih (k + 1)
      omega
    · omega
theorem wU_le (T : Nat → Int) : ∀ m u, m ≤ u → u - m ≤ wU T m u ∧ wU T m u ≤ u := by
  intro m
  induction m with
  | zero => intro u _; exact ⟨Nat.le_refl _, Nat.le_refl _⟩
  | succ m ih =>
    intro u hu
    unfold wU
    split
    · have := ih (u - 1) (by omega)
      omega
    · omega
theorem wF_congr {T T' : Nat → Int} : ∀ m k, (∀ i, k ≤ i → i < k + m → T i = T' i) → wF T m k = wF T' m k := by
  intro m
  induction m with
  | zero => intros; rfl
  | succ m ih =>
    intro k h
    unfold wF
    rw [h k (by omega) (by omega), ih (k + 1) (fun i h1 h2 => h i (by omega) (by omega))]
theorem wU_congr {T T' : Nat → Int} : ∀ m u, m ≤ u → (∀ i, i < u → T i = T' i) → wU T m u = wU T' m u := by
  intro m
  induction m with
  | zero => intros; rfl
  | succ m ih =>
    intro u hu h
    unfold wU
    rw [h (u - 1) (by omega), ih (u - 1) (by omega) (fun i h1 => h i (by omega))]
section CX1
variable {EX : SEx} {l : Launch} {dC : Nat → ClassId} {dI : Nat → Nat → Nat} {cA : Nat → ClassId} {ad : SAd} {scrS d : Nat}
theorem b_isBlank (hp : cPl tm tc tf EX) {x : Int} {M : SMem} : cBG tm tf EX l dC dI cA ad scrS (d + 1) kX9_isBlank [(0, 0, x)] M (fun rr MM => MM = M ∧ ((rr = [1] ∧ (x = 10 ∨ x = 32)) ∨ (rr = [0] ∧ ¬ (x = 10 ∨ x = 32)))) := by
  refine cMeth (v := [x]) (Fd := 40) hp (by decide) gX9_isBlank_ok gX9_isBlank_m0 (by simp [cAs, cE2, sev, svl, cen]) ?_
  refine cEnds_at gX9_isBlank_m0 rfl ?_
  refine d_br (fun h => ?_) (fun h => ?_)
  · simp only [cCmp, cE2, sev, svl, cen, List.cons_append, List.nil_append] at h
    exact d_ret [1] rfl (by decide) ⟨rfl, Or.inl ⟨rfl, by omega⟩⟩
  · simp only [cCmp, cE2, sev, svl, cen, List.cons_append, List.nil_append] at h
    refine d_br (fun h => ?_) (fun h => ?_)
    · simp only [cCmp, cE2, sev, svl, cen, List.cons_append, List.nil_append] at h
      exact d_ret [0] rfl (by decide) ⟨rfl, Or.inr ⟨rfl, by omega⟩⟩
    · simp only [cCmp, cE2, sev, svl, cen, List.cons_append, List.nil_append] at h
      exact d_ret [1] rfl (by decide) ⟨rfl, Or.inl ⟨rfl, by omega⟩⟩
theorem b_isLetter (hp : cPl tm tc tf EX) {x : Int} {M : SMem} : cBG tm tf EX l dC dI cA ad scrS (d + 1) kX9_isLetter [(0, 0, x)] M (fun rr MM => MM = M ∧ ((rr = [1] ∧ (97 ≤ x ∧ x ≤ 122)) ∨ (rr = [0] ∧ ¬ (97 ≤ x ∧ x ≤ 122)))) := by
  refine cMeth (v := [x]) (Fd := 40) hp (by decide) gX9_isLetter_ok gX9_isLetter_m0 (by simp [cAs, cE2, sev, svl, cen]) ?_
  refine cEnds_at gX9_isLetter_m0 rfl ?_
  refine d_br (fun h => ?_) (fun h => ?_)
  · simp only [cCmp, cE2, sev, svl, cen, List.cons_append, List.nil_append] at h
    exact d_ret [0] rfl (by decide) ⟨rfl, Or.inr ⟨rfl, by omega⟩⟩
  · simp only [cCmp, cE2, sev, svl, cen, List.cons_append, List.nil_append] at h
    refine d_br (fun h => ?_) (fun h => ?_)
    · simp only [cCmp, cE2, sev, svl, cen, List.cons_append, List.nil_append] at h
      exact d_ret [0] rfl (by decide) ⟨rfl, Or.inr ⟨rfl, by omega⟩⟩
    · simp only [cCmp, cE2, sev, svl, cen, List.cons_append, List.nil_append] at h
      exact d_ret [1] rfl (by decide) ⟨rfl, Or.inl ⟨rfl, by omega⟩⟩
theorem b_isBelow (hp : cPl tm tc tf EX) {x y : Int} {M : SMem} : cBG tm tf EX l dC dI cA ad scrS (d + 1) kX9_isBelow [(0, 0, x), (0, 0, y)] M (fun rr MM => MM = M ∧ ((rr = [1] ∧ (0 ≤ x ∧ x < y)) ∨ (rr = [0] ∧ ¬ (0 ≤ x ∧ x < y)))) := by
  refine cMeth (v := [x, y]) (Fd := 40) hp (by decide) gX9_isBelow_ok gX9_isBelow_m0 (by simp [cAs, cE2, sev, svl, cen]) ?_
  refine cEnds_at gX9_isBelow_m0 rfl ?_
  refine d_br (fun h => ?_) (fun h => ?_)
  · simp only [cCmp, cE2, sev, svl, cen, List.cons_append, List.nil_append] at h
    exact d_ret [0] rfl (by decide) ⟨rfl, Or.inr ⟨rfl, by omega⟩⟩
  · simp only [cCmp, cE2, sev, svl, cen, List.cons_append, List.nil_append] at h
    refine d_br (fun h => ?_) (fun h => ?_)
    · simp only [cCmp, cE2, sev, svl, cen, List.cons_append, List.nil_append] at h
      exact d_ret [0] rfl (by decide) ⟨rfl, Or.inr ⟨rfl, by omega⟩⟩
    · simp only [cCmp, cE2, sev, svl, cen, List.cons_append, List.nil_append] at h
      exact d_ret [1] rfl (by decide) ⟨rfl, Or.inl ⟨rfl, by omega⟩⟩
/-- the class's tape without blanks -/
def wPo (M : SMem) (n : Nat) (MM : SMem) : Prop := sI tg MM ∧ (∀ f j i, ¬ (f = 3 ∧ (i = 2 ∨ i = 3)) → MM f j i = M f j i) ∧ MM 3 0 2 = (wF (M 57 0) n 0 : Int) ∧ MM 3 0 3 = (wU (M 57 0) (n - wF (M 57 0) n 0) n : Int)
theorem b_trim (hp : cPl tm tc tf EX) {M : SMem} {n : Nat} (hn : M 3 0 1 = (n : Int)) (h9 : n ≤ 1000) (hI : sI tg M) : cBG tm tf EX l dC dI cA ad scrS (d + 2) kX7_trim [(2, 3, 0)] M (fun rr MM => rr = [] ∧ wPo M n MM) := by
  refine cMeth (v := []) (Fd := 60) hp (by decide) gX7_trim_ok gX7_trim_m0 (by simp [cAs, cE2, sev, svl, cen]) ?_
  have loop2 : ∀ (m u : Nat) (M1 : SMem), wF (M 57 0) n 0 + m = u → u ≤ n → wU (M 57 0) m u = wU (M 57 0) (n - wF (M 57 0) n 0) n → sI tg M1 → (∀ f j i, ¬ (f = 3 ∧ (i = 2 ∨ i = 3)) → M1 f j i = M f j i) → M1 3 0 2 = (wF (M 57 0) n 0 : Int) → M1 3 0 3 = (u : Int) → cEnds (cBG tm tf EX l dC dI cA ad scrS (d + 1)) (fun rr MM => rr = [] ∧ wPo M n MM) 60 gX7_trim 52 [] M1 := by
    intro m
    induction m with
    | zero =>
      intro u M1 hu hun hz hI1 hf e2 e3
      refine cEnds_at gX7_trim_m52 rfl ?_
      refine d_fld 0 rfl ?_
      refine d_fld 0 rfl ?_
      rw [e2, e3]
      refine d_br (fun h => ?_) (fun h => ?_)
      · exact d_ret [] rfl (by decide) ⟨rfl, hI1, hf, e2, by rw [e3, ← hz]; rfl⟩
      · simp only [cCmp, cE2, sev, svl, cen, List.cons_append, List.nil_append] at h
        omega
    | succ m ih =>
      intro u M1 hu hun hz hI1 hf e2 e3
      refine cEnds_at gX7_trim_m52 rfl ?_
      refine d_fld 0 rfl ?_
      refine d_fld 0 rfl ?_
      rw [e2, e3]
      refine d_br (fun h => ?_) (fun h => ?_)
      · simp only [cCmp, cE2, sev, svl, cen, List.cons_append, List.nil_append] at h
        omega
      · refine d_fld 0 rfl ?_
        rw [e3]
        refine d_rng (by simp only [clo, chi, cE2, sev, svl, cen, List.cons_append, List.nil_append]; omega) ?_
        refine d_row 0 (u - 1) (by simp only [cE2, sev, svl, cen, List.cons_append, List.nil_append]; omega) (by simp only [cE2, sev, svl, cen, List.cons_append, List.nil_append]; omega) (by omega) ?_
        rw [hf 57 0 (u - 1) (by omega)]
        refine d_call (b_isBlank hp (x := M 57 0 (u - 1))) (by simp [cAs, cE2, sev, svl, cen]) ?_
        rintro rr M' ⟨rfl, hb⟩
        rcases hb with ⟨rfl, hb⟩ | ⟨rfl, hb⟩
        · refine ⟨rfl, ?_⟩
          refine d_br (fun h => ?_) (fun h => ?_)
          · simp only [cCmp, cE2, sev, svl, cen, List.cons_append, List.nil_append] at h
            omega
          · refine d_fld 0 rfl ?_
            rw [e3]
            refine d_rng (by simp only [clo, chi, cE2, sev, svl, cen, List.cons_append, List.nil_append]; omega) ?_
            refine d_put 0 ((u - 1 : Nat) : Int) rfl (by simp only [cE2, sev, svl, cen, List.cons_append, List.nil_append]; omega) ?_
            refine d_cut [] rfl ?_
            refine ih (u - 1) _ (by omega) (by omega) ?_ (sI_put hI1 (fun q hq => ?_) (fun q hq => by cases hq)) ?_ ?_ ?_
            · rw [← hz]
              show _ = if M 57 0 (u - 1) = 10 ∨ M 57 0 (u - 1) = 32 then wU (M 57 0) m (u - 1) else u
              rw [if_pos hb]
            · cases (show srg tg 3 3 = some (0, 1000) from rfl).symm.trans hq
              exact ⟨by omega, by omega⟩
            · intro f j i hq
              rw [show supd M' 3 0 3 ((u - 1 : Nat) : Int) f j i = M' f j i from if_neg (fun z => hq ⟨z.1, Or.inr z.2.2⟩)]
              exact hf f j i hq
            · rw [supd_i (by decide)]
              exact e2
            · exact supd_at _ _ _ _ _
        · refine ⟨rfl, ?_⟩
          refine d_br (fun h => ?_) (fun h => ?_)
          · refine d_ret [] rfl (by decide) ⟨rfl, hI1, hf, e2, ?_⟩
            rw [e3, ← hz]
            show (u : Int) = ((if M 57 0 (u - 1) = 10 ∨ M 57 0 (u - 1) = 32 then wU (M 57 0) m (u - 1) else u : Nat) : Int)
            rw [if_neg hb]
          · simp only [cCmp, cE2, sev, svl, cen, List.cons_append, List.nil_append] at h
            omega
  have loop1 : ∀ (m k : Nat) (M1 : SMem), k + m = n → wF (M 57 0) m k = wF (M 57 0) n 0 → sI tg M1 → (∀ f j i, ¬ (f = 3 ∧ (i = 2 ∨ i = 3)) → M1 f j i = M f j i) → M1 3 0 2 = (k : Int) → M1 3 0 3 = (n : Int) → cEnds (cBG tm tf EX l dC dI cA ad scrS (d + 1)) (fun rr MM => rr = [] ∧ wPo M n MM) 60 gX7_trim 13 [] M1 := by
    intro m
    induction m with
    | zero =>
      intro k M1 hk hz hI1 hf e2 e3
      have ek : wF (M 57 0) n 0 = k := hz.symm
      refine cEnds_at gX7_trim_m13 rfl ?_
      refine d_fld 0 rfl ?_
      refine d_fld 0 rfl ?_
      rw [e2, e3]
      refine d_br (fun h => ?_) (fun h => ?_)
      · refine d_cut [] rfl ?_
        exact loop2 (n - wF (M 57 0) n 0) n M1 (by omega) (Nat.le_refl _) rfl hI1 hf (by rw [e2, ek]) e3
      · simp only [cCmp, cE2, sev, svl, cen, List.cons_append, List.nil_append] at h
        omega
    | succ m ih =>
      intro k M1 hk hz hI1 hf e2 e3
      refine cEnds_at gX7_trim_m13 rfl ?_
      refine d_fld 0 rfl ?_
      refine d_fld 0 rfl ?_
      rw [e2, e3]
      refine d_br (fun h => ?_) (fun h => ?_)
      · simp only [cCmp, cE2, sev, svl, cen, List.cons_append, List.nil_append] at h
        omega
      · refine d_fld 0 rfl ?_
        rw [e2]
        refine d_row 0 k (by simp only [cE2, sev, svl, cen, List.cons_append, List.nil_append]; omega) (by simp only [cE2, sev, svl, cen, List.cons_append, List.nil_append]; omega) (by omega) ?_
        rw [hf 57 0 k (by omega)]
        refine d_call (b_isBlank hp (x := M 57 0 k)) (by simp [cAs, cE2, sev, svl, cen]) ?_
        rintro rr M' ⟨rfl, hb⟩
        rcases hb with ⟨rfl, hb⟩ | ⟨rfl, hb⟩
        · refine ⟨rfl, ?_⟩
          refine d_br (fun h => ?_) (fun h => ?_)
          · simp only [cCmp, cE2, sev, svl, cen, List.cons_append, List.nil_append] at h
            omega
          · refine d_fld 0 rfl ?_
            rw [e2]
            refine d_rng (by simp only [clo, chi, cE2, sev, svl, cen, List.cons_append, List.nil_append]; omega) ?_
            refine d_put 0 ((k + 1 : Nat) : Int) rfl (by simp only [cE2, sev, svl, cen, List.cons_append, List.nil_append]; omega) ?_
            refine d_cut [] rfl ?_
            refine ih (k + 1) _ (by omega) ?_ (sI_put hI1 (fun q hq => ?_) (fun q hq => by cases hq)) ?_ ?_ ?_
            · rw [← hz]
              show _ = if M 57 0 k = 10 ∨ M 57 0 k = 32 then wF (M 57 0) m (k + 1) else k
              rw [if_pos hb]
            · cases (show srg tg 3 2 = some (0, 1000) from rfl).symm.trans hq
              exact ⟨by omega, by omega⟩
            · intro f j i hq
              rw [show supd M' 3 0 2 ((k + 1 : Nat) : Int) f j i = M' f j i from if_neg (fun z => hq ⟨z.1, Or.inl z.2.2⟩)]
              exact hf f j i hq
            · exact supd_at _ _ _ _ _
            · rw [supd_i (by decide)]
              exact e3
        · have ek : wF (M 57 0) n 0 = k := by
            rw [← hz]
            show (if M 57 0 k = 10 ∨ M 57 0 k = 32 then wF (M 57 0) m (k + 1) else k) = k
            rw [if_neg hb]
          refine ⟨rfl, ?_⟩
          refine d_br (fun h => ?_) (fun h => ?_)
          · refine d_cut [] rfl ?_
            exact loop2 (n - wF (M 57 0) n 0) n _ (by have := wF_le (M 57 0) n 0; omega) (Nat.le_refl _) rfl hI1 hf (by rw [e2, ek]) e3
          · simp only [cCmp, cE2, sev, svl, cen, List.cons_append, List.nil_append] at h
            omega
  refine cEnds_at gX7_trim_m0 rfl ?_
  refine d_put 0 0 rfl rfl ?_
  refine d_fld 0 rfl ?_
  rw [supd_i (by decide), hn]
  refine d_put 0 (n : Int) rfl (by simp only [cE2, sev, svl, cen, List.cons_append, List.nil_append]; omega) ?_
  refine d_cut [] rfl ?_
  refine loop1 n 0 _ (by omega) rfl (sI_put (sI_put hI (fun q hq => ?_) (fun q hq => by cases hq)) (fun q hq => ?_) (fun q hq => by cases hq)) ?_ ?_ ?_
  · cases (show srg tg 3 2 = some (0, 1000) from rfl).symm.trans hq
    exact ⟨by omega, by omega⟩
  · cases (show srg tg 3 3 = some (0, 1000) from rfl).symm.trans hq
    exact ⟨by omega, by omega⟩
  · intro f j i hq
    rw [show supd (supd M 3 0 2 0) 3 0 3 (n : Int) f j i = supd M 3 0 2 0 f j i from if_neg (fun z => hq ⟨z.1, Or.inr z.2.2⟩)]
    exact if_neg (fun z => hq ⟨z.1, Or.inl z.2.2⟩)
  · rw [supd_i (by decide)]
    exact supd_at _ _ _ _ _
  · exact supd_at _ _ _ _ _
end CX1
