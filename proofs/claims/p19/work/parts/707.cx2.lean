/-! what the methods do: is it a word, is it another's, it is told -/
theorem wI {M : SMem} {f j i : Nat} {z lo hi : Int} (hI : sI tg M) (hr : srg tg f i = some (lo, hi)) (h : lo ≤ z ∧ z ≤ hi) : sI tg (supd M f j i z) := sI_put hI (fun q hq => by cases hr.symm.trans hq; exact h) (fun q hq => by cases hq)
theorem wIb {M : SMem} {f i : Nat} {lo hi : Int} (hI : sI tg M) (j : Nat) (hr : srg tg f i = some (lo, hi)) : lo ≤ M f j i ∧ M f j i ≤ hi := hI.1 f i (lo, hi) hr j
def wTx (s : Int) (T : Nat → Int) (fr up : Nat) : Prop := fr + 1 ≤ up ∧ up ≤ fr + 8 ∧ ∀ k, fr ≤ k → k < up → ((97 ≤ T k ∧ T k ≤ 122) ∨ (s ≠ 0 ∧ T k = 46))
def wWd (S L T : Nat → Int) (fr up nm : Nat) : Prop := S nm = (up : Int) - (fr : Int) ∧ ∀ k : Nat, (k : Int) < S nm → L (8 * nm + k) = T (fr + k)
def wOt (D S L T : Nat → Int) (fr up nm : Nat) : Prop := ∃ i, i < 8 ∧ i ≠ nm ∧ D i ≠ 0 ∧ wWd S L T fr up i
def wW (x : Int) : Int := if x = 102 ∨ x = 105 ∨ x = 106 ∨ x = 108 ∨ x = 114 ∨ x = 116 then 1 else if x = 109 ∨ x = 119 then 3 else 2
theorem wW_le (x : Int) : 1 ≤ wW x ∧ wW x ≤ 3 := by
  unfold wW
  split
  · omega
  · split <;> omega
def wSm (L : Nat → Int) (a : Nat) : Nat → Int
  | 0 => 0
  | k + 1 => wSm L a k + wW (L (a + k))
theorem wSm_le (L : Nat → Int) (a : Nat) : ∀ k, 0 ≤ wSm L a k ∧ wSm L a k ≤ 3 * k := by
  intro k
  induction k with
  | zero => exact ⟨Int.le_refl _, Int.le_refl _⟩
  | succ k ih =>
    have := wW_le (L (a + k))
    unfold wSm
    omega
theorem wSm_congr {L L' : Nat → Int} {a b : Nat} : ∀ k, (∀ i, i < k → L (a + i) = L' (b + i)) → wSm L a k = wSm L' b k := by
  intro k
  induction k with
  | zero => intro _; rfl
  | succ k ih =>
    intro h
    unfold wSm
    rw [ih (fun i hi => h i (by omega)), h k (by omega)]
def wPt (L T : Nat → Int) (fr nm len : Nat) (i : Nat) : Int := if 8 * nm ≤ i ∧ i < 8 * nm + len then T (fr + (i - 8 * nm)) else L i
def wSt (D : Nat → Int) (nm : Nat) (z : Int) (i : Nat) : Int := if i = nm then z else D i
theorem supd_row {M : SMem} {f i : Nat} {z : Int} : supd M f 0 i z f 0 = wSt (M f 0) i z := by
  funext i'
  unfold supd wSt
  by_cases h : i' = i
  · rw [if_pos ⟨rfl, rfl, h⟩, if_pos h]
  · rw [if_neg (fun q => h q.2.2), if_neg h]
section CX2
variable {EX : SEx} {l : Launch} {dC : Nat → ClassId} {dI : Nat → Nat → Nat} {cA : Nat → ClassId} {ad : SAd} {scrS d : Nat}
theorem b_isText (hp : cPl tm tc tf EX) {s : Int} {M : SMem} {fr up : Nat} (e2 : M 3 0 2 = (fr : Int)) (e3 : M 3 0 3 = (up : Int)) (h9 : fr ≤ up ∧ up ≤ 1000) : cBG tm tf EX l dC dI cA ad scrS (d + 2) kX7_isText [(2, 3, 0), (0, 0, s)] M (fun rr MM => MM = M ∧ ((rr = [1] ∧ wTx s (M 57 0) fr up) ∨ (rr = [0] ∧ ¬ wTx s (M 57 0) fr up))) := by
  refine cMeth (v := [s]) (Fd := 60) hp (by decide) gX7_isText_ok gX7_isText_m0 (by simp [cAs, cE2, sev, svl, cen]) ?_
  have loop : ∀ (m k : Nat), k + m = up → fr ≤ k → fr + 1 ≤ up → up ≤ fr + 8 → (∀ i, fr ≤ i → i < k → ((97 ≤ M 57 0 i ∧ M 57 0 i ≤ 122) ∨ (s ≠ 0 ∧ M 57 0 i = 46))) → cEnds (cBG tm tf EX l dC dI cA ad scrS (d + 1)) (fun rr MM => MM = M ∧ ((rr = [1] ∧ wTx s (M 57 0) fr up) ∨ (rr = [0] ∧ ¬ wTx s (M 57 0) fr up))) 60 gX7_isText 34 [s, (k : Int)] M := by
    intro m
    induction m with
    | zero =>
      intro k hk hf h1 h2 hl
      refine cEnds_at gX7_isText_m34 rfl ?_
      refine d_fld 0 rfl ?_
      rw [e3]
      refine d_br (fun h => ?_) (fun h => ?_)
      · exact d_ret [1] rfl (by decide) ⟨rfl, Or.inl ⟨rfl, h1, h2, fun i a b => hl i a (by omega)⟩⟩
      · simp only [cCmp, cE2, sev, svl, cen, List.cons_append, List.nil_append] at h
        omega
    | succ m ih =>
      intro k hk hf h1 h2 hl
      refine cEnds_at gX7_isText_m34 rfl ?_
      refine d_fld 0 rfl ?_
      rw [e3]
      refine d_br (fun h => ?_) (fun h => ?_)
      · simp only [cCmp, cE2, sev, svl, cen, List.cons_append, List.nil_append] at h
        omega
      · refine d_row 0 k (by simp only [cE2, sev, svl, cen, List.cons_append, List.nil_append]; omega) (by simp only [cE2, sev, svl, cen, List.cons_append, List.nil_append]; omega) (by omega) ?_
        refine d_call (b_isLetter hp (x := M 57 0 k)) (by simp [cAs, cE2, sev, svl, cen]) ?_
        rintro rr M' ⟨rfl, hb⟩
        rcases hb with ⟨rfl, hb⟩ | ⟨rfl, hb⟩
        · refine ⟨rfl, ?_⟩
          refine d_br (fun h => ?_) (fun h => ?_)
          · refine d_rng (by simp only [clo, chi, cE2, sev, svl, cen, List.cons_append, List.nil_append]; omega) ?_
            refine d_cut [s, ((k + 1 : Nat) : Int)] (by simp [cE2, sev, svl, cen] <;> omega) ?_
            refine ih (k + 1) (by omega) (by omega) h1 h2 (fun i a b => ?_)
            by_cases hik : i = k
            · rw [hik]
              exact Or.inl hb
            · exact hl i a (by omega)
          · simp only [cCmp, cE2, sev, svl, cen, List.cons_append, List.nil_append] at h
            omega
        · refine ⟨rfl, ?_⟩
          refine d_br (fun h => ?_) (fun h => ?_)
          · simp only [cCmp, cE2, sev, svl, cen, List.cons_append, List.nil_append] at h
            omega
          · refine d_br (fun h => ?_) (fun h => ?_)
            · simp only [cCmp, cE2, sev, svl, cen, List.cons_append, List.nil_append] at h
              refine d_ret [0] rfl (by decide) ⟨rfl, Or.inr ⟨rfl, fun q => ?_⟩⟩
              rcases q.2.2 k hf (by omega) with q | q
              · exact hb q
              · omega
            · simp only [cCmp, cE2, sev, svl, cen, List.cons_append, List.nil_append] at h
              have hs : s ≠ 0 := by omega
              refine d_row 0 k (by simp only [cE2, sev, svl, cen, List.cons_append, List.nil_append]; omega) (by simp only [cE2, sev, svl, cen, List.cons_append, List.nil_append]; omega) (by omega) ?_
              refine d_br (fun h => ?_) (fun h => ?_)
              · simp only [cCmp, cE2, sev, svl, cen, List.cons_append, List.nil_append] at h
                refine d_rng (by simp only [clo, chi, cE2, sev, svl, cen, List.cons_append, List.nil_append]; omega) ?_
                refine d_cut [s, ((k + 1 : Nat) : Int)] (by simp [cE2, sev, svl, cen] <;> omega) ?_
                refine ih (k + 1) (by omega) (by omega) h1 h2 (fun i a b => ?_)
                by_cases hik : i = k
                · rw [hik]
                  exact Or.inr ⟨hs, by omega⟩
                · exact hl i a (by omega)
              · simp only [cCmp, cE2, sev, svl, cen, List.cons_append, List.nil_append] at h
                refine d_ret [0] rfl (by decide) ⟨rfl, Or.inr ⟨rfl, fun q => ?_⟩⟩
                rcases q.2.2 k hf (by omega) with q | q
                · exact hb q
                · omega
  refine cEnds_at gX7_isText_m0 rfl ?_
  refine d_fld 0 rfl ?_
  refine d_fld 0 rfl ?_
  rw [e2, e3]
  refine d_rng (by simp only [clo, chi, cE2, sev, svl, cen, List.cons_append, List.nil_append]; omega) ?_
  refine d_br (fun h => ?_) (fun h => ?_)
  · simp only [cCmp, cE2, sev, svl, cen, List.cons_append, List.nil_append] at h
    exact d_ret [0] rfl (by decide) ⟨rfl, Or.inr ⟨rfl, fun q => by have := q.1; omega⟩⟩
  · simp only [cCmp, cE2, sev, svl, cen, List.cons_append, List.nil_append] at h
    refine d_fld 0 rfl ?_
    refine d_fld 0 rfl ?_
    rw [e2, e3]
    refine d_rng (by simp only [clo, chi, cE2, sev, svl, cen, List.cons_append, List.nil_append]; omega) ?_
    refine d_br (fun h => ?_) (fun h => ?_)
    · simp only [cCmp, cE2, sev, svl, cen, List.cons_append, List.nil_append] at h
      refine d_fld 0 rfl ?_
      rw [e2]
      refine d_cut [s, (fr : Int)] (by simp [cE2, sev, svl, cen] <;> omega) ?_
      exact loop (up - fr) fr (by omega) (Nat.le_refl _) (by omega) (by omega) (fun i a b => by omega)
    · simp only [cCmp, cE2, sev, svl, cen, List.cons_append, List.nil_append] at h
      exact d_ret [0] rfl (by decide) ⟨rfl, Or.inr ⟨rfl, fun q => by have := q.2.1; omega⟩⟩
theorem b_isWord (hp : cPl tm tc tf EX) {M : SMem} {fr up nm : Nat} (hI : sI tg M) (hnm : nm < 8) (e2 : M 3 0 2 = (fr : Int)) (e3 : M 3 0 3 = (up : Int)) (h9 : fr ≤ up ∧ up ≤ 1000) : cBG tm tf EX l dC dI cA ad scrS (d + 1) kX2_isWord [(2, 4, 0), (0, 0, (nm : Int)), (2, 3, 0)] M (fun rr MM => MM = M ∧ ((rr = [1] ∧ wWd (M 61 0) (M 63 0) (M 57 0) fr up nm) ∨ (rr = [0] ∧ ¬ wWd (M 61 0) (M 63 0) (M 57 0) fr up nm))) := by
  refine cMeth (v := [(nm : Int)]) (Fd := 60) hp (by decide) gX2_isWord_ok gX2_isWord_m0 (by simp [cAs, cE2, sev, svl, cen]) ?_
  have hb := wIb (f := 61) (i := nm) (lo := 0) (hi := 8) hI 0 rfl
  obtain ⟨sz, hsz⟩ : ∃ sz : Nat, M 61 0 nm = (sz : Int) := ⟨(M 61 0 nm).toNat, by omega⟩
  have loop : ∀ (m k : Nat), k + m = sz → M 61 0 nm = (up : Int) - (fr : Int) → (∀ i : Nat, i < k → M 63 0 (8 * nm + i) = M 57 0 (fr + i)) → cEnds (cBG tm tf EX l dC dI cA ad scrS d) (fun rr MM => MM = M ∧ ((rr = [1] ∧ wWd (M 61 0) (M 63 0) (M 57 0) fr up nm) ∨ (rr = [0] ∧ ¬ wWd (M 61 0) (M 63 0) (M 57 0) fr up nm))) 60 gX2_isWord 22 [(nm : Int), (k : Int)] M := by
    intro m
    induction m with
    | zero =>
      intro k hk he hl
      refine cEnds_at gX2_isWord_m22 rfl ?_
      refine d_row 0 nm (by simp only [cE2, sev, svl, cen, List.cons_append, List.nil_append]; omega) (by simp only [cE2, sev, svl, cen, List.cons_append, List.nil_append]; omega) hnm ?_
      rw [hsz]
      refine d_br (fun h => ?_) (fun h => ?_)
      · exact d_ret [1] rfl (by decide) ⟨rfl, Or.inl ⟨rfl, he, fun i a => hl i (by omega)⟩⟩
      · simp only [cCmp, cE2, sev, svl, cen, List.cons_append, List.nil_append] at h
        omega
    | succ m ih =>
      intro k hk he hl
      refine cEnds_at gX2_isWord_m22 rfl ?_
      refine d_row 0 nm (by simp only [cE2, sev, svl, cen, List.cons_append, List.nil_append]; omega) (by simp only [cE2, sev, svl, cen, List.cons_append, List.nil_append]; omega) hnm ?_
      rw [hsz]
      refine d_br (fun h => ?_) (fun h => ?_)
      · simp only [cCmp, cE2, sev, svl, cen, List.cons_append, List.nil_append] at h
        omega
      · refine d_rng (by simp only [clo, chi, cE2, sev, svl, cen, List.cons_append, List.nil_append]; omega) ?_
        refine d_rng (by simp only [clo, chi, cE2, sev, svl, cen, List.cons_append, List.nil_append]; omega) ?_
        refine d_row 0 (8 * nm + k) (by simp only [cE2, sev, svl, cen, List.cons_append, List.nil_append]; omega) (by simp only [cE2, sev, svl, cen, List.cons_append, List.nil_append]; omega) (by omega) ?_
        refine d_fld 0 rfl ?_
        rw [e2]
        refine d_rng (by simp only [clo, chi, cE2, sev, svl, cen, List.cons_append, List.nil_append]; omega) ?_
        refine d_row 0 (fr + k) (by simp only [cE2, sev, svl, cen, List.cons_append, List.nil_append]; omega) (by simp only [cE2, sev, svl, cen, List.cons_append, List.nil_append]; omega) (by omega) ?_
        refine d_br (fun h => ?_) (fun h => ?_)
        · simp only [cCmp, cE2, sev, svl, cen, List.cons_append, List.nil_append] at h
          refine d_rng (by simp only [clo, chi, cE2, sev, svl, cen, List.cons_append, List.nil_append]; omega) ?_
          refine d_cut [(nm : Int), ((k + 1 : Nat) : Int)] (by simp [cE2, sev, svl, cen] <;> omega) ?_
          refine ih (k + 1) (by omega) he (fun i a => ?_)
          by_cases hik : i = k
          · rw [hik]
            omega
          · exact hl i (by omega)
        · simp only [cCmp, cE2, sev, svl, cen, List.cons_append, List.nil_append] at h
          refine d_ret [0] rfl (by decide) ⟨rfl, Or.inr ⟨rfl, fun q => ?_⟩⟩
          have := q.2 k (by omega)
          omega
  refine cEnds_at gX2_isWord_m0 rfl ?_
  refine d_row 0 nm (by simp only [cE2, sev, svl, cen, List.cons_append, List.nil_append]; omega) (by simp only [cE2, sev, svl, cen, List.cons_append, List.nil_append]; omega) hnm ?_
  refine d_fld 0 rfl ?_
  refine d_fld 0 rfl ?_
  rw [e2, e3]
  refine d_rng (by simp only [clo, chi, cE2, sev, svl, cen, List.cons_append, List.nil_append]; omega) ?_
  refine d_br (fun h => ?_) (fun h => ?_)
  · simp only [cCmp, cE2, sev, svl, cen, List.cons_append, List.nil_append] at h
    refine d_cut [(nm : Int), ((0 : Nat) : Int)] (by simp [cE2, sev, svl, cen] <;> omega) ?_
    exact loop sz 0 (by omega) (by omega) (fun i a => by omega)
  · simp only [cCmp, cE2, sev, svl, cen, List.cons_append, List.nil_append] at h
    exact d_ret [0] rfl (by decide) ⟨rfl, Or.inr ⟨rfl, fun q => by have := q.1; omega⟩⟩
theorem b_isOthers (hp : cPl tm tc tf EX) {M : SMem} {fr up nm : Nat} (hI : sI tg M) (hnm : nm < 8) (e2 : M 3 0 2 = (fr : Int)) (e3 : M 3 0 3 = (up : Int)) (h9 : fr ≤ up ∧ up ≤ 1000) : cBG tm tf EX l dC dI cA ad scrS (d + 2) kX2_isOthers [(2, 4, 0), (0, 0, (nm : Int)), (2, 3, 0)] M (fun rr MM => MM = M ∧ ((rr = [1] ∧ wOt (M 58 0) (M 61 0) (M 63 0) (M 57 0) fr up nm) ∨ (rr = [0] ∧ ¬ wOt (M 58 0) (M 61 0) (M 63 0) (M 57 0) fr up nm))) := by
  refine cMeth (v := [(nm : Int)]) (Fd := 60) hp (by decide) gX2_isOthers_ok gX2_isOthers_m0 (by simp [cAs, cE2, sev, svl, cen]) ?_
  have loop : ∀ (m k : Nat), k + m = 8 → (∀ i : Nat, i < k → ¬ (i ≠ nm ∧ M 58 0 i ≠ 0 ∧ wWd (M 61 0) (M 63 0) (M 57 0) fr up i)) → cEnds (cBG tm tf EX l dC dI cA ad scrS (d + 1)) (fun rr MM => MM = M ∧ ((rr = [1] ∧ wOt (M 58 0) (M 61 0) (M 63 0) (M 57 0) fr up nm) ∨ (rr = [0] ∧ ¬ wOt (M 58 0) (M 61 0) (M 63 0) (M 57 0) fr up nm))) 60 gX2_isOthers 2 [(nm : Int), (k : Int)] M := by
    intro m
    induction m with
    | zero =>
      intro k hk hl
      refine cEnds_at gX2_isOthers_m2 rfl ?_
      refine d_br (fun h => ?_) (fun h => ?_)
      · refine d_ret [0] rfl (by decide) ⟨rfl, Or.inr ⟨rfl, ?_⟩⟩
        rintro ⟨i, hi, q⟩
        exact hl i (by omega) q
      · simp only [cCmp, cE2, sev, svl, cen, List.cons_append, List.nil_append] at h
        omega
    | succ m ih =>
      intro k hk hl
      have nx : ¬ (k ≠ nm ∧ M 58 0 k ≠ 0 ∧ wWd (M 61 0) (M 63 0) (M 57 0) fr up k) → cEnds (cBG tm tf EX l dC dI cA ad scrS (d + 1)) (fun rr MM => MM = M ∧ ((rr = [1] ∧ wOt (M 58 0) (M 61 0) (M 63 0) (M 57 0) fr up nm) ∨ (rr = [0] ∧ ¬ wOt (M 58 0) (M 61 0) (M 63 0) (M 57 0) fr up nm))) 60 gX2_isOthers 2 [(nm : Int), ((k + 1 : Nat) : Int)] M := fun hq => ih (k + 1) (by omega) (fun i a => by
        by_cases hik : i = k
        · rw [hik]
          exact hq
        · exact hl i (by omega))
      refine cEnds_at gX2_isOthers_m2 rfl ?_
      refine d_br (fun h => ?_) (fun h => ?_)
      · simp only [cCmp, cE2, sev, svl, cen, List.cons_append, List.nil_append] at h
        omega
      · refine d_br (fun h => ?_) (fun h => ?_)
        · simp only [cCmp, cE2, sev, svl, cen, List.cons_append, List.nil_append] at h
          refine d_rng (by simp only [clo, chi, cE2, sev, svl, cen, List.cons_append, List.nil_append]; omega) ?_
          refine d_cut [(nm : Int), ((k + 1 : Nat) : Int)] (by simp [cE2, sev, svl, cen] <;> omega) ?_
          exact nx (fun q => by have := q.1; omega)
        · simp only [cCmp, cE2, sev, svl, cen, List.cons_append, List.nil_append] at h
          refine d_row 0 k (by simp only [cE2, sev, svl, cen, List.cons_append, List.nil_append]; omega) (by simp only [cE2, sev, svl, cen, List.cons_append, List.nil_append]; omega) (by omega) ?_
          refine d_br (fun h => ?_) (fun h => ?_)
          · simp only [cCmp, cE2, sev, svl, cen, List.cons_append, List.nil_append] at h
            refine d_rng (by simp only [clo, chi, cE2, sev, svl, cen, List.cons_append, List.nil_append]; omega) ?_
            refine d_cut [(nm : Int), ((k + 1 : Nat) : Int)] (by simp [cE2, sev, svl, cen] <;> omega) ?_
            exact nx (fun q => by have := q.2.1; omega)
          · simp only [cCmp, cE2, sev, svl, cen, List.cons_append, List.nil_append] at h
            have h58 : M 58 0 k ≠ 0 := by omega
            refine d_call (b_isWord hp (nm := k) hI (by omega) e2 e3 h9) (by simp [cAs, cE2, sev, svl, cen]) ?_
            rintro rr M' ⟨rfl, hb⟩
            rcases hb with ⟨rfl, hb⟩ | ⟨rfl, hb⟩
            · refine ⟨rfl, ?_⟩
              refine d_br (fun h => ?_) (fun h => ?_)
              · simp only [cCmp, cE2, sev, svl, cen, List.cons_append, List.nil_append] at h
                omega
              · exact d_ret [1] rfl (by decide) ⟨rfl, Or.inl ⟨rfl, k, by omega, by omega, h58, hb⟩⟩
            · refine ⟨rfl, ?_⟩
              refine d_br (fun h => ?_) (fun h => ?_)
              · refine d_rng (by simp only [clo, chi, cE2, sev, svl, cen, List.cons_append, List.nil_append]; omega) ?_
                refine d_cut [(nm : Int), ((k + 1 : Nat) : Int)] (by simp [cE2, sev, svl, cen] <;> omega) ?_
                exact nx (fun q => hb q.2.2)
              · simp only [cCmp, cE2, sev, svl, cen, List.cons_append, List.nil_append] at h
                omega
  refine cEnds_at gX2_isOthers_m0 rfl ?_
  refine d_cut [(nm : Int), ((0 : Nat) : Int)] (by simp [cE2, sev, svl, cen] <;> omega) ?_
  exact loop 8 0 (by omega) (fun i a => by omega)
theorem b_widthOf (hp : cPl tm tc tf EX) {x : Int} {M : SMem} : cBG tm tf EX l dC dI cA ad scrS (d + 1) kX2_widthOf [(0, 0, x)] M (fun rr MM => MM = M ∧ rr = [wW x]) := by
  refine cMeth (v := [x]) (Fd := 60) hp (by decide) gX2_widthOf_ok gX2_widthOf_m0 (by simp [cAs, cE2, sev, svl, cen]) ?_
  refine cEnds_at gX2_widthOf_m0 rfl ?_
  have fin : ∀ (k : Nat) (z : Int) (r : List CN) (v : List Int), 1 ≤ z → z ≤ 3 → wW x = z → cden (cBG tm tf EX l dC dI cA ad scrS d) (fun rr MM => MM = M ∧ rr = [wW x]) (cEnds (cBG tm tf EX l dC dI cA ad scrS d) (fun rr MM => MM = M ∧ rr = [wW x]) 60 gX2_widthOf) (k + 1) ((10, 0, 0, [(0, 0, (z, []))]) :: r) v M := by
    intro k z r v h1 h2 h3
    refine d_ret [z] ?_ ?_ ⟨rfl, by rw [h3]⟩
    · simp [cE2, sev, svl]
    · intro y hy
      rw [List.mem_singleton.mp hy]
      simp only [clo, chi]
      omega
  have q2 : ¬ (x = 102 ∨ x = 105 ∨ x = 106 ∨ x = 108 ∨ x = 114 ∨ x = 116) → ¬ (x = 109 ∨ x = 119) → wW x = 2 := fun a b => by unfold wW; rw [if_neg a, if_neg b]
  have q1 : (x = 102 ∨ x = 105 ∨ x = 106 ∨ x = 108 ∨ x = 114 ∨ x = 116) → wW x = 1 := fun a => by unfold wW; rw [if_pos a]
  have q3 : (x = 109 ∨ x = 119) → wW x = 3 := fun a => by unfold wW; rw [if_neg (by omega), if_pos a]
  refine d_br (fun h => ?_) (fun h => ?_)
  · simp only [cCmp, cE2, sev, svl, cen, List.cons_append, List.nil_append] at h
    exact fin _ 2 _ _ (by omega) (by omega) (q2 (by omega) (by omega))
  · simp only [cCmp, cE2, sev, svl, cen, List.cons_append, List.nil_append] at h
    refine d_br (fun h => ?_) (fun h => ?_)
    · simp only [cCmp, cE2, sev, svl, cen, List.cons_append, List.nil_append] at h
      exact fin _ 2 _ _ (by omega) (by omega) (q2 (by omega) (by omega))
    · simp only [cCmp, cE2, sev, svl, cen, List.cons_append, List.nil_append] at h
      refine d_br (fun h => ?_) (fun h => ?_)
      · simp only [cCmp, cE2, sev, svl, cen, List.cons_append, List.nil_append] at h
        exact fin _ 1 _ _ (by omega) (by omega) (q1 (by omega))
      simp only [cCmp, cE2, sev, svl, cen, List.cons_append, List.nil_append] at h
      refine d_br (fun h => ?_) (fun h => ?_)
      · simp only [cCmp, cE2, sev, svl, cen, List.cons_append, List.nil_append] at h
        exact fin _ 2 _ _ (by omega) (by omega) (q2 (by omega) (by omega))
      simp only [cCmp, cE2, sev, svl, cen, List.cons_append, List.nil_append] at h
      refine d_br (fun h => ?_) (fun h => ?_)
      · simp only [cCmp, cE2, sev, svl, cen, List.cons_append, List.nil_append] at h
        exact fin _ 2 _ _ (by omega) (by omega) (q2 (by omega) (by omega))
      simp only [cCmp, cE2, sev, svl, cen, List.cons_append, List.nil_append] at h
      refine d_br (fun h => ?_) (fun h => ?_)
      · simp only [cCmp, cE2, sev, svl, cen, List.cons_append, List.nil_append] at h
        exact fin _ 1 _ _ (by omega) (by omega) (q1 (by omega))
      simp only [cCmp, cE2, sev, svl, cen, List.cons_append, List.nil_append] at h
      refine d_br (fun h => ?_) (fun h => ?_)
      · simp only [cCmp, cE2, sev, svl, cen, List.cons_append, List.nil_append] at h
        exact fin _ 1 _ _ (by omega) (by omega) (q1 (by omega))
      simp only [cCmp, cE2, sev, svl, cen, List.cons_append, List.nil_append] at h
      refine d_br (fun h => ?_) (fun h => ?_)
      · simp only [cCmp, cE2, sev, svl, cen, List.cons_append, List.nil_append] at h
        exact fin _ 2 _ _ (by omega) (by omega) (q2 (by omega) (by omega))
      simp only [cCmp, cE2, sev, svl, cen, List.cons_append, List.nil_append] at h
      refine d_br (fun h => ?_) (fun h => ?_)
      · simp only [cCmp, cE2, sev, svl, cen, List.cons_append, List.nil_append] at h
        exact fin _ 1 _ _ (by omega) (by omega) (q1 (by omega))
      simp only [cCmp, cE2, sev, svl, cen, List.cons_append, List.nil_append] at h
      refine d_br (fun h => ?_) (fun h => ?_)
      · simp only [cCmp, cE2, sev, svl, cen, List.cons_append, List.nil_append] at h
        exact fin _ 3 _ _ (by omega) (by omega) (q3 (by omega))
      simp only [cCmp, cE2, sev, svl, cen, List.cons_append, List.nil_append] at h
      refine d_br (fun h => ?_) (fun h => ?_)
      · simp only [cCmp, cE2, sev, svl, cen, List.cons_append, List.nil_append] at h
        exact fin _ 2 _ _ (by omega) (by omega) (q2 (by omega) (by omega))
      simp only [cCmp, cE2, sev, svl, cen, List.cons_append, List.nil_append] at h
      refine d_br (fun h => ?_) (fun h => ?_)
      · simp only [cCmp, cE2, sev, svl, cen, List.cons_append, List.nil_append] at h
        exact fin _ 2 _ _ (by omega) (by omega) (q2 (by omega) (by omega))
      simp only [cCmp, cE2, sev, svl, cen, List.cons_append, List.nil_append] at h
      refine d_br (fun h => ?_) (fun h => ?_)
      · simp only [cCmp, cE2, sev, svl, cen, List.cons_append, List.nil_append] at h
        exact fin _ 2 _ _ (by omega) (by omega) (q2 (by omega) (by omega))
      simp only [cCmp, cE2, sev, svl, cen, List.cons_append, List.nil_append] at h
      refine d_br (fun h => ?_) (fun h => ?_)
      · simp only [cCmp, cE2, sev, svl, cen, List.cons_append, List.nil_append] at h
        exact fin _ 2 _ _ (by omega) (by omega) (q2 (by omega) (by omega))
      simp only [cCmp, cE2, sev, svl, cen, List.cons_append, List.nil_append] at h
      refine d_br (fun h => ?_) (fun h => ?_)
      · simp only [cCmp, cE2, sev, svl, cen, List.cons_append, List.nil_append] at h
        exact fin _ 1 _ _ (by omega) (by omega) (q1 (by omega))
      simp only [cCmp, cE2, sev, svl, cen, List.cons_append, List.nil_append] at h
      refine d_br (fun h => ?_) (fun h => ?_)
      · simp only [cCmp, cE2, sev, svl, cen, List.cons_append, List.nil_append] at h
        exact fin _ 2 _ _ (by omega) (by omega) (q2 (by omega) (by omega))
      simp only [cCmp, cE2, sev, svl, cen, List.cons_append, List.nil_append] at h
      refine d_br (fun h => ?_) (fun h => ?_)
      · simp only [cCmp, cE2, sev, svl, cen, List.cons_append, List.nil_append] at h
        exact fin _ 1 _ _ (by omega) (by omega) (q1 (by omega))
      simp only [cCmp, cE2, sev, svl, cen, List.cons_append, List.nil_append] at h
      refine d_br (fun h => ?_) (fun h => ?_)
      · simp only [cCmp, cE2, sev, svl, cen, List.cons_append, List.nil_append] at h
        exact fin _ 2 _ _ (by omega) (by omega) (q2 (by omega) (by omega))
      simp only [cCmp, cE2, sev, svl, cen, List.cons_append, List.nil_append] at h
      refine d_br (fun h => ?_) (fun h => ?_)
      · simp only [cCmp, cE2, sev, svl, cen, List.cons_append, List.nil_append] at h
        exact fin _ 2 _ _ (by omega) (by omega) (q2 (by omega) (by omega))
      simp only [cCmp, cE2, sev, svl, cen, List.cons_append, List.nil_append] at h
      refine d_br (fun h => ?_) (fun h => ?_)
      · simp only [cCmp, cE2, sev, svl, cen, List.cons_append, List.nil_append] at h
        exact fin _ 3 _ _ (by omega) (by omega) (q3 (by omega))
      simp only [cCmp, cE2, sev, svl, cen, List.cons_append, List.nil_append] at h
      omega
end CX2
