/-! the class's tokens -/
theorem supd_n {M : SMem} {f j i : Nat} {v : Int} {f' j' i' : Nat} (h : ¬ (f' = f ∧ j' = j ∧ i' = i)) : supd M f j i v f' j' i' = M f' j' i' := if_neg h
/-- what is left as it was -/
abbrev oFm (P : Nat → Nat → Prop) (M MM : SMem) : Prop := ∀ f j i, ¬ P f i → MM f j i = M f j i
theorem oFm_r {P : Nat → Nat → Prop} {M : SMem} : oFm P M M := fun _ _ _ _ => rfl
theorem oFm_t {P : Nat → Nat → Prop} {M M1 M2 : SMem} (h1 : oFm P M M1) (h2 : oFm P M1 M2) : oFm P M M2 := fun f j i h => (h2 f j i h).trans (h1 f j i h)
theorem oFm_w {P Q : Nat → Nat → Prop} {M M1 : SMem} (hPQ : ∀ f i, P f i → Q f i) (h1 : oFm P M M1) : oFm Q M M1 := fun f j i h => h1 f j i (fun q => h (hPQ f i q))
theorem oFm_p {P : Nat → Nat → Prop} {M M1 : SMem} {f j i : Nat} {z : Int} (hp : P f i) (h1 : oFm P M M1) : oFm P M (supd M1 f j i z) := fun f' j' i' h => (supd_n (fun q => h (by rw [q.1, q.2.2]; exact hp))).trans (h1 f' j' i' h)
theorem oFm_row {P : Nat → Nat → Prop} {M M1 : SMem} (h1 : oFm P M M1) {f j : Nat} (h : ∀ i, ¬ P f i) : M1 f j = M f j := by
  funext i
  exact h1 f j i (h i)
theorem oAll1 {P : Nat → Prop} {k : Nat} (h : ∀ i, i < k → P i) (hk : P k) : ∀ i, i < k + 1 → P i := by
  intro i hi
  rcases Nat.lt_or_ge i k with q | q
  · exact h i q
  · have e : i = k := by omega
    rw [e]
    exact hk
theorem i32v {z : Int} (h : -2147483648 ≤ z ∧ z ≤ 2147483647) : (Int32.ofInt z).toInt = z := Int32.toInt_ofInt_of_le (by omega) (by omega)
theorem cfn16v {a b : Int} (ha : -2147483648 ≤ a ∧ a ≤ 2147483647) (hb : -2147483648 ≤ b ∧ b ≤ 2147483647) (h : -2147483648 ≤ a + b ∧ a + b ≤ 2147483647) : cfn 16 a b = a + b := by
  show (Int32.ofInt a + Int32.ofInt b).toInt = _
  rw [Int32.toInt_add, i32v ha, i32v hb, sbm32 h.1 h.2]
theorem cfn17v {a b : Int} (ha : -2147483648 ≤ a ∧ a ≤ 2147483647) (hb : -2147483648 ≤ b ∧ b ≤ 2147483647) (h : -2147483648 ≤ a - b ∧ a - b ≤ 2147483647) : cfn 17 a b = a - b := by
  show (Int32.ofInt a - Int32.ofInt b).toInt = _
  rw [Int32.toInt_sub, i32v ha, i32v hb, sbm32 h.1 h.2]
theorem cfn4v {a b : Int} (ha : -2147483648 ≤ a ∧ a ≤ 2147483647) (hb : -2147483648 ≤ b ∧ b ≤ 2147483647) (h : -2147483648 ≤ a * b ∧ a * b ≤ 2147483647) : cfn 4 a b = a * b := by
  show (Int32.ofInt a * Int32.ofInt b).toInt = _
  rw [Int32.toInt_mul, i32v ha, i32v hb, sbm32 h.1 h.2]
theorem i32b (x : Int32) : -2147483648 ≤ x.toInt ∧ x.toInt ≤ 2147483647 := ⟨Int32.le_toInt x, by have := Int32.toInt_lt x; omega⟩
theorem cfn16b (a b : Int) : -2147483648 ≤ cfn 16 a b ∧ cfn 16 a b ≤ 2147483647 := i32b _
theorem cfn17b (a b : Int) : -2147483648 ≤ cfn 17 a b ∧ cfn 17 a b ≤ 2147483647 := i32b _
theorem cfn4b (a b : Int) : -2147483648 ≤ cfn 4 a b ∧ cfn 4 a b ≤ 2147483647 := i32b _
abbrev oPa (f i : Nat) : Prop := f = 9 ∧ (i = 3 ∨ i = 4 ∨ i = 5 ∨ i = 6)
/-- behind a token's reading -/
abbrev oAdv (M : SMem) (L s : Nat) (MM : SMem) : Prop := sI tg MM ∧ oFm oPa M MM ∧ MM 9 0 5 = (s : Int) ∧ MM 9 0 3 = (oE (M 57 0) L s : Int) ∧ MM 9 0 4 = (oK (M 57 0) L s : Int) ∧ (oK (M 57 0) L s = 15 → MM 9 0 6 = oV (M 57 0) L s)
theorem oSg_le (c : Int) : oSg c ≤ 25 := by
  unfold oSg
  repeat' split
  all_goals decide
theorem oSg_n15 (c : Int) : oSg c ≠ 15 := by
  unfold oSg
  repeat' split
  all_goals decide
section CO2
variable {EX : SEx} {l : Launch} {dC : Nat → ClassId} {dI : Nat → Nat → Nat} {cA : Nat → ClassId} {ad : SAd} {scrS d : Nat}
theorem b_isDigit (hp : cPl tm tc tf EX) {x : Int} {M : SMem} : cBG tm tf EX l dC dI cA ad scrS (d + 1) kX9_isDigit [(0, 0, x)] M (fun rr MM => MM = M ∧ ((rr = [1] ∧ (48 ≤ x ∧ x ≤ 57)) ∨ (rr = [0] ∧ ¬ (48 ≤ x ∧ x ≤ 57)))) := by
  refine cMeth (v := [x]) (Fd := 90) hp (by decide) gX9_isDigit_ok gX9_isDigit_m0 (by simp [cAs, cE2, sev, svl, cen]) ?_
  refine cEnds_at gX9_isDigit_m0 rfl ?_
  refine d_br (fun h => ?_) (fun h => ?_)
  · simp only [cCmp, cE2, sev, svl, cen, List.cons_append, List.nil_append] at h
    first
    | omega
    | skip
      exact d_ret [0] rfl (by decide) ⟨rfl, Or.inr ⟨rfl, by omega⟩⟩
  · simp only [cCmp, cE2, sev, svl, cen, List.cons_append, List.nil_append] at h
    first
    | omega
    | skip
      refine d_br (fun h => ?_) (fun h => ?_)
      · simp only [cCmp, cE2, sev, svl, cen, List.cons_append, List.nil_append] at h
        first
        | omega
        | skip
          exact d_ret [0] rfl (by decide) ⟨rfl, Or.inr ⟨rfl, by omega⟩⟩
      · simp only [cCmp, cE2, sev, svl, cen, List.cons_append, List.nil_append] at h
        first
        | omega
        | skip
          exact d_ret [1] rfl (by decide) ⟨rfl, Or.inl ⟨rfl, by omega⟩⟩
theorem b_cell (hp : cPl tm tc tf EX) (hch : cCh EX l dC dI cA scrS) {s e c : Nat} {M : SMem} (h5 : M 9 0 5 = (s : Int)) (h3 : M 9 0 3 = (e : Int)) (h1 : s ≤ e) (h2 : e ≤ 1000) (hc : c < 15) : cBG tm tf EX l dC dI cA ad scrS (d + 4) kX4_isWordOfCell [(2, 9, 0), (0, 0, (c : Int))] M (fun rr MM => MM = M ∧ ((rr = [1] ∧ (∀ i, i < 8 → (if i < e - s then M 57 0 (s + i) else 32) = zwc (8 * c + i))) ∨ (rr = [0] ∧ ¬ (∀ i, i < 8 → (if i < e - s then M 57 0 (s + i) else 32) = zwc (8 * c + i))))) := by
  refine cMeth (v := [(c : Int)]) (Fd := 90) (hcc := fun _ => ⟨by omega, hch⟩) hp (by decide) gX4_isWordOfCell_ok gX4_isWordOfCell_m0 (by simp [cAs, cE2, sev, svl, cen]) ?_
  have loop : ∀ (m k : Nat), k + m = 8 → (∀ i, i < k → (if i < e - s then M 57 0 (s + i) else 32) = zwc (8 * c + i)) → cEnds (cBG tm tf EX l dC dI cA ad scrS (d + 3)) (fun rr MM => MM = M ∧ ((rr = [1] ∧ (∀ i, i < 8 → (if i < e - s then M 57 0 (s + i) else 32) = zwc (8 * c + i))) ∨ (rr = [0] ∧ ¬ (∀ i, i < 8 → (if i < e - s then M 57 0 (s + i) else 32) = zwc (8 * c + i))))) 90 gX4_isWordOfCell 2 [(c : Int), (k : Int)] M := by
    intro m
    induction m with
    | zero =>
      intro k hk hI
      have ek : k = 8 := by omega
      subst ek
      refine cEnds_at gX4_isWordOfCell_m2 rfl ?_
      refine d_br (fun h => ?_) (fun h => ?_)
      · exact d_ret [1] rfl (by decide) ⟨rfl, Or.inl ⟨rfl, hI⟩⟩
      · simp only [cCmp, cE2, sev, svl, cen, List.cons_append, List.nil_append] at h
        omega
    | succ m ih =>
      intro k hk hI
      refine cEnds_at gX4_isWordOfCell_m2 rfl ?_
      refine d_br (fun h => ?_) (fun h => ?_)
      · simp only [cCmp, cE2, sev, svl, cen, List.cons_append, List.nil_append] at h
        first
        | omega
        | skip
          exact d_ret [1] rfl (by decide) (by omega)
      · simp only [cCmp, cE2, sev, svl, cen, List.cons_append, List.nil_append] at h
        first
        | omega
        | skip
          refine d_fld 0 (by simp only [cE2, sev, svl, cen, List.cons_append, List.nil_append]; omega) ?_
          rw [h5]
          refine d_rng (by simp only [clo, chi, cE2, sev, svl, cen, List.cons_append, List.nil_append]; omega) ?_
          refine d_fld 0 (by simp only [cE2, sev, svl, cen, List.cons_append, List.nil_append]; omega) ?_
          rw [h3]
          refine d_br (fun h => ?_) (fun h => ?_)
          · simp only [cCmp, cE2, sev, svl, cen, List.cons_append, List.nil_append] at h
            first
            | omega
            | skip
              refine d_rng (by simp only [clo, chi, cE2, sev, svl, cen, List.cons_append, List.nil_append]; omega) ?_
              refine d_rng (by simp only [clo, chi, cE2, sev, svl, cen, List.cons_append, List.nil_append]; omega) ?_
              refine d_chr (8 * c + k) (by simp only [cE2, sev, svl, cen, List.cons_append, List.nil_append]; omega) (by omega) ?_
              refine d_br (fun h => ?_) (fun h => ?_)
              · simp only [cCmp, cE2, sev, svl, cen, List.cons_append, List.nil_append] at h
                first
                | omega
                | skip
                  refine d_rng (by simp only [clo, chi, cE2, sev, svl, cen, List.cons_append, List.nil_append]; omega) ?_
                  refine d_cut [(c : Int), ((k + 1 : Nat) : Int)] (by simp [cE2, sev, svl, cen] <;> omega) ?_
                  exact ih (k + 1) (by omega) (oAll1 hI (by rw [if_neg (by omega)]; omega))
              · simp only [cCmp, cE2, sev, svl, cen, List.cons_append, List.nil_append] at h
                first
                | omega
                | skip
                  exact d_ret [0] rfl (by decide) ⟨rfl, Or.inr ⟨rfl, fun q => by have q := q k (by omega); rw [if_neg (by omega)] at q; omega⟩⟩
          · simp only [cCmp, cE2, sev, svl, cen, List.cons_append, List.nil_append] at h
            first
            | omega
            | skip
              refine d_fld 0 (by simp only [cE2, sev, svl, cen, List.cons_append, List.nil_append]; omega) ?_
              rw [h5]
              refine d_rng (by simp only [clo, chi, cE2, sev, svl, cen, List.cons_append, List.nil_append]; omega) ?_
              refine d_row 0 (k + s) (by simp only [cE2, sev, svl, cen, List.cons_append, List.nil_append]; omega) (by simp only [cE2, sev, svl, cen, List.cons_append, List.nil_append]; omega) (by omega) ?_
              rw [congrArg (M 57 0) (Nat.add_comm k s)]
              refine d_rng (by simp only [clo, chi, cE2, sev, svl, cen, List.cons_append, List.nil_append]; omega) ?_
              refine d_rng (by simp only [clo, chi, cE2, sev, svl, cen, List.cons_append, List.nil_append]; omega) ?_
              refine d_chr (8 * c + k) (by simp only [cE2, sev, svl, cen, List.cons_append, List.nil_append]; omega) (by omega) ?_
              refine d_br (fun h => ?_) (fun h => ?_)
              · simp only [cCmp, cE2, sev, svl, cen, List.cons_append, List.nil_append] at h
                first
                | omega
                | skip
                  refine d_rng (by simp only [clo, chi, cE2, sev, svl, cen, List.cons_append, List.nil_append]; omega) ?_
                  refine d_cut [(c : Int), ((k + 1 : Nat) : Int)] (by simp [cE2, sev, svl, cen] <;> omega) ?_
                  exact ih (k + 1) (by omega) (oAll1 hI (by rw [if_pos (by omega)]; omega))
              · simp only [cCmp, cE2, sev, svl, cen, List.cons_append, List.nil_append] at h
                first
                | omega
                | skip
                  exact d_ret [0] rfl (by decide) ⟨rfl, Or.inr ⟨rfl, fun q => by have q := q k (by omega); rw [if_pos (by omega)] at q; omega⟩⟩
  refine cEnds_at gX4_isWordOfCell_m0 rfl ?_
  refine d_cut [(c : Int), ((0 : Nat) : Int)] (by simp [cE2, sev, svl, cen] <;> omega) ?_
  exact loop 8 0 (by omega) (fun i hi => absurd hi (Nat.not_lt_zero i))
theorem b_takeWord (hp : cPl tm tc tf EX) (hch : cCh EX l dC dI cA scrS) {s L : Nat} {M : SMem} (hI : sI tg M) (h5 : M 9 0 5 = (s : Int)) (h3 : M 9 0 3 = (s : Int)) (hL : M 3 0 1 = (L : Int)) (hs : s < L) (h9 : L ≤ 1000) (hl : oIl (M 57 0 s) = true) : cBG tm tf EX l dC dI cA ad scrS (d + 5) kX4_takeWord [(2, 9, 0)] M (fun rr MM => rr = [] ∧ oAdv M L s MM) := by
  refine cMeth (v := []) (Fd := 90) hp (by decide) gX4_takeWord_ok gX4_takeWord_m0 (by simp [cAs, cE2, sev, svl, cen]) ?_
  obtain ⟨e, he⟩ : ∃ e, e = oE (M 57 0) L s := ⟨_, rfl⟩
  have hR : oR oIl (M 57 0) L (L - s) s = e := by
    rw [he]
    unfold oE
    rw [if_neg (by omega), if_pos hl]
  obtain ⟨w1, w2, w3⟩ := oR_end (P := oIl) (T := M 57 0) (L := L) (p := s) (by omega)
  have w4 : ∀ i, s ≤ i → i < e → 97 ≤ M 57 0 i ∧ M 57 0 i ≤ 122 := fun i i1 i2 => oIl_iff.mp (oR_in (L - s) s i i1 (by rw [hR]; exact i2)).2
  rw [hR] at w1 w2 w3
  have w3 : e < L → ¬ (97 ≤ M 57 0 e ∧ M 57 0 e ≤ 122) := fun q z => w3 ⟨q, oIl_iff.mpr z⟩
  have hK : oK (M 57 0) L s = if e - s ≤ 8 then oFi (oWe (M 57 0) s (e - s)) 0 oWt else 25 := by
    unfold oK
    rw [if_neg (by omega), if_pos hl, ← he]
  have hfi := oFi_lt (x := oWe (M 57 0) s (e - s)) (r := oWt) (k := 0) (by decide)
  have hK15 : oK (M 57 0) L s ≠ 15 := by
    rw [hK]
    split <;> omega
  have fin : ∀ (MW : SMem), sI tg MW → oFm oPa M MW → MW 9 0 5 = (s : Int) → MW 9 0 3 = (e : Int) → MW 9 0 4 = (oK (M 57 0) L s : Int) → oAdv M L s MW := fun MW g1 g2 g3 g4 g5 => ⟨g1, g2, g3, by rw [g4, he], g5, fun q => absurd q hK15⟩
  have loop3 : ∀ (m c : Nat) (MW : SMem), c + m = 15 → sI tg MW → oFm oPa M MW → MW 9 0 5 = (s : Int) → MW 9 0 3 = (e : Int) → MW 9 0 4 = 25 → (e - s ≤ 8 → ∀ c', c' < c → oFi (oWe (M 57 0) s (e - s)) 0 oWt ≠ c') → cEnds (cBG tm tf EX l dC dI cA ad scrS (d + 4)) (fun rr MM => rr = [] ∧ oAdv M L s MM) 90 gX4_takeWord 53 [(c : Int)] MW := by
    intro m
    induction m with
    | zero =>
      intro c MW hc g1 g2 g3 g4 g5 g6
      have ec : c = 15 := by omega
      subst ec
      refine cEnds_at gX4_takeWord_m53 rfl ?_
      refine d_br (fun h => ?_) (fun h => ?_)
      · refine d_ret [] rfl (by decide) ⟨rfl, fin MW g1 g2 g3 g4 ?_⟩
        rw [g5, hK]
        split
        · rcases hfi with q | q
          · exact absurd rfl (g6 (by assumption) _ q)
          · rw [q]; rfl
        · rfl
      · simp only [cCmp, cE2, sev, svl, cen, List.cons_append, List.nil_append] at h
        omega
    | succ m ih =>
      intro c MW hc g1 g2 g3 g4 g5 g6
      have e57 : MW 57 0 = M 57 0 := oFm_row g2 (fun i q => by unfold oPa at q; omega)
      refine cEnds_at gX4_takeWord_m53 rfl ?_
      refine d_br (fun h => ?_) (fun h => ?_)
      · simp only [cCmp, cE2, sev, svl, cen, List.cons_append, List.nil_append] at h
        first
        | omega
        | skip
          exact d_ret [] rfl (by decide) (by omega)
      · simp only [cCmp, cE2, sev, svl, cen, List.cons_append, List.nil_append] at h
        first
        | omega
        | skip
          refine d_fld 0 (by simp only [cE2, sev, svl, cen, List.cons_append, List.nil_append]; omega) ?_
          rw [g4]
          refine d_fld 0 (by simp only [cE2, sev, svl, cen, List.cons_append, List.nil_append]; omega) ?_
          rw [g3]
          refine d_rng (by simp only [clo, chi, cE2, sev, svl, cen, List.cons_append, List.nil_append]; omega) ?_
          refine d_br (fun h => ?_) (fun h => ?_)
          · simp only [cCmp, cE2, sev, svl, cen, List.cons_append, List.nil_append] at h
            first
            | omega
            | skip
              exact d_ret [] rfl (by decide) ⟨rfl, fin MW g1 g2 g3 g4 (by rw [g5, hK, if_neg (by omega)]; rfl)⟩
          · simp only [cCmp, cE2, sev, svl, cen, List.cons_append, List.nil_append] at h
            first
            | omega
            | skip
              refine d_call (b_cell hp hch (s := s) (e := e) (c := c) g3 g4 (by omega) (by omega) (by omega)) (by simp [cAs, cE2, sev, svl, cen] <;> omega) ?_
              intro rr M' hq
              obtain ⟨hM', hq⟩ := hq
              rw [hM']
              rcases hq with ⟨rfl, q3⟩ | ⟨rfl, q3⟩
              · refine ⟨rfl, ?_⟩
                refine d_br (fun h => ?_) (fun h => ?_)
                · simp only [cCmp, cE2, sev, svl, cen, List.cons_append, List.nil_append] at h
                  omega
                · clear h
                  refine d_put 0 (c : Int) (by simp only [cE2, sev, svl, cen, List.cons_append, List.nil_append]; omega) (by simp only [cE2, sev, svl, cen, List.cons_append, List.nil_append]; omega) ?_
                  exact d_ret [] rfl (by decide) ⟨rfl, fin _ (wI g1 (lo := 0) (hi := 25) rfl ⟨by omega, by omega⟩) (oFm_p ⟨rfl, Or.inr (Or.inl rfl)⟩ g2) (by rw [supd_i (by decide)]; exact g3) (by rw [supd_i (by decide)]; exact g4) (by rw [supd_at, hK, if_pos (by omega)]; rw [e57] at q3; exact congrArg Nat.cast (((oCell (by omega) (by omega) (fun i hi => w4 (s + i) (by omega) (by omega))).mp q3)).symm)⟩
              · refine ⟨rfl, ?_⟩
                refine d_br (fun h => ?_) (fun h => ?_)
                · clear h
                  refine d_rng (by simp only [clo, chi, cE2, sev, svl, cen, List.cons_append, List.nil_append]; omega) ?_
                  refine d_cut [((c + 1 : Nat) : Int)] (by simp [cE2, sev, svl, cen] <;> omega) ?_
                  refine ih (c + 1) MW (by omega) g1 g2 g3 g4 g5 (fun q => oAll1 (g6 q) (fun z => q3 ?_))
                  rw [e57]
                  exact (oCell (by omega) q (fun i hi => w4 (s + i) (by omega) (by omega))).mpr z
                · simp only [cCmp, cE2, sev, svl, cen, List.cons_append, List.nil_append] at h
                  omega
  have loop2 : ∀ (MW : SMem), sI tg MW → oFm oPa M MW → MW 9 0 5 = (s : Int) → MW 9 0 3 = (e : Int) → cEnds (cBG tm tf EX l dC dI cA ad scrS (d + 4)) (fun rr MM => rr = [] ∧ oAdv M L s MM) 90 gX4_takeWord 45 [] MW := by
    intro MW g1 g2 g3 g4
    refine cEnds_at gX4_takeWord_m45 rfl ?_
    refine d_put 0 25 (by simp only [cE2, sev, svl, cen, List.cons_append, List.nil_append]; omega) (by simp only [cE2, sev, svl, cen, List.cons_append, List.nil_append]; omega) ?_
    refine d_cut [((0 : Nat) : Int)] (by simp [cE2, sev, svl, cen] <;> omega) ?_
    exact loop3 15 0 _ (by omega) (wI g1 (lo := 0) (hi := 25) rfl ⟨by omega, by omega⟩) (oFm_p ⟨rfl, Or.inr (Or.inl rfl)⟩ g2) (by rw [supd_i (by decide)]; exact g3) (by rw [supd_i (by decide)]; exact g4) (supd_at _ _ _ _ _) (fun _ c' hc' => absurd hc' (Nat.not_lt_zero c'))
  have loop1 : ∀ (m p : Nat) (MW : SMem), p + m = e → s ≤ p → sI tg MW → oFm oPa M MW → MW 9 0 5 = (s : Int) → MW 9 0 3 = (p : Int) → cEnds (cBG tm tf EX l dC dI cA ad scrS (d + 4)) (fun rr MM => rr = [] ∧ oAdv M L s MM) 90 gX4_takeWord 0 [] MW := by
    intro m
    induction m with
    | zero =>
      intro p MW hp2 hsp g1 g2 g3 g4
      have ep : p = e := by omega
      subst ep
      have e57 : ∀ i, MW 57 0 i = M 57 0 i := fun i => g2 57 0 i (by omega)
      have eL : MW 3 0 1 = (L : Int) := (g2 3 0 1 (by omega)).trans hL
      refine cEnds_at gX4_takeWord_m0 rfl ?_
      refine d_fld 0 (by simp only [cE2, sev, svl, cen, List.cons_append, List.nil_append]; omega) ?_
      rw [g4]
      refine d_fld 0 (by simp only [cE2, sev, svl, cen, List.cons_append, List.nil_append]; omega) ?_
      rw [eL]
      refine d_br (fun h => ?_) (fun h => ?_)
      · simp only [cCmp, cE2, sev, svl, cen, List.cons_append, List.nil_append] at h
        first
        | omega
        | skip
          refine d_cut [] (by simp [cE2, sev, svl, cen] <;> omega) ?_
          exact loop2 MW g1 g2 g3 g4
      · simp only [cCmp, cE2, sev, svl, cen, List.cons_append, List.nil_append] at h
        first
        | omega
        | skip
          refine d_fld 0 (by simp only [cE2, sev, svl, cen, List.cons_append, List.nil_append]; omega) ?_
          rw [g4]
          refine d_row 0 p (by simp only [cE2, sev, svl, cen, List.cons_append, List.nil_append]; omega) (by simp only [cE2, sev, svl, cen, List.cons_append, List.nil_append]; omega) (by omega) ?_
          rw [e57 p]
          refine d_call (b_isLetter hp (x := (M 57 0 p))) (by simp [cAs, cE2, sev, svl, cen] <;> omega) ?_
          intro rr M' hq
          obtain ⟨hM', hq⟩ := hq
          rw [hM']
          rcases hq with ⟨rfl, q4⟩ | ⟨rfl, q4⟩
          · refine ⟨rfl, ?_⟩
            refine d_br (fun h => ?_) (fun h => ?_)
            · simp only [cCmp, cE2, sev, svl, cen, List.cons_append, List.nil_append] at h
              omega
            · clear h
              refine d_fld 0 (by simp only [cE2, sev, svl, cen, List.cons_append, List.nil_append]; omega) ?_
              rw [g4]
              refine d_rng (by simp only [clo, chi, cE2, sev, svl, cen, List.cons_append, List.nil_append]; omega) ?_
              refine d_put 0 ((p : Int) + 1) (by simp only [cE2, sev, svl, cen, List.cons_append, List.nil_append]; omega) (by simp only [cE2, sev, svl, cen, List.cons_append, List.nil_append]; omega) ?_
              exact absurd q4 (w3 (by omega))
          · refine ⟨rfl, ?_⟩
            refine d_br (fun h => ?_) (fun h => ?_)
            · clear h
              refine d_cut [] (by simp [cE2, sev, svl, cen] <;> omega) ?_
              exact loop2 MW g1 g2 g3 g4
            · simp only [cCmp, cE2, sev, svl, cen, List.cons_append, List.nil_append] at h
              omega
    | succ m ih =>
      intro p MW hp2 hsp g1 g2 g3 g4
      have e57 : ∀ i, MW 57 0 i = M 57 0 i := fun i => g2 57 0 i (by omega)
      have eL : MW 3 0 1 = (L : Int) := (g2 3 0 1 (by omega)).trans hL
      have wp := w4 p hsp (by omega)
      refine cEnds_at gX4_takeWord_m0 rfl ?_
      refine d_fld 0 (by simp only [cE2, sev, svl, cen, List.cons_append, List.nil_append]; omega) ?_
      rw [g4]
      refine d_fld 0 (by simp only [cE2, sev, svl, cen, List.cons_append, List.nil_append]; omega) ?_
      rw [eL]
      refine d_br (fun h => ?_) (fun h => ?_)
      · simp only [cCmp, cE2, sev, svl, cen, List.cons_append, List.nil_append] at h
        first
        | omega
        | skip
          refine d_cut [] (by simp [cE2, sev, svl, cen] <;> omega) ?_
          exact (by omega)
      · simp only [cCmp, cE2, sev, svl, cen, List.cons_append, List.nil_append] at h
        first
        | omega
        | skip
          refine d_fld 0 (by simp only [cE2, sev, svl, cen, List.cons_append, List.nil_append]; omega) ?_
          rw [g4]
          refine d_row 0 p (by simp only [cE2, sev, svl, cen, List.cons_append, List.nil_append]; omega) (by simp only [cE2, sev, svl, cen, List.cons_append, List.nil_append]; omega) (by omega) ?_
          rw [e57 p]
          refine d_call (b_isLetter hp (x := (M 57 0 p))) (by simp [cAs, cE2, sev, svl, cen] <;> omega) ?_
          intro rr M' hq
          obtain ⟨hM', hq⟩ := hq
          rw [hM']
          rcases hq with ⟨rfl, q4⟩ | ⟨rfl, q4⟩
          · refine ⟨rfl, ?_⟩
            refine d_br (fun h => ?_) (fun h => ?_)
            · simp only [cCmp, cE2, sev, svl, cen, List.cons_append, List.nil_append] at h
              omega
            · clear h
              refine d_fld 0 (by simp only [cE2, sev, svl, cen, List.cons_append, List.nil_append]; omega) ?_
              rw [g4]
              refine d_rng (by simp only [clo, chi, cE2, sev, svl, cen, List.cons_append, List.nil_append]; omega) ?_
              refine d_put 0 ((p : Int) + 1) (by simp only [cE2, sev, svl, cen, List.cons_append, List.nil_append]; omega) (by simp only [cE2, sev, svl, cen, List.cons_append, List.nil_append]; omega) ?_
              refine d_cut [] (by simp [cE2, sev, svl, cen] <;> omega) ?_
              exact ih (p + 1) _ (by omega) (by omega) (wI g1 (lo := 0) (hi := 1000) rfl ⟨by omega, by omega⟩) (oFm_p ⟨rfl, Or.inl rfl⟩ g2) (by rw [supd_i (by decide)]; exact g3) (by rw [supd_at]; omega)
          · refine ⟨rfl, ?_⟩
            refine d_br (fun h => ?_) (fun h => ?_)
            · clear h
              refine d_cut [] (by simp [cE2, sev, svl, cen] <;> omega) ?_
              exact (by omega)
            · simp only [cCmp, cE2, sev, svl, cen, List.cons_append, List.nil_append] at h
              omega
  exact loop1 (e - s) s M (by omega) (Nat.le_refl _) hI oFm_r h5 h3
theorem b_takeNumber (hp : cPl tm tc tf EX) {s L : Nat} {M : SMem} (hI : sI tg M) (h5 : M 9 0 5 = (s : Int)) (h3 : M 9 0 3 = (s : Int)) (hL : M 3 0 1 = (L : Int)) (hs : s < L) (h9 : L ≤ 1000) (hl : oIl (M 57 0 s) = false) (hd : oId (M 57 0 s) = true) : cBG tm tf EX l dC dI cA ad scrS (d + 5) kX4_takeNumber [(2, 9, 0)] M (fun rr MM => rr = [] ∧ oAdv M L s MM) := by
  refine cMeth (v := []) (Fd := 90) hp (by decide) gX4_takeNumber_ok gX4_takeNumber_m0 (by simp [cAs, cE2, sev, svl, cen]) ?_
  obtain ⟨e, he⟩ : ∃ e, e = oE (M 57 0) L s := ⟨_, rfl⟩
  have hR : oR oId (M 57 0) L (L - s) s = e := by
    rw [he]
    unfold oE
    rw [if_neg (by omega), hl, if_neg (by decide), if_pos hd]
  obtain ⟨w1, w2, w3⟩ := oR_end (P := oId) (T := M 57 0) (L := L) (p := s) (by omega)
  have w4 : ∀ i, s ≤ i → i < e → 48 ≤ M 57 0 i ∧ M 57 0 i ≤ 57 := fun i i1 i2 => oId_iff.mp (oR_in (L - s) s i i1 (by rw [hR]; exact i2)).2
  rw [hR] at w1 w2 w3
  have w3 : e < L → ¬ (48 ≤ M 57 0 e ∧ M 57 0 e ≤ 57) := fun q z => w3 ⟨q, oId_iff.mpr z⟩
  have hK : oK (M 57 0) L s = if e - s ≤ 4 then 15 else 25 := by
    unfold oK
    rw [if_neg (by omega), hl, if_neg (by decide), if_pos hd, ← he]
  have hV : oV (M 57 0) L s = oNv (M 57 0) s (e - s) := by
    unfold oV
    rw [← he]
  have fin : ∀ (MW : SMem), sI tg MW → oFm oPa M MW → MW 9 0 5 = (s : Int) → MW 9 0 3 = (e : Int) → MW 9 0 4 = (oK (M 57 0) L s : Int) → (e - s ≤ 4 → MW 9 0 6 = oNv (M 57 0) s (e - s)) → oAdv M L s MW := fun MW g1 g2 g3 g4 g5 g6 => ⟨g1, g2, g3, by rw [g4, he], g5, fun q => by
    rw [hV]
    refine g6 ?_
    rw [hK] at q
    split at q
    · assumption
    · omega⟩
  have loop2 : ∀ (MW : SMem), sI tg MW → oFm oPa M MW → MW 9 0 5 = (s : Int) → MW 9 0 3 = (e : Int) → (e - s ≤ 4 → MW 9 0 6 = oNv (M 57 0) s (e - s)) → cEnds (cBG tm tf EX l dC dI cA ad scrS (d + 4)) (fun rr MM => rr = [] ∧ oAdv M L s MM) 90 gX4_takeNumber 77 [] MW := by
    intro MW g1 g2 g3 g4 g6
    have e17 : cfn 17 (e : Int) (s : Int) = (e : Int) - (s : Int) := cfn17v (by omega) (by omega) (by omega)
    refine cEnds_at gX4_takeNumber_m77 rfl ?_
    refine d_fld 0 (by simp only [cE2, sev, svl, cen, List.cons_append, List.nil_append]; omega) ?_
    rw [g4]
    refine d_fld 0 (by simp only [cE2, sev, svl, cen, List.cons_append, List.nil_append]; omega) ?_
    rw [g3]
    refine d_opw (e : Int) (s : Int) (by simp [cE2, sev, svl, cen] <;> omega) (by simp [cE2, sev, svl, cen] <;> omega) ?_
    rw [e17]
    refine d_br (fun h => ?_) (fun h => ?_)
    · simp only [cCmp, cE2, sev, svl, cen, List.cons_append, List.nil_append] at h
      first
      | omega
      | skip
        refine d_put 0 15 (by simp only [cE2, sev, svl, cen, List.cons_append, List.nil_append]; omega) (by simp only [cE2, sev, svl, cen, List.cons_append, List.nil_append]; omega) ?_
        exact d_ret [] rfl (by decide) ⟨rfl, fin _ (wI g1 (lo := 0) (hi := 25) rfl ⟨by omega, by omega⟩) (oFm_p ⟨rfl, Or.inr (Or.inl rfl)⟩ g2) (by rw [supd_i (by decide)]; exact g3) (by rw [supd_i (by decide)]; exact g4) (by rw [supd_at, hK, if_pos (by omega)]; rfl) (fun q => by rw [supd_i (by decide)]; exact g6 q)⟩
    · simp only [cCmp, cE2, sev, svl, cen, List.cons_append, List.nil_append] at h
      first
      | omega
      | skip
        refine d_put 0 25 (by simp only [cE2, sev, svl, cen, List.cons_append, List.nil_append]; omega) (by simp only [cE2, sev, svl, cen, List.cons_append, List.nil_append]; omega) ?_
        exact d_ret [] rfl (by decide) ⟨rfl, fin _ (wI g1 (lo := 0) (hi := 25) rfl ⟨by omega, by omega⟩) (oFm_p ⟨rfl, Or.inr (Or.inl rfl)⟩ g2) (by rw [supd_i (by decide)]; exact g3) (by rw [supd_i (by decide)]; exact g4) (by rw [supd_at, hK, if_neg (by omega)]; rfl) (fun q => by rw [supd_i (by decide)]; exact g6 q)⟩
  have loop1 : ∀ (m p : Nat) (MW : SMem), p + m = e → s ≤ p → sI tg MW → oFm oPa M MW → MW 9 0 5 = (s : Int) → MW 9 0 3 = (p : Int) → (p - s ≤ 4 → MW 9 0 6 = oNv (M 57 0) s (p - s)) → cEnds (cBG tm tf EX l dC dI cA ad scrS (d + 4)) (fun rr MM => rr = [] ∧ oAdv M L s MM) 90 gX4_takeNumber 5 [] MW := by
    intro m
    induction m with
    | zero =>
      intro p MW hp2 hsp g1 g2 g3 g4 g6
      have ep : p = e := by omega
      subst ep
      have e57 : ∀ i, MW 57 0 i = M 57 0 i := fun i => g2 57 0 i (by omega)
      have eL : MW 3 0 1 = (L : Int) := (g2 3 0 1 (by omega)).trans hL
      refine cEnds_at gX4_takeNumber_m5 rfl ?_
      refine d_fld 0 (by simp only [cE2, sev, svl, cen, List.cons_append, List.nil_append]; omega) ?_
      rw [g4]
      refine d_fld 0 (by simp only [cE2, sev, svl, cen, List.cons_append, List.nil_append]; omega) ?_
      rw [eL]
      refine d_br (fun h => ?_) (fun h => ?_)
      · simp only [cCmp, cE2, sev, svl, cen, List.cons_append, List.nil_append] at h
        first
        | omega
        | skip
          refine d_cut [] (by simp [cE2, sev, svl, cen] <;> omega) ?_
          exact loop2 MW g1 g2 g3 g4 g6
      · simp only [cCmp, cE2, sev, svl, cen, List.cons_append, List.nil_append] at h
        first
        | omega
        | skip
          refine d_fld 0 (by simp only [cE2, sev, svl, cen, List.cons_append, List.nil_append]; omega) ?_
          rw [g4]
          refine d_row 0 p (by simp only [cE2, sev, svl, cen, List.cons_append, List.nil_append]; omega) (by simp only [cE2, sev, svl, cen, List.cons_append, List.nil_append]; omega) (by omega) ?_
          rw [e57 p]
          refine d_call (b_isDigit hp (x := (M 57 0 p))) (by simp [cAs, cE2, sev, svl, cen] <;> omega) ?_
          intro rr M' hq
          obtain ⟨hM', hq⟩ := hq
          rw [hM']
          rcases hq with ⟨rfl, q4⟩ | ⟨rfl, q4⟩
          · refine ⟨rfl, ?_⟩
            refine d_br (fun h => ?_) (fun h => ?_)
            · simp only [cCmp, cE2, sev, svl, cen, List.cons_append, List.nil_append] at h
              omega
            · clear h
              refine d_fld 0 (by simp only [cE2, sev, svl, cen, List.cons_append, List.nil_append]; omega) ?_
              refine d_opw (MW 9 0 6) 10 (by simp [cE2, sev, svl, cen] <;> omega) (by simp [cE2, sev, svl, cen] <;> omega) ?_
              refine d_fld 0 (by simp only [cE2, sev, svl, cen, List.cons_append, List.nil_append]; omega) ?_
              rw [g4]
              refine d_row 0 p (by simp only [cE2, sev, svl, cen, List.cons_append, List.nil_append]; omega) (by simp only [cE2, sev, svl, cen, List.cons_append, List.nil_append]; omega) (by omega) ?_
              rw [e57 p]
              refine d_opw (M 57 0 p) 48 (by simp [cE2, sev, svl, cen] <;> omega) (by simp [cE2, sev, svl, cen] <;> omega) ?_
              refine d_opw (cfn 4 (MW 9 0 6) 10) (cfn 17 (M 57 0 p) 48) (by simp [cE2, sev, svl, cen] <;> omega) (by simp [cE2, sev, svl, cen] <;> omega) ?_
              refine d_put 0 (cfn 16 (cfn 4 (MW 9 0 6) 10) (cfn 17 (M 57 0 p) 48)) (by simp only [cE2, sev, svl, cen, List.cons_append, List.nil_append]; omega) (by simp only [cE2, sev, svl, cen, List.cons_append, List.nil_append]; omega) ?_
              refine d_fld 0 (by simp only [cE2, sev, svl, cen, List.cons_append, List.nil_append]; omega) ?_
              rw [supd_i (by decide)]
              rw [g4]
              refine d_opw (p : Int) 1 (by simp [cE2, sev, svl, cen] <;> omega) (by simp [cE2, sev, svl, cen] <;> omega) ?_
              refine d_put 0 (cfn 16 (p : Int) 1) (by simp only [cE2, sev, svl, cen, List.cons_append, List.nil_append]; omega) (by simp only [cE2, sev, svl, cen, List.cons_append, List.nil_append]; omega) ?_
              exact absurd q4 (w3 (by omega))
          · refine ⟨rfl, ?_⟩
            refine d_br (fun h => ?_) (fun h => ?_)
            · clear h
              refine d_cut [] (by simp [cE2, sev, svl, cen] <;> omega) ?_
              exact loop2 MW g1 g2 g3 g4 g6
            · simp only [cCmp, cE2, sev, svl, cen, List.cons_append, List.nil_append] at h
              omega
    | succ m ih =>
      intro p MW hp2 hsp g1 g2 g3 g4 g6
      have e57 : ∀ i, MW 57 0 i = M 57 0 i := fun i => g2 57 0 i (by omega)
      have eL : MW 3 0 1 = (L : Int) := (g2 3 0 1 (by omega)).trans hL
      have wp := w4 p hsp (by omega)
      have t17 : cfn 17 (M 57 0 p) 48 = M 57 0 p - 48 := cfn17v (by omega) (by omega) (by omega)
      have t16 : cfn 16 (p : Int) 1 = ((p + 1 : Nat) : Int) := by
        rw [cfn16v (by omega) (by omega) (by omega)]
        rfl
      have t6 : p + 1 - s ≤ 4 → cfn 16 (cfn 4 (MW 9 0 6) 10) (M 57 0 p - 48) = oNv (M 57 0) s (p + 1 - s) := fun q => by
        have b := oNv_bd (T := M 57 0) (s := s) (n := p - s) (fun i hi => w4 (s + i) (by omega) (by omega))
        have b2 : (10 : Int) ^ (p - s) ≤ 10 ^ 3 := by
          have : p - s = 0 ∨ p - s = 1 ∨ p - s = 2 ∨ p - s = 3 := by omega
          rcases this with z | z | z | z <;> rw [z] <;> decide
        have b3 : (10 : Int) ^ 3 = 1000 := by decide
        rw [g6 (by omega), show p + 1 - s = (p - s) + 1 by omega]
        show _ = 10 * oNv (M 57 0) s (p - s) + (M 57 0 (s + (p - s)) - 48)
        rw [cfn4v (by omega) (by omega) (by omega), cfn16v (by omega) (by omega) (by omega), show s + (p - s) = p by omega]
        omega
      refine cEnds_at gX4_takeNumber_m5 rfl ?_
      refine d_fld 0 (by simp only [cE2, sev, svl, cen, List.cons_append, List.nil_append]; omega) ?_
      rw [g4]
      refine d_fld 0 (by simp only [cE2, sev, svl, cen, List.cons_append, List.nil_append]; omega) ?_
      rw [eL]
      refine d_br (fun h => ?_) (fun h => ?_)
      · simp only [cCmp, cE2, sev, svl, cen, List.cons_append, List.nil_append] at h
        first
        | omega
        | skip
          refine d_cut [] (by simp [cE2, sev, svl, cen] <;> omega) ?_
          exact (by omega)
      · simp only [cCmp, cE2, sev, svl, cen, List.cons_append, List.nil_append] at h
        first
        | omega
        | skip
          refine d_fld 0 (by simp only [cE2, sev, svl, cen, List.cons_append, List.nil_append]; omega) ?_
          rw [g4]
          refine d_row 0 p (by simp only [cE2, sev, svl, cen, List.cons_append, List.nil_append]; omega) (by simp only [cE2, sev, svl, cen, List.cons_append, List.nil_append]; omega) (by omega) ?_
          rw [e57 p]
          refine d_call (b_isDigit hp (x := (M 57 0 p))) (by simp [cAs, cE2, sev, svl, cen] <;> omega) ?_
          intro rr M' hq
          obtain ⟨hM', hq⟩ := hq
          rw [hM']
          rcases hq with ⟨rfl, q4⟩ | ⟨rfl, q4⟩
          · refine ⟨rfl, ?_⟩
            refine d_br (fun h => ?_) (fun h => ?_)
            · simp only [cCmp, cE2, sev, svl, cen, List.cons_append, List.nil_append] at h
              omega
            · clear h
              refine d_fld 0 (by simp only [cE2, sev, svl, cen, List.cons_append, List.nil_append]; omega) ?_
              refine d_opw (MW 9 0 6) 10 (by simp [cE2, sev, svl, cen] <;> omega) (by simp [cE2, sev, svl, cen] <;> omega) ?_
              refine d_fld 0 (by simp only [cE2, sev, svl, cen, List.cons_append, List.nil_append]; omega) ?_
              rw [g4]
              refine d_row 0 p (by simp only [cE2, sev, svl, cen, List.cons_append, List.nil_append]; omega) (by simp only [cE2, sev, svl, cen, List.cons_append, List.nil_append]; omega) (by omega) ?_
              rw [e57 p]
              refine d_opw (M 57 0 p) 48 (by simp [cE2, sev, svl, cen] <;> omega) (by simp [cE2, sev, svl, cen] <;> omega) ?_
              rw [t17]
              refine d_opw (cfn 4 (MW 9 0 6) 10) (M 57 0 p - 48) (by simp [cE2, sev, svl, cen] <;> omega) (by simp [cE2, sev, svl, cen] <;> omega) ?_
              refine d_put 0 (cfn 16 (cfn 4 (MW 9 0 6) 10) (M 57 0 p - 48)) (by simp only [cE2, sev, svl, cen, List.cons_append, List.nil_append]; omega) (by simp only [cE2, sev, svl, cen, List.cons_append, List.nil_append]; omega) ?_
              refine d_fld 0 (by simp only [cE2, sev, svl, cen, List.cons_append, List.nil_append]; omega) ?_
              rw [supd_i (by decide)]
              rw [g4]
              refine d_opw (p : Int) 1 (by simp [cE2, sev, svl, cen] <;> omega) (by simp [cE2, sev, svl, cen] <;> omega) ?_
              rw [t16]
              refine d_put 0 ((p + 1 : Nat) : Int) (by simp only [cE2, sev, svl, cen, List.cons_append, List.nil_append]; omega) (by simp only [cE2, sev, svl, cen, List.cons_append, List.nil_append]; omega) ?_
              refine d_cut [] (by simp [cE2, sev, svl, cen] <;> omega) ?_
              exact ih (p + 1) _ (by omega) (by omega) (wI (wI g1 (lo := -2147483648) (hi := 2147483647) rfl (cfn16b _ _)) (lo := 0) (hi := 1000) rfl ⟨by omega, by omega⟩) (oFm_p ⟨rfl, Or.inl rfl⟩ (oFm_p ⟨rfl, Or.inr (Or.inr (Or.inr rfl))⟩ g2)) (by rw [supd_i (by decide), supd_i (by decide)]; exact g3) (by rw [supd_at]) (fun q => by rw [supd_i (by decide), supd_at]; exact t6 q)
          · refine ⟨rfl, ?_⟩
            refine d_br (fun h => ?_) (fun h => ?_)
            · clear h
              refine d_cut [] (by simp [cE2, sev, svl, cen] <;> omega) ?_
              exact (by omega)
            · simp only [cCmp, cE2, sev, svl, cen, List.cons_append, List.nil_append] at h
              omega
  refine cEnds_at gX4_takeNumber_m0 rfl ?_
  refine d_put 0 0 (by simp only [cE2, sev, svl, cen, List.cons_append, List.nil_append]; omega) (by simp only [cE2, sev, svl, cen, List.cons_append, List.nil_append]; omega) ?_
  refine d_cut [] (by simp [cE2, sev, svl, cen] <;> omega) ?_
  exact loop1 (e - s) s _ (by omega) (Nat.le_refl _) (wI hI (lo := -2147483648) (hi := 2147483647) rfl ⟨by omega, by omega⟩) (oFm_p ⟨rfl, Or.inr (Or.inr (Or.inr rfl))⟩ oFm_r) (by rw [supd_i (by decide)]; exact h5) (by rw [supd_i (by decide)]; exact h3) (fun _ => by rw [supd_at, Nat.sub_self]; rfl)
theorem b_kindOfSign (hp : cPl tm tc tf EX) {x : Int} {M : SMem} : cBG tm tf EX l dC dI cA ad scrS (d + 1) kX4_kindOfSign [(0, 0, x)] M (fun rr MM => MM = M ∧ rr = [(oSg x : Int)]) := by
  have g : ∀ (y : Int) (k : Nat), x = y → oSg y = k → (oSg x : Int) = (k : Int) := fun y k h1 h2 => by rw [h1, h2]
  have gn : x ≠ 40 → x ≠ 41 → x ≠ 60 → x ≠ 61 → x ≠ 43 → x ≠ 45 → x ≠ 42 → x ≠ 59 → (oSg x : Int) = ((25 : Nat) : Int) := fun h1 h2 h3 h4 h5 h6 h7 h8 => by
    unfold oSg
    rw [if_neg h1, if_neg h2, if_neg h3, if_neg h4, if_neg h5, if_neg h6, if_neg h7, if_neg h8]
  refine cMeth (v := [x]) (Fd := 90) hp (by decide) gX4_kindOfSign_ok gX4_kindOfSign_m0 (by simp [cAs, cE2, sev, svl, cen]) ?_
  refine cEnds_at gX4_kindOfSign_m0 rfl ?_
  refine d_br (fun h => ?_) (fun h => ?_)
  · simp only [cCmp, cE2, sev, svl, cen, List.cons_append, List.nil_append] at h
    first
    | omega
    | skip
      exact d_ret [25] rfl (by decide) ⟨rfl, congrArg (fun z => [z]) (gn (by omega) (by omega) (by omega) (by omega) (by omega) (by omega) (by omega) (by omega)).symm⟩
  · simp only [cCmp, cE2, sev, svl, cen, List.cons_append, List.nil_append] at h
    first
    | omega
    | skip
      refine d_br (fun h => ?_) (fun h => ?_)
      · simp only [cCmp, cE2, sev, svl, cen, List.cons_append, List.nil_append] at h
        first
        | omega
        | skip
          exact d_ret [25] rfl (by decide) ⟨rfl, congrArg (fun z => [z]) (gn (by omega) (by omega) (by omega) (by omega) (by omega) (by omega) (by omega) (by omega)).symm⟩
      · simp only [cCmp, cE2, sev, svl, cen, List.cons_append, List.nil_append] at h
        first
        | omega
        | skip
          refine d_br (fun h => ?_) (fun h => ?_)
          · simp only [cCmp, cE2, sev, svl, cen, List.cons_append, List.nil_append] at h
            first
            | omega
            | skip
              exact d_ret [16] rfl (by decide) ⟨rfl, congrArg (fun z => [z]) (g 40 16 (by omega) rfl).symm⟩
          · simp only [cCmp, cE2, sev, svl, cen, List.cons_append, List.nil_append] at h
            first
            | omega
            | skip
              refine d_br (fun h => ?_) (fun h => ?_)
              · simp only [cCmp, cE2, sev, svl, cen, List.cons_append, List.nil_append] at h
                first
                | omega
                | skip
                  exact d_ret [17] rfl (by decide) ⟨rfl, congrArg (fun z => [z]) (g 41 17 (by omega) rfl).symm⟩
              · simp only [cCmp, cE2, sev, svl, cen, List.cons_append, List.nil_append] at h
                first
                | omega
                | skip
                  refine d_br (fun h => ?_) (fun h => ?_)
                  · simp only [cCmp, cE2, sev, svl, cen, List.cons_append, List.nil_append] at h
                    first
                    | omega
                    | skip
                      exact d_ret [22] rfl (by decide) ⟨rfl, congrArg (fun z => [z]) (g 42 22 (by omega) rfl).symm⟩
                  · simp only [cCmp, cE2, sev, svl, cen, List.cons_append, List.nil_append] at h
                    first
                    | omega
                    | skip
                      refine d_br (fun h => ?_) (fun h => ?_)
                      · simp only [cCmp, cE2, sev, svl, cen, List.cons_append, List.nil_append] at h
                        first
                        | omega
                        | skip
                          exact d_ret [20] rfl (by decide) ⟨rfl, congrArg (fun z => [z]) (g 43 20 (by omega) rfl).symm⟩
                      · simp only [cCmp, cE2, sev, svl, cen, List.cons_append, List.nil_append] at h
                        first
                        | omega
                        | skip
                          refine d_br (fun h => ?_) (fun h => ?_)
                          · simp only [cCmp, cE2, sev, svl, cen, List.cons_append, List.nil_append] at h
                            first
                            | omega
                            | skip
                              exact d_ret [25] rfl (by decide) ⟨rfl, congrArg (fun z => [z]) (gn (by omega) (by omega) (by omega) (by omega) (by omega) (by omega) (by omega) (by omega)).symm⟩
                          · simp only [cCmp, cE2, sev, svl, cen, List.cons_append, List.nil_append] at h
                            first
                            | omega
                            | skip
                              refine d_br (fun h => ?_) (fun h => ?_)
                              · simp only [cCmp, cE2, sev, svl, cen, List.cons_append, List.nil_append] at h
                                first
                                | omega
                                | skip
                                  exact d_ret [21] rfl (by decide) ⟨rfl, congrArg (fun z => [z]) (g 45 21 (by omega) rfl).symm⟩
                              · simp only [cCmp, cE2, sev, svl, cen, List.cons_append, List.nil_append] at h
                                first
                                | omega
                                | skip
                                  refine d_br (fun h => ?_) (fun h => ?_)
                                  · simp only [cCmp, cE2, sev, svl, cen, List.cons_append, List.nil_append] at h
                                    first
                                    | omega
                                    | skip
                                      exact d_ret [25] rfl (by decide) ⟨rfl, congrArg (fun z => [z]) (gn (by omega) (by omega) (by omega) (by omega) (by omega) (by omega) (by omega) (by omega)).symm⟩
                                  · simp only [cCmp, cE2, sev, svl, cen, List.cons_append, List.nil_append] at h
                                    first
                                    | omega
                                    | skip
                                      refine d_br (fun h => ?_) (fun h => ?_)
                                      · simp only [cCmp, cE2, sev, svl, cen, List.cons_append, List.nil_append] at h
                                        first
                                        | omega
                                        | skip
                                          exact d_ret [25] rfl (by decide) ⟨rfl, congrArg (fun z => [z]) (gn (by omega) (by omega) (by omega) (by omega) (by omega) (by omega) (by omega) (by omega)).symm⟩
                                      · simp only [cCmp, cE2, sev, svl, cen, List.cons_append, List.nil_append] at h
                                        first
                                        | omega
                                        | skip
                                          refine d_br (fun h => ?_) (fun h => ?_)
                                          · simp only [cCmp, cE2, sev, svl, cen, List.cons_append, List.nil_append] at h
                                            first
                                            | omega
                                            | skip
                                              exact d_ret [25] rfl (by decide) ⟨rfl, congrArg (fun z => [z]) (gn (by omega) (by omega) (by omega) (by omega) (by omega) (by omega) (by omega) (by omega)).symm⟩
                                          · simp only [cCmp, cE2, sev, svl, cen, List.cons_append, List.nil_append] at h
                                            first
                                            | omega
                                            | skip
                                              refine d_br (fun h => ?_) (fun h => ?_)
                                              · simp only [cCmp, cE2, sev, svl, cen, List.cons_append, List.nil_append] at h
                                                first
                                                | omega
                                                | skip
                                                  exact d_ret [25] rfl (by decide) ⟨rfl, congrArg (fun z => [z]) (gn (by omega) (by omega) (by omega) (by omega) (by omega) (by omega) (by omega) (by omega)).symm⟩
                                              · simp only [cCmp, cE2, sev, svl, cen, List.cons_append, List.nil_append] at h
                                                first
                                                | omega
                                                | skip
                                                  refine d_br (fun h => ?_) (fun h => ?_)
                                                  · simp only [cCmp, cE2, sev, svl, cen, List.cons_append, List.nil_append] at h
                                                    first
                                                    | omega
                                                    | skip
                                                      exact d_ret [25] rfl (by decide) ⟨rfl, congrArg (fun z => [z]) (gn (by omega) (by omega) (by omega) (by omega) (by omega) (by omega) (by omega) (by omega)).symm⟩
                                                  · simp only [cCmp, cE2, sev, svl, cen, List.cons_append, List.nil_append] at h
                                                    first
                                                    | omega
                                                    | skip
                                                      refine d_br (fun h => ?_) (fun h => ?_)
                                                      · simp only [cCmp, cE2, sev, svl, cen, List.cons_append, List.nil_append] at h
                                                        first
                                                        | omega
                                                        | skip
                                                          exact d_ret [25] rfl (by decide) ⟨rfl, congrArg (fun z => [z]) (gn (by omega) (by omega) (by omega) (by omega) (by omega) (by omega) (by omega) (by omega)).symm⟩
                                                      · simp only [cCmp, cE2, sev, svl, cen, List.cons_append, List.nil_append] at h
                                                        first
                                                        | omega
                                                        | skip
                                                          refine d_br (fun h => ?_) (fun h => ?_)
                                                          · simp only [cCmp, cE2, sev, svl, cen, List.cons_append, List.nil_append] at h
                                                            first
                                                            | omega
                                                            | skip
                                                              exact d_ret [25] rfl (by decide) ⟨rfl, congrArg (fun z => [z]) (gn (by omega) (by omega) (by omega) (by omega) (by omega) (by omega) (by omega) (by omega)).symm⟩
                                                          · simp only [cCmp, cE2, sev, svl, cen, List.cons_append, List.nil_append] at h
                                                            first
                                                            | omega
                                                            | skip
                                                              refine d_br (fun h => ?_) (fun h => ?_)
                                                              · simp only [cCmp, cE2, sev, svl, cen, List.cons_append, List.nil_append] at h
                                                                first
                                                                | omega
                                                                | skip
                                                                  exact d_ret [25] rfl (by decide) ⟨rfl, congrArg (fun z => [z]) (gn (by omega) (by omega) (by omega) (by omega) (by omega) (by omega) (by omega) (by omega)).symm⟩
                                                              · simp only [cCmp, cE2, sev, svl, cen, List.cons_append, List.nil_append] at h
                                                                first
                                                                | omega
                                                                | skip
                                                                  refine d_br (fun h => ?_) (fun h => ?_)
                                                                  · simp only [cCmp, cE2, sev, svl, cen, List.cons_append, List.nil_append] at h
                                                                    first
                                                                    | omega
                                                                    | skip
                                                                      exact d_ret [25] rfl (by decide) ⟨rfl, congrArg (fun z => [z]) (gn (by omega) (by omega) (by omega) (by omega) (by omega) (by omega) (by omega) (by omega)).symm⟩
                                                                  · simp only [cCmp, cE2, sev, svl, cen, List.cons_append, List.nil_append] at h
                                                                    first
                                                                    | omega
                                                                    | skip
                                                                      refine d_br (fun h => ?_) (fun h => ?_)
                                                                      · simp only [cCmp, cE2, sev, svl, cen, List.cons_append, List.nil_append] at h
                                                                        first
                                                                        | omega
                                                                        | skip
                                                                          exact d_ret [25] rfl (by decide) ⟨rfl, congrArg (fun z => [z]) (gn (by omega) (by omega) (by omega) (by omega) (by omega) (by omega) (by omega) (by omega)).symm⟩
                                                                      · simp only [cCmp, cE2, sev, svl, cen, List.cons_append, List.nil_append] at h
                                                                        first
                                                                        | omega
                                                                        | skip
                                                                          refine d_br (fun h => ?_) (fun h => ?_)
                                                                          · simp only [cCmp, cE2, sev, svl, cen, List.cons_append, List.nil_append] at h
                                                                            first
                                                                            | omega
                                                                            | skip
                                                                              exact d_ret [25] rfl (by decide) ⟨rfl, congrArg (fun z => [z]) (gn (by omega) (by omega) (by omega) (by omega) (by omega) (by omega) (by omega) (by omega)).symm⟩
                                                                          · simp only [cCmp, cE2, sev, svl, cen, List.cons_append, List.nil_append] at h
                                                                            first
                                                                            | omega
                                                                            | skip
                                                                              refine d_br (fun h => ?_) (fun h => ?_)
                                                                              · simp only [cCmp, cE2, sev, svl, cen, List.cons_append, List.nil_append] at h
                                                                                first
                                                                                | omega
                                                                                | skip
                                                                                  exact d_ret [25] rfl (by decide) ⟨rfl, congrArg (fun z => [z]) (gn (by omega) (by omega) (by omega) (by omega) (by omega) (by omega) (by omega) (by omega)).symm⟩
                                                                              · simp only [cCmp, cE2, sev, svl, cen, List.cons_append, List.nil_append] at h
                                                                                first
                                                                                | omega
                                                                                | skip
                                                                                  refine d_br (fun h => ?_) (fun h => ?_)
                                                                                  · simp only [cCmp, cE2, sev, svl, cen, List.cons_append, List.nil_append] at h
                                                                                    first
                                                                                    | omega
                                                                                    | skip
                                                                                      exact d_ret [25] rfl (by decide) ⟨rfl, congrArg (fun z => [z]) (gn (by omega) (by omega) (by omega) (by omega) (by omega) (by omega) (by omega) (by omega)).symm⟩
                                                                                  · simp only [cCmp, cE2, sev, svl, cen, List.cons_append, List.nil_append] at h
                                                                                    first
                                                                                    | omega
                                                                                    | skip
                                                                                      refine d_br (fun h => ?_) (fun h => ?_)
                                                                                      · simp only [cCmp, cE2, sev, svl, cen, List.cons_append, List.nil_append] at h
                                                                                        first
                                                                                        | omega
                                                                                        | skip
                                                                                          exact d_ret [23] rfl (by decide) ⟨rfl, congrArg (fun z => [z]) (g 59 23 (by omega) rfl).symm⟩
                                                                                      · simp only [cCmp, cE2, sev, svl, cen, List.cons_append, List.nil_append] at h
                                                                                        first
                                                                                        | omega
                                                                                        | skip
                                                                                          refine d_br (fun h => ?_) (fun h => ?_)
                                                                                          · simp only [cCmp, cE2, sev, svl, cen, List.cons_append, List.nil_append] at h
                                                                                            first
                                                                                            | omega
                                                                                            | skip
                                                                                              exact d_ret [18] rfl (by decide) ⟨rfl, congrArg (fun z => [z]) (g 60 18 (by omega) rfl).symm⟩
                                                                                          · simp only [cCmp, cE2, sev, svl, cen, List.cons_append, List.nil_append] at h
                                                                                            first
                                                                                            | omega
                                                                                            | skip
                                                                                              refine d_br (fun h => ?_) (fun h => ?_)
                                                                                              · simp only [cCmp, cE2, sev, svl, cen, List.cons_append, List.nil_append] at h
                                                                                                first
                                                                                                | omega
                                                                                                | skip
                                                                                                  exact d_ret [19] rfl (by decide) ⟨rfl, congrArg (fun z => [z]) (g 61 19 (by omega) rfl).symm⟩
                                                                                              · simp only [cCmp, cE2, sev, svl, cen, List.cons_append, List.nil_append] at h
                                                                                                first
                                                                                                | omega
                                                                                                | skip
                                                                                                  omega
theorem b_advance (hp : cPl tm tc tf EX) (hch : cCh EX l dC dI cA scrS) {p L : Nat} {M : SMem} (hI : sI tg M) (h3 : M 9 0 3 = (p : Int)) (hL : M 3 0 1 = (L : Int)) (hpL : p ≤ L) (h9 : L ≤ 1000) : cBG tm tf EX l dC dI cA ad scrS (d + 6) kX4_advance [(2, 9, 0)] M (fun rr MM => rr = [] ∧ oAdv M L (oS (M 57 0) L p) MM) := by
  refine cMeth (v := []) (Fd := 90) hp (by decide) gX4_advance_ok gX4_advance_m0 (by simp [cAs, cE2, sev, svl, cen]) ?_
  obtain ⟨s, hs⟩ : ∃ s, s = oS (M 57 0) L p := ⟨_, rfl⟩
  rw [← hs]
  obtain ⟨w1, w2, w3⟩ := oR_end (P := oIb) (T := M 57 0) (L := L) (p := p) hpL
  have hR : oR oIb (M 57 0) L (L - p) p = s := hs.symm
  have w4 : ∀ i, p ≤ i → i < s → M 57 0 i = 10 ∨ M 57 0 i = 32 := fun i i1 i2 => oIb_iff.mp (oR_in (L - p) p i i1 (by rw [hR]; exact i2)).2
  rw [hR] at w1 w2 w3
  have w3 : s < L → ¬ (M 57 0 s = 10 ∨ M 57 0 s = 32) := fun q z => w3 ⟨q, oIb_iff.mpr z⟩
  have keep : ∀ (M0 M1 : SMem), oFm oPa M M0 → oAdv M0 L s M1 → oAdv M L s M1 := fun M0 M1 f0 g => by
    have e57 : M0 57 0 = M 57 0 := oFm_row f0 (fun i q => by omega)
    obtain ⟨k1, k2, k3, k4, k5, k6⟩ := g
    rw [e57] at k4 k5 k6
    exact ⟨k1, oFm_t f0 k2, k3, k4, k5, k6⟩
  have loop2 : ∀ (MW : SMem), sI tg MW → oFm oPa M MW → MW 9 0 3 = (s : Int) → cEnds (cBG tm tf EX l dC dI cA ad scrS (d + 5)) (fun rr MM => rr = [] ∧ oAdv M L s MM) 90 gX4_advance 45 [] MW := by
    intro MW g1 g2 g4
    have i2 : sI tg (supd MW 9 0 5 (s : Int)) := wI g1 (lo := 0) (hi := 1000) rfl ⟨by omega, by omega⟩
    have f2 : oFm oPa M (supd MW 9 0 5 (s : Int)) := oFm_p ⟨rfl, Or.inr (Or.inr (Or.inl rfl))⟩ g2
    have e57 : ∀ i, MW 57 0 i = M 57 0 i := fun i => g2 57 0 i (by omega)
    have eL : MW 3 0 1 = (L : Int) := (g2 3 0 1 (by omega)).trans hL
    have n5 : supd MW 9 0 5 (s : Int) 9 0 5 = (s : Int) := supd_at _ _ _ _ _
    have n3 : supd MW 9 0 5 (s : Int) 9 0 3 = (s : Int) := by rw [supd_i (by decide)]; exact g4
    have nL : supd MW 9 0 5 (s : Int) 3 0 1 = (L : Int) := by rw [supd_f (by decide)]; exact eL
    have nT : supd MW 9 0 5 (s : Int) 57 0 s = M 57 0 s := by rw [supd_f (by decide)]; exact e57 s
    refine cEnds_at gX4_advance_m45 rfl ?_
    refine d_fld 0 (by simp only [cE2, sev, svl, cen, List.cons_append, List.nil_append]; omega) ?_
    rw [g4]
    refine d_put 0 (s : Int) (by simp only [cE2, sev, svl, cen, List.cons_append, List.nil_append]; omega) (by simp only [cE2, sev, svl, cen, List.cons_append, List.nil_append]; omega) ?_
    refine d_fld 0 (by simp only [cE2, sev, svl, cen, List.cons_append, List.nil_append]; omega) ?_
    rw [supd_i (by decide)]
    rw [g4]
    refine d_fld 0 (by simp only [cE2, sev, svl, cen, List.cons_append, List.nil_append]; omega) ?_
    rw [supd_f (by decide)]
    rw [eL]
    refine d_br (fun h => ?_) (fun h => ?_)
    · simp only [cCmp, cE2, sev, svl, cen, List.cons_append, List.nil_append] at h
      first
      | omega
      | skip
        refine d_fld 0 (by simp only [cE2, sev, svl, cen, List.cons_append, List.nil_append]; omega) ?_
        rw [supd_i (by decide)]
        rw [g4]
        refine d_row 0 s (by simp only [cE2, sev, svl, cen, List.cons_append, List.nil_append]; omega) (by simp only [cE2, sev, svl, cen, List.cons_append, List.nil_append]; omega) (by omega) ?_
        rw [supd_f (by decide)]
        rw [e57 s]
        refine d_call (b_isLetter hp (x := (M 57 0 s))) (by simp [cAs, cE2, sev, svl, cen] <;> omega) ?_
        intro rr M' hq
        obtain ⟨hM', hq⟩ := hq
        rw [hM']
        rcases hq with ⟨rfl, q5⟩ | ⟨rfl, q5⟩
        · refine ⟨rfl, ?_⟩
          refine d_br (fun h => ?_) (fun h => ?_)
          · simp only [cCmp, cE2, sev, svl, cen, List.cons_append, List.nil_append] at h
            omega
          · clear h
            refine d_call (b_takeWord (d := d) hp hch (s := s) (L := L) i2 n5 n3 nL (by omega) h9 (by rw [nT]; exact oIl_iff.mpr (by assumption))) (by simp [cAs, cE2, sev, svl, cen] <;> omega) ?_
            intro rr M' hq
            obtain ⟨rfl, hadv⟩ := hq
            refine ⟨rfl, ?_⟩
            exact d_ret [] rfl (by decide) ⟨rfl, keep _ _ f2 hadv⟩
        · refine ⟨rfl, ?_⟩
          refine d_br (fun h => ?_) (fun h => ?_)
          · clear h
            refine d_fld 0 (by simp only [cE2, sev, svl, cen, List.cons_append, List.nil_append]; omega) ?_
            rw [supd_i (by decide)]
            rw [g4]
            refine d_row 0 s (by simp only [cE2, sev, svl, cen, List.cons_append, List.nil_append]; omega) (by simp only [cE2, sev, svl, cen, List.cons_append, List.nil_append]; omega) (by omega) ?_
            rw [supd_f (by decide)]
            rw [e57 s]
            refine d_call (b_isDigit hp (x := (M 57 0 s))) (by simp [cAs, cE2, sev, svl, cen] <;> omega) ?_
            intro rr M' hq
            obtain ⟨hM', hq⟩ := hq
            rw [hM']
            rcases hq with ⟨rfl, q8⟩ | ⟨rfl, q8⟩
            · refine ⟨rfl, ?_⟩
              refine d_br (fun h => ?_) (fun h => ?_)
              · simp only [cCmp, cE2, sev, svl, cen, List.cons_append, List.nil_append] at h
                omega
              · clear h
                refine d_call (b_takeNumber (d := d) hp (s := s) (L := L) i2 n5 n3 nL (by omega) h9 (by rw [nT]; exact Bool.eq_false_iff.mpr (fun z => absurd (oIl_iff.mp z) (by assumption))) (by rw [nT]; exact oId_iff.mpr (by assumption))) (by simp [cAs, cE2, sev, svl, cen] <;> omega) ?_
                intro rr M' hq
                obtain ⟨rfl, hadv⟩ := hq
                refine ⟨rfl, ?_⟩
                exact d_ret [] rfl (by decide) ⟨rfl, keep _ _ f2 hadv⟩
            · refine ⟨rfl, ?_⟩
              refine d_br (fun h => ?_) (fun h => ?_)
              · clear h
                refine d_fld 0 (by simp only [cE2, sev, svl, cen, List.cons_append, List.nil_append]; omega) ?_
                rw [supd_i (by decide)]
                rw [g4]
                refine d_row 0 s (by simp only [cE2, sev, svl, cen, List.cons_append, List.nil_append]; omega) (by simp only [cE2, sev, svl, cen, List.cons_append, List.nil_append]; omega) (by omega) ?_
                rw [supd_f (by decide)]
                rw [e57 s]
                refine d_call (b_kindOfSign hp (x := (M 57 0 s))) (by simp [cAs, cE2, sev, svl, cen] <;> omega) ?_
                intro rr M' hq
                obtain ⟨hM', rfl⟩ := hq
                rw [hM']
                refine ⟨rfl, ?_⟩
                refine d_put 0 (oSg (M 57 0 s) : Int) (by simp only [cE2, sev, svl, cen, List.cons_append, List.nil_append]; omega) (by simp only [cE2, sev, svl, cen, List.cons_append, List.nil_append]; omega) ?_
                refine d_fld 0 (by simp only [cE2, sev, svl, cen, List.cons_append, List.nil_append]; omega) ?_
                rw [supd_i (by decide)]
                rw [supd_i (by decide)]
                rw [g4]
                refine d_rng (by simp only [clo, chi, cE2, sev, svl, cen, List.cons_append, List.nil_append]; omega) ?_
                refine d_put 0 ((s : Int) + 1) (by simp only [cE2, sev, svl, cen, List.cons_append, List.nil_append]; omega) (by simp only [cE2, sev, svl, cen, List.cons_append, List.nil_append]; omega) ?_
                exact d_ret [] rfl (by decide) ⟨rfl, wI (wI i2 (lo := 0) (hi := 25) rfl ⟨by omega, by have := oSg_le (M 57 0 s); omega⟩) (lo := 0) (hi := 1000) rfl ⟨by omega, by omega⟩, oFm_p ⟨rfl, Or.inl rfl⟩ (oFm_p ⟨rfl, Or.inr (Or.inl rfl)⟩ f2), by rw [supd_i (by decide), supd_i (by decide)]; exact n5, (by rw [supd_at]; unfold oE; rw [if_neg (by omega), if_neg (fun z => absurd (oIl_iff.mp z) (by assumption)), if_neg (fun z => absurd (oId_iff.mp z) (by assumption))]; omega), (by rw [supd_i (by decide), supd_at]; unfold oK; rw [if_neg (by omega), if_neg (fun z => absurd (oIl_iff.mp z) (by assumption)), if_neg (fun z => absurd (oId_iff.mp z) (by assumption))]), fun z => absurd z (by unfold oK; rw [if_neg (by omega), if_neg (fun z => absurd (oIl_iff.mp z) (by assumption)), if_neg (fun z => absurd (oId_iff.mp z) (by assumption))]; exact oSg_n15 _)⟩
              · simp only [cCmp, cE2, sev, svl, cen, List.cons_append, List.nil_append] at h
                omega
          · simp only [cCmp, cE2, sev, svl, cen, List.cons_append, List.nil_append] at h
            omega
    · simp only [cCmp, cE2, sev, svl, cen, List.cons_append, List.nil_append] at h
      first
      | omega
      | skip
        refine d_put 0 24 (by simp only [cE2, sev, svl, cen, List.cons_append, List.nil_append]; omega) (by simp only [cE2, sev, svl, cen, List.cons_append, List.nil_append]; omega) ?_
        exact d_ret [] rfl (by decide) ⟨rfl, wI i2 (lo := 0) (hi := 25) rfl ⟨by omega, by omega⟩, oFm_p ⟨rfl, Or.inr (Or.inl rfl)⟩ f2, by rw [supd_i (by decide)]; exact n5, (by rw [supd_i (by decide)]; unfold oE; rw [if_pos (by omega)]; exact n3), (by rw [supd_at]; unfold oK; rw [if_pos (by omega)]; rfl), fun z => absurd z (by unfold oK; rw [if_pos (by omega)]; decide)⟩
  have loop1 : ∀ (m k : Nat) (MW : SMem), k + m = s → p ≤ k → sI tg MW → oFm oPa M MW → MW 9 0 3 = (k : Int) → cEnds (cBG tm tf EX l dC dI cA ad scrS (d + 5)) (fun rr MM => rr = [] ∧ oAdv M L s MM) 90 gX4_advance 0 [] MW := by
    intro m
    induction m with
    | zero =>
      intro k MW hk hpk g1 g2 g4
      have ek : k = s := by omega
      subst ek
      have e57 : ∀ i, MW 57 0 i = M 57 0 i := fun i => g2 57 0 i (by omega)
      have eL : MW 3 0 1 = (L : Int) := (g2 3 0 1 (by omega)).trans hL
      refine cEnds_at gX4_advance_m0 rfl ?_
      refine d_fld 0 (by simp only [cE2, sev, svl, cen, List.cons_append, List.nil_append]; omega) ?_
      rw [g4]
      refine d_fld 0 (by simp only [cE2, sev, svl, cen, List.cons_append, List.nil_append]; omega) ?_
      rw [eL]
      refine d_br (fun h => ?_) (fun h => ?_)
      · simp only [cCmp, cE2, sev, svl, cen, List.cons_append, List.nil_append] at h
        first
        | omega
        | skip
          refine d_cut [] (by simp [cE2, sev, svl, cen] <;> omega) ?_
          exact loop2 MW g1 g2 g4
      · simp only [cCmp, cE2, sev, svl, cen, List.cons_append, List.nil_append] at h
        first
        | omega
        | skip
          refine d_fld 0 (by simp only [cE2, sev, svl, cen, List.cons_append, List.nil_append]; omega) ?_
          rw [g4]
          refine d_row 0 k (by simp only [cE2, sev, svl, cen, List.cons_append, List.nil_append]; omega) (by simp only [cE2, sev, svl, cen, List.cons_append, List.nil_append]; omega) (by omega) ?_
          rw [e57 k]
          refine d_call (b_isBlank hp (x := (M 57 0 k))) (by simp [cAs, cE2, sev, svl, cen] <;> omega) ?_
          intro rr M' hq
          obtain ⟨hM', hq⟩ := hq
          rw [hM']
          rcases hq with ⟨rfl, q4⟩ | ⟨rfl, q4⟩
          · refine ⟨rfl, ?_⟩
            refine d_br (fun h => ?_) (fun h => ?_)
            · simp only [cCmp, cE2, sev, svl, cen, List.cons_append, List.nil_append] at h
              omega
            · clear h
              refine d_fld 0 (by simp only [cE2, sev, svl, cen, List.cons_append, List.nil_append]; omega) ?_
              rw [g4]
              refine d_rng (by simp only [clo, chi, cE2, sev, svl, cen, List.cons_append, List.nil_append]; omega) ?_
              refine d_put 0 ((k : Int) + 1) (by simp only [cE2, sev, svl, cen, List.cons_append, List.nil_append]; omega) (by simp only [cE2, sev, svl, cen, List.cons_append, List.nil_append]; omega) ?_
              exact absurd q4 (w3 (by omega))
          · refine ⟨rfl, ?_⟩
            refine d_br (fun h => ?_) (fun h => ?_)
            · clear h
              refine d_cut [] (by simp [cE2, sev, svl, cen] <;> omega) ?_
              exact loop2 MW g1 g2 g4
            · simp only [cCmp, cE2, sev, svl, cen, List.cons_append, List.nil_append] at h
              omega
    | succ m ih =>
      intro k MW hk hpk g1 g2 g4
      have e57 : ∀ i, MW 57 0 i = M 57 0 i := fun i => g2 57 0 i (by omega)
      have eL : MW 3 0 1 = (L : Int) := (g2 3 0 1 (by omega)).trans hL
      have wk := w4 k hpk (by omega)
      refine cEnds_at gX4_advance_m0 rfl ?_
      refine d_fld 0 (by simp only [cE2, sev, svl, cen, List.cons_append, List.nil_append]; omega) ?_
      rw [g4]
      refine d_fld 0 (by simp only [cE2, sev, svl, cen, List.cons_append, List.nil_append]; omega) ?_
      rw [eL]
      refine d_br (fun h => ?_) (fun h => ?_)
      · simp only [cCmp, cE2, sev, svl, cen, List.cons_append, List.nil_append] at h
        first
        | omega
        | skip
          refine d_cut [] (by simp [cE2, sev, svl, cen] <;> omega) ?_
          exact (by omega)
      · simp only [cCmp, cE2, sev, svl, cen, List.cons_append, List.nil_append] at h
        first
        | omega
        | skip
          refine d_fld 0 (by simp only [cE2, sev, svl, cen, List.cons_append, List.nil_append]; omega) ?_
          rw [g4]
          refine d_row 0 k (by simp only [cE2, sev, svl, cen, List.cons_append, List.nil_append]; omega) (by simp only [cE2, sev, svl, cen, List.cons_append, List.nil_append]; omega) (by omega) ?_
          rw [e57 k]
          refine d_call (b_isBlank hp (x := (M 57 0 k))) (by simp [cAs, cE2, sev, svl, cen] <;> omega) ?_
          intro rr M' hq
          obtain ⟨hM', hq⟩ := hq
          rw [hM']
          rcases hq with ⟨rfl, q4⟩ | ⟨rfl, q4⟩
          · refine ⟨rfl, ?_⟩
            refine d_br (fun h => ?_) (fun h => ?_)
            · simp only [cCmp, cE2, sev, svl, cen, List.cons_append, List.nil_append] at h
              omega
            · clear h
              refine d_fld 0 (by simp only [cE2, sev, svl, cen, List.cons_append, List.nil_append]; omega) ?_
              rw [g4]
              refine d_rng (by simp only [clo, chi, cE2, sev, svl, cen, List.cons_append, List.nil_append]; omega) ?_
              refine d_put 0 ((k : Int) + 1) (by simp only [cE2, sev, svl, cen, List.cons_append, List.nil_append]; omega) (by simp only [cE2, sev, svl, cen, List.cons_append, List.nil_append]; omega) ?_
              refine d_cut [] (by simp [cE2, sev, svl, cen] <;> omega) ?_
              exact ih (k + 1) _ (by omega) (by omega) (wI g1 (lo := 0) (hi := 1000) rfl ⟨by omega, by omega⟩) (oFm_p ⟨rfl, Or.inl rfl⟩ g2) (by rw [supd_at]; omega)
          · refine ⟨rfl, ?_⟩
            refine d_br (fun h => ?_) (fun h => ?_)
            · clear h
              refine d_cut [] (by simp [cE2, sev, svl, cen] <;> omega) ?_
              exact (by omega)
            · simp only [cCmp, cE2, sev, svl, cen, List.cons_append, List.nil_append] at h
              omega
  exact loop1 (s - p) p M (by omega) (Nat.le_refl _) hI oFm_r h3
end CO2
