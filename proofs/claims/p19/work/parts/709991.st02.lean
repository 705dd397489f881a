/-! stories: the earliest reigns, and whether there is a story -/
def sSt (st : Nat → Int) (r : Nat → Int) : Prop := ∀ a b, a < 6 → b < 6 → 0 ≤ st (6 * a + b) → r a + st (6 * a + b) ≤ r b
/-- a step of the pushing: nothing that keeps the rules is lost -/
def sPsh (st E E' : Nat → Int) : Prop := (∀ h, h < 6 → E h ≤ E' h) ∧ ∀ r : Nat → Int, (∀ h, h < 6 → E h ≤ r h) → sSt st r → ∀ h, h < 6 → E' h ≤ r h
theorem sPsh_rf {st E : Nat → Int} : sPsh st E E := ⟨fun _ _ => Int.le_refl _, fun _ h _ => h⟩
theorem sPsh_tr {st A B C : Nat → Int} (h1 : sPsh st A B) (h2 : sPsh st B C) : sPsh st A C := ⟨fun h k => Int.le_trans (h1.1 h k) (h2.1 h k), fun r q1 q2 => h2.2 r (h1.2 r q1 q2) q2⟩
theorem sPsh_1 {st E : Nat → Int} {a b : Nat} (ha : a < 6) (hb : b < 6) (hs : 0 ≤ st (6 * a + b)) (h : E b < E a + st (6 * a + b)) : sPsh st E (wSt E b (E a + st (6 * a + b))) := by
  refine ⟨fun k hk => ?_, fun r q1 q2 k hk => ?_⟩
  · by_cases e : k = b
    · rw [e, wSt_at]; omega
    · rw [wSt_ne e]; exact Int.le_refl _
  · by_cases e : k = b
    · rw [e, wSt_at]
      have w1 := q1 a ha
      have w2 := q2 a b ha hb hs
      omega
    · rw [wSt_ne e]; exact q1 k hk
section CS2
variable {EX : SEx} {l : Launch} {dC : Nat → ClassId} {dI : Nat → Nat → Nat} {cA : Nat → ClassId} {ad : SAd} {scrS d : Nat}
theorem b_pushBehind (hp : cPl tm tc tf EX) {M : SMem} (hI : sI tg M) (h9 : ∀ h, h < 6 → M 70 0 h ≤ 20) : cBG tm tf EX l dC dI cA ad scrS (d + 1) kX6_pushBehind [(2, 7, 0)] M (fun rr MM => sI tg MM ∧ (∀ f j i, f ≠ 70 → MM f j i = M f j i) ∧ sPsh (M 67 0) (M 70 0) (MM 70 0) ∧ (∀ h, h < 6 → MM 70 0 h ≤ 100) ∧ ((rr = [0] ∧ (∀ h, h < 6 → MM 70 0 h = M 70 0 h) ∧ sSt (M 67 0) (MM 70 0)) ∨ (rr = [1] ∧ ∃ h, h < 6 ∧ M 70 0 h < MM 70 0 h))) := by
  refine cMeth (v := []) (Fd := 90) hp (by decide) gX6_pushBehind_ok gX6_pushBehind_m0 (by simp [cAs, cE2, sev, svl, cen]) ?_
  suffices H : ∀ Po : List Int → SMem → Prop, (∀ rr MM, (sI tg MM ∧ (∀ f j i, f ≠ 70 → MM f j i = M f j i) ∧ sPsh (M 67 0) (M 70 0) (MM 70 0) ∧ (∀ h, h < 6 → MM 70 0 h ≤ 100) ∧ ((rr = [0] ∧ (∀ h, h < 6 → MM 70 0 h = M 70 0 h) ∧ sSt (M 67 0) (MM 70 0)) ∨ (rr = [1] ∧ ∃ h, h < 6 ∧ M 70 0 h < MM 70 0 h))) → Po rr MM) → cEnds (cBG tm tf EX l dC dI cA ad scrS d) Po 90 gX6_pushBehind 0 [] M from H _ (fun _ _ h => h)
  intro Po hPo
  -- at hand a, behind all pairs ahead of (a, b)
  have l12 : ∀ (n a b : Nat), a < 6 → b + n = 6 → (∀ (mv : Int) (M1 : SMem), (sI tg M1 ∧ (∀ f j i, f ≠ 70 → M1 f j i = M f j i) ∧ sPsh (M 67 0) (M 70 0) (M1 70 0) ∧ (∀ h, h < 6 → M1 70 0 h ≤ 20 + 6 * (((a + 1) : Nat) : Int) + ((0 : Nat) : Int)) ∧ ((mv = 0 ∧ (∀ h, h < 6 → M1 70 0 h = M 70 0 h) ∧ ∀ x y, x < 6 → y < 6 → 6 * x + y < 6 * (a + 1) + 0 → 0 ≤ M 67 0 (6 * x + y) → M1 70 0 x + M 67 0 (6 * x + y) ≤ M1 70 0 y) ∨ (mv = 1 ∧ ∃ h, h < 6 ∧ M 70 0 h < M1 70 0 h))) → cEnds (cBG tm tf EX l dC dI cA ad scrS d) Po 90 gX6_pushBehind 4 [mv, ((a + 1 : Nat) : Int)] M1) → ∀ (mv : Int) (M1 : SMem), (sI tg M1 ∧ (∀ f j i, f ≠ 70 → M1 f j i = M f j i) ∧ sPsh (M 67 0) (M 70 0) (M1 70 0) ∧ (∀ h, h < 6 → M1 70 0 h ≤ 20 + 6 * ((a : Nat) : Int) + ((b : Nat) : Int)) ∧ ((mv = 0 ∧ (∀ h, h < 6 → M1 70 0 h = M 70 0 h) ∧ ∀ x y, x < 6 → y < 6 → 6 * x + y < 6 * a + b → 0 ≤ M 67 0 (6 * x + y) → M1 70 0 x + M 67 0 (6 * x + y) ≤ M1 70 0 y) ∨ (mv = 1 ∧ ∃ h, h < 6 ∧ M 70 0 h < M1 70 0 h))) → cEnds (cBG tm tf EX l dC dI cA ad scrS d) Po 90 gX6_pushBehind 12 [mv, (a : Int), (b : Int)] M1 := by
    intro n
    induction n with
    | zero =>
      intro a b ha hb nx mv M1 hV
      refine cEnds_at gX6_pushBehind_m12 rfl ?_
      refine d_br (fun h => ?_) (fun h => ?_)
      · refine d_rng (by simp only [clo, chi, cE2, sev, svl, cen, List.cons_append, List.nil_append]; omega) ?_
        refine d_cut [mv, ((a + 1 : Nat) : Int)] (by simp [cE2, sev, svl, cen] <;> omega) ?_
        refine nx mv M1 ?_
        have eb : b = 6 := by omega
        subst eb
        obtain ⟨v1, v2, v3, v4, v5⟩ := hV
        refine ⟨v1, v2, v3, fun h hh => by have := v4 h hh; omega, v5.imp (fun q => ⟨q.1, q.2.1, fun x y hx hy hxy => q.2.2 x y hx hy (by omega)⟩) id⟩
      · simp only [cCmp, cE2, sev, svl, cen, List.cons_append, List.nil_append] at h
        omega
    | succ n ih =>
      intro a b ha hb nx mv M1 hV
      obtain ⟨v1, v2, v3, v4, v5⟩ := hV
      have e67 : M1 67 0 (6 * a + b) = M 67 0 (6 * a + b) := v2 67 0 _ (by decide)
      have b1 := wIb (f := 67) (i := 6 * a + b) (lo := -1) (hi := 1) hI 0 rfl
      have c1 := v4 a ha
      have c2 := v4 b (by omega)
      have d1 := wIb (f := 70) (i := a) (lo := 0) (hi := 2147483647) v1 0 rfl
      have d2 := wIb (f := 70) (i := b) (lo := 0) (hi := 2147483647) v1 0 rfl
      have stay : ¬ (0 ≤ M 67 0 (6 * a + b) ∧ M1 70 0 b < M1 70 0 a + M 67 0 (6 * a + b)) → cEnds (cBG tm tf EX l dC dI cA ad scrS d) Po 90 gX6_pushBehind 12 [mv, (a : Int), ((b + 1 : Nat) : Int)] M1 := by
        intro hno
        refine ih a (b + 1) ha (by omega) nx mv M1 ⟨v1, v2, v3, fun h hh => by have := v4 h hh; omega, v5.imp (fun q => ⟨q.1, q.2.1, fun x y hx hy hxy hs => ?_⟩) id⟩
        by_cases e : 6 * x + y = 6 * a + b
        · have ex : x = a := by omega
          have ey : y = b := by omega
          subst ex ey
          omega
        · exact q.2.2 x y hx hy (by omega) hs
      have push : 0 ≤ M 67 0 (6 * a + b) ∧ M1 70 0 b < M1 70 0 a + M 67 0 (6 * a + b) → cEnds (cBG tm tf EX l dC dI cA ad scrS d) Po 90 gX6_pushBehind 12 [1, (a : Int), ((b + 1 : Nat) : Int)] (supd M1 70 0 b (M1 70 0 a + M 67 0 (6 * a + b))) := by
        intro hy
        have er : supd M1 70 0 b (M1 70 0 a + M 67 0 (6 * a + b)) 70 0 = wSt (M1 70 0) b (M1 70 0 a + M 67 0 (6 * a + b)) := supd_row
        refine ih a (b + 1) ha (by omega) nx 1 _ ⟨wI (lo := 0) (hi := 2147483647) v1 rfl ⟨by omega, by omega⟩, fun f j i z => by rw [supd_f z, v2 f j i z], ?_, fun h hh => ?_, Or.inr ⟨rfl, b, by omega, ?_⟩⟩
        · rw [er]
          exact sPsh_tr v3 (sPsh_1 ha (by omega) hy.1 hy.2)
        · rw [er]
          by_cases e : h = b
          · rw [e, wSt_at]; omega
          · rw [wSt_ne e]
            have := v4 h hh
            omega
        · rw [er, wSt_at]
          have := v3.1 b (by omega)
          omega
      refine cEnds_at gX6_pushBehind_m12 rfl ?_
      refine d_br (fun h => ?_) (fun h => ?_)
      · simp only [cCmp, cE2, sev, svl, cen, List.cons_append, List.nil_append] at h
        first
        | omega
        | skip
          refine d_rng (by simp only [clo, chi, cE2, sev, svl, cen, List.cons_append, List.nil_append]; omega) ?_
          refine d_cut [mv, ((a : Int) + 1)] (by simp [cE2, sev, svl, cen] <;> omega) ?_
          exact (by omega)
      · simp only [cCmp, cE2, sev, svl, cen, List.cons_append, List.nil_append] at h
        first
        | omega
        | skip
          refine d_rng (by simp only [clo, chi, cE2, sev, svl, cen, List.cons_append, List.nil_append]; omega) ?_
          refine d_rng (by simp only [clo, chi, cE2, sev, svl, cen, List.cons_append, List.nil_append]; omega) ?_
          refine d_row 0 (6 * a + b) (by simp only [cE2, sev, svl, cen, List.cons_append, List.nil_append]; omega) (by simp only [cE2, sev, svl, cen, List.cons_append, List.nil_append]; omega) (by omega) ?_
          rw [e67]
          refine d_br (fun h => ?_) (fun h => ?_)
          · simp only [cCmp, cE2, sev, svl, cen, List.cons_append, List.nil_append] at h
            first
            | omega
            | skip
              refine d_rng (by simp only [clo, chi, cE2, sev, svl, cen, List.cons_append, List.nil_append]; omega) ?_
              refine d_cut [mv, (a : Int), ((b + 1 : Nat) : Int)] (by simp [cE2, sev, svl, cen] <;> omega) ?_
              exact stay (by omega)
          · simp only [cCmp, cE2, sev, svl, cen, List.cons_append, List.nil_append] at h
            first
            | omega
            | skip
              refine d_row 0 b (by simp only [cE2, sev, svl, cen, List.cons_append, List.nil_append]; omega) (by simp only [cE2, sev, svl, cen, List.cons_append, List.nil_append]; omega) (by omega) ?_
              refine d_row 0 a (by simp only [cE2, sev, svl, cen, List.cons_append, List.nil_append]; omega) (by simp only [cE2, sev, svl, cen, List.cons_append, List.nil_append]; omega) (by omega) ?_
              refine d_rng (by simp only [clo, chi, cE2, sev, svl, cen, List.cons_append, List.nil_append]; omega) ?_
              refine d_br (fun h => ?_) (fun h => ?_)
              · simp only [cCmp, cE2, sev, svl, cen, List.cons_append, List.nil_append] at h
                first
                | omega
                | skip
                  refine d_rng (by simp only [clo, chi, cE2, sev, svl, cen, List.cons_append, List.nil_append]; omega) ?_
                  refine d_cut [mv, (a : Int), ((b + 1 : Nat) : Int)] (by simp [cE2, sev, svl, cen] <;> omega) ?_
                  exact stay (by omega)
              · simp only [cCmp, cE2, sev, svl, cen, List.cons_append, List.nil_append] at h
                first
                | omega
                | skip
                  refine d_row 0 a (by simp only [cE2, sev, svl, cen, List.cons_append, List.nil_append]; omega) (by simp only [cE2, sev, svl, cen, List.cons_append, List.nil_append]; omega) (by omega) ?_
                  refine d_rng (by simp only [clo, chi, cE2, sev, svl, cen, List.cons_append, List.nil_append]; omega) ?_
                  refine d_set 0 b ((M 67 0 (6 * a + b)) + (M1 70 0 a)) (by simp only [cE2, sev, svl, cen, List.cons_append, List.nil_append]; omega) (by simp only [cE2, sev, svl, cen, List.cons_append, List.nil_append]; omega) (by omega) (by simp only [cE2, sev, svl, cen, List.cons_append, List.nil_append]; omega) ?_
                  refine d_rng (by simp only [clo, chi, cE2, sev, svl, cen, List.cons_append, List.nil_append]; omega) ?_
                  rw [Int.add_comm (M 67 0 (6 * a + b)) (M1 70 0 a)]
                  refine d_cut [1, (a : Int), ((b + 1 : Nat) : Int)] (by simp [cE2, sev, svl, cen] <;> omega) ?_
                  exact push (by omega)
  have l4 : ∀ (n a : Nat), a + n = 6 → ∀ (mv : Int) (M1 : SMem), (sI tg M1 ∧ (∀ f j i, f ≠ 70 → M1 f j i = M f j i) ∧ sPsh (M 67 0) (M 70 0) (M1 70 0) ∧ (∀ h, h < 6 → M1 70 0 h ≤ 20 + 6 * ((a : Nat) : Int) + ((0 : Nat) : Int)) ∧ ((mv = 0 ∧ (∀ h, h < 6 → M1 70 0 h = M 70 0 h) ∧ ∀ x y, x < 6 → y < 6 → 6 * x + y < 6 * a + 0 → 0 ≤ M 67 0 (6 * x + y) → M1 70 0 x + M 67 0 (6 * x + y) ≤ M1 70 0 y) ∨ (mv = 1 ∧ ∃ h, h < 6 ∧ M 70 0 h < M1 70 0 h))) → cEnds (cBG tm tf EX l dC dI cA ad scrS d) Po 90 gX6_pushBehind 4 [mv, (a : Int)] M1 := by
    intro n
    induction n with
    | zero =>
      intro a ha mv M1 hV
      have ea : a = 6 := by omega
      subst ea
      obtain ⟨v1, v2, v3, v4, v5⟩ := hV
      refine cEnds_at gX6_pushBehind_m4 rfl ?_
      refine d_br (fun h => ?_) (fun h => ?_)
      · refine wretb mv (by simp only [cE2, sev, svl, cen, List.cons_append, List.nil_append]; omega) (by omega) (hPo _ _ ⟨v1, v2, v3, fun h hh => by have := v4 h hh; omega, ?_⟩)
        rcases v5 with ⟨e, q1, q2⟩ | ⟨e, q⟩
        · refine Or.inl ⟨by rw [e], q1, fun x y hx hy hs => q2 x y hx hy (by omega) hs⟩
        · exact Or.inr ⟨by rw [e], q⟩
      · simp only [cCmp, cE2, sev, svl, cen, List.cons_append, List.nil_append] at h
        omega
    | succ n ih =>
      intro a ha mv M1 hV
      refine cEnds_at gX6_pushBehind_m4 rfl ?_
      refine d_br (fun h => ?_) (fun h => ?_)
      · simp only [cCmp, cE2, sev, svl, cen, List.cons_append, List.nil_append] at h
        omega
      · refine d_cut [mv, (a : Int), ((0 : Nat) : Int)] (by simp [cE2, sev, svl, cen] <;> omega) ?_
        exact l12 6 a 0 (by omega) (by omega) (fun mv' M1 hV' => ih (a + 1) (by omega) mv' M1 hV') mv M1 hV
  refine cEnds_at gX6_pushBehind_m0 rfl ?_
  refine d_cut [0, ((0 : Nat) : Int)] (by simp [cE2, sev, svl, cen] <;> omega) ?_
  exact l4 6 0 (by omega) 0 M ⟨hI, fun _ _ _ _ => rfl, sPsh_rf, fun h hh => by have := h9 h hh; omega, Or.inl ⟨rfl, fun _ _ => rfl, fun x y hx hy hxy => by omega⟩⟩
/-- whether there is a story -/
def sSum (E : Nat → Int) : Int := E 0 + E 1 + E 2 + E 3 + E 4 + E 5
theorem sSum_lt {E E' : Nat → Int} (h : ∀ k, k < 6 → E k ≤ E' k) (h2 : ∃ k, k < 6 ∧ E k < E' k) : sSum E < sSum E' := by
  have h0 := h 0 (by omega)
  have h1 := h 1 (by omega)
  have h3 := h 2 (by omega)
  have h4 := h 3 (by omega)
  have h5 := h 4 (by omega)
  have h6 := h 5 (by omega)
  obtain ⟨k, hk, hl⟩ := h2
  unfold sSum
  match k, hk, hl with
  | 0, _, hl => omega
  | 1, _, hl => omega
  | 2, _, hl => omega
  | 3, _, hl => omega
  | 4, _, hl => omega
  | 5, _, hl => omega
theorem b_isPossible (hp : cPl tm tc tf EX) {M : SMem} (hI : sI tg M) (hf : ∀ h, h < 6 → M 65 0 h ≤ 20) : cBG tm tf EX l dC dI cA ad scrS (d + 2) kX6_isPossible [(2, 7, 0)] M (fun rr MM => sI tg MM ∧ (∀ f j i, f ≠ 70 → MM f j i = M f j i) ∧ ((rr = [1] ∧ M 7 0 4 = 0 ∧ sRul (M 65 0) (M 66 0) (M 67 0) (MM 70 0) ∧ ∀ r, sRul (M 65 0) (M 66 0) (M 67 0) r → ∀ h, h < 6 → MM 70 0 h ≤ r h) ∨ (rr = [0] ∧ (M 7 0 4 ≠ 0 ∨ ∀ r, ¬ sRul (M 65 0) (M 66 0) (M 67 0) r)))) := by
  refine cMeth (v := []) (Fd := 90) hp (by decide) gX6_isPossible_ok gX6_isPossible_m0 (by simp [cAs, cE2, sev, svl, cen]) ?_
  suffices H : ∀ Po : List Int → SMem → Prop, (∀ rr MM, (sI tg MM ∧ (∀ f j i, f ≠ 70 → MM f j i = M f j i) ∧ ((rr = [1] ∧ M 7 0 4 = 0 ∧ sRul (M 65 0) (M 66 0) (M 67 0) (MM 70 0) ∧ ∀ r, sRul (M 65 0) (M 66 0) (M 67 0) r → ∀ h, h < 6 → MM 70 0 h ≤ r h) ∨ (rr = [0] ∧ (M 7 0 4 ≠ 0 ∨ ∀ r, ¬ sRul (M 65 0) (M 66 0) (M 67 0) r)))) → Po rr MM) → cEnds (cBG tm tf EX l dC dI cA ad scrS (d + 1)) Po 90 gX6_isPossible 0 [] M from H _ (fun _ _ h => h)
  intro Po hPo
  have ce : ∀ h, 0 ≤ M 66 0 h ∧ M 66 0 h ≤ 5 := fun h => wIb (f := 66) (i := h) (lo := 0) (hi := 5) hI 0 rfl
  have round : ∀ (n k : Nat) (M1 : SMem), k + n = 37 → M 7 0 4 = 0 → sI tg M1 → (∀ f j i, f ≠ 70 → M1 f j i = M f j i) → (∀ h, h < 6 → M 65 0 h ≤ M1 70 0 h) → (∀ h, h < 6 → M1 70 0 h ≤ 20) → (∀ r, sRul (M 65 0) (M 66 0) (M 67 0) r → ∀ h, h < 6 → M1 70 0 h ≤ r h) → (k = 0 ∨ ∀ h, h < 6 → M1 70 0 h ≤ M 66 0 h) → (k : Int) ≤ sSum (M1 70 0) → cEnds (cBG tm tf EX l dC dI cA ad scrS (d + 1)) Po 90 gX6_isPossible 26 [(k : Int)] M1 := by
    intro n
    induction n with
    | zero =>
      intro k M1 hk hb i1 f1 lo up ls cl sm
      have c0 := ce 0
      have c1 := ce 1
      have c2 := ce 2
      have c3 := ce 3
      have c4 := ce 4
      have c5 := ce 5
      rcases cl with z | z
      · omega
      · have z0 := z 0 (by omega)
        have z1 := z 1 (by omega)
        have z2 := z 2 (by omega)
        have z3 := z 3 (by omega)
        have z4 := z 4 (by omega)
        have z5 := z 5 (by omega)
        unfold sSum at sm
        omega
    | succ n ih =>
      intro k M1 hk hb i1 f1 lo up ls cl sm
      refine cEnds_at gX6_isPossible_m26 rfl ?_
      refine d_br (fun h => ?_) (fun h => ?_)
      · simp only [cCmp, cE2, sev, svl, cen, List.cons_append, List.nil_append] at h
        omega
      · refine d_call (b_pushBehind hp (M := M1) i1 up) (by simp [cAs, cE2, sev, svl, cen]) ?_
        intro rr M2 hq
        obtain ⟨i2, f2, ps, u2, hr⟩ := hq
        have e67 : M1 67 0 = M 67 0 := by
          funext i
          exact f1 67 0 i (by decide)
        rw [e67] at ps hr
        have f3 : ∀ f j i, f ≠ 70 → M2 f j i = M f j i := fun f j i z => (f2 f j i z).trans (f1 f j i z)
        have ls2 : ∀ r, sRul (M 65 0) (M 66 0) (M 67 0) r → ∀ h, h < 6 → M2 70 0 h ≤ r h := fun r hr => ps.2 r (ls r hr) hr.2
        obtain ⟨mv, rfl, hmv⟩ : ∃ mv : Int, rr = [mv] ∧ ((mv = 0 ∧ sSt (M 67 0) (M2 70 0)) ∨ (mv = 1 ∧ ∃ h, h < 6 ∧ M1 70 0 h < M2 70 0 h)) := by
          rcases hr with ⟨e, q⟩ | ⟨e, q⟩
          · exact ⟨0, e, Or.inl ⟨rfl, q.2⟩⟩
          · exact ⟨1, e, Or.inr ⟨rfl, q⟩⟩
        refine ⟨rfl, ?_⟩
        have chk : ∀ (m g : Nat), g + m = 6 → (∀ i, i < g → M2 70 0 i ≤ M 66 0 i) → cEnds (cBG tm tf EX l dC dI cA ad scrS (d + 1)) Po 90 gX6_isPossible 39 [(k : Int), mv, (g : Int)] M2 := by
          intro m
          induction m with
          | zero =>
            intro g hh hl
            have eh : g = 6 := by omega
            subst eh
            refine cEnds_at gX6_isPossible_m39 rfl ?_
            refine d_br (fun h => ?_) (fun h => ?_)
            · refine d_br (fun h => ?_) (fun h => ?_)
              · simp only [cCmp, cE2, sev, svl, cen, List.cons_append, List.nil_append] at h
                refine d_rng (by simp only [clo, chi, cE2, sev, svl, cen, List.cons_append, List.nil_append]; omega) ?_
                refine d_cut [((k + 1 : Nat) : Int)] (by simp [cE2, sev, svl, cen] <;> omega) ?_
                rcases hmv with ⟨z, -⟩ | ⟨-, z⟩
                · omega
                · refine ih (k + 1) M2 (by omega) hb i2 f3 (fun g hh => Int.le_trans (lo g hh) (ps.1 g hh)) (fun g hh => by have := hl g hh; have := ce g; omega) ls2 (Or.inr hl) ?_
                  have := sSum_lt ps.1 z
                  omega
              · simp only [cCmp, cE2, sev, svl, cen, List.cons_append, List.nil_append] at h
                rcases hmv with ⟨-, z⟩ | ⟨z, -⟩
                · exact d_ret [1] rfl (by decide) (hPo _ _ ⟨i2, f3, Or.inl ⟨rfl, hb, ⟨fun g hh => ⟨Int.le_trans (lo g hh) (ps.1 g hh), hl g hh⟩, z⟩, ls2⟩⟩)
                · omega
            · simp only [cCmp, cE2, sev, svl, cen, List.cons_append, List.nil_append] at h
              omega
          | succ m ihm =>
            intro g hh hl
            have e66 : M2 66 0 g = M 66 0 g := f3 66 0 g (by decide)
            refine cEnds_at gX6_isPossible_m39 rfl ?_
            refine d_br (fun h => ?_) (fun h => ?_)
            · simp only [cCmp, cE2, sev, svl, cen, List.cons_append, List.nil_append] at h
              first
              | omega
              | skip
                refine d_br (fun h => ?_) (fun h => ?_)
                · simp only [cCmp, cE2, sev, svl, cen, List.cons_append, List.nil_append] at h
                  first
                  | omega
                  | skip
                    refine d_rng (by simp only [clo, chi, cE2, sev, svl, cen, List.cons_append, List.nil_append]; omega) ?_
                    refine d_cut [((k : Int) + 1)] (by simp [cE2, sev, svl, cen] <;> omega) ?_
                    exact (by omega)
                · simp only [cCmp, cE2, sev, svl, cen, List.cons_append, List.nil_append] at h
                  first
                  | omega
                  | skip
                    exact d_ret [1] rfl (by decide) (by omega)
            · simp only [cCmp, cE2, sev, svl, cen, List.cons_append, List.nil_append] at h
              first
              | omega
              | skip
                refine d_row 0 g (by simp only [cE2, sev, svl, cen, List.cons_append, List.nil_append]; omega) (by simp only [cE2, sev, svl, cen, List.cons_append, List.nil_append]; omega) (by omega) ?_
                refine d_row 0 g (by simp only [cE2, sev, svl, cen, List.cons_append, List.nil_append]; omega) (by simp only [cE2, sev, svl, cen, List.cons_append, List.nil_append]; omega) (by omega) ?_
                rw [e66]
                refine d_br (fun h => ?_) (fun h => ?_)
                · simp only [cCmp, cE2, sev, svl, cen, List.cons_append, List.nil_append] at h
                  first
                  | omega
                  | skip
                    refine d_rng (by simp only [clo, chi, cE2, sev, svl, cen, List.cons_append, List.nil_append]; omega) ?_
                    refine d_cut [(k : Int), mv, ((g + 1 : Nat) : Int)] (by simp [cE2, sev, svl, cen] <;> omega) ?_
                    refine ihm (g + 1) (by omega) (fun i hi => ?_)
                    by_cases e : i = g
                    · rw [e]; omega
                    · exact hl i (by omega)
                · simp only [cCmp, cE2, sev, svl, cen, List.cons_append, List.nil_append] at h
                  first
                  | omega
                  | skip
                    exact d_ret [0] rfl (by decide) (hPo _ _ ⟨i2, f3, Or.inr ⟨rfl, Or.inr (fun r hr => by have := ls2 r hr g (by omega); have := (hr.1 g (by omega)).2; omega)⟩⟩)
        refine d_cut [(k : Int), mv, ((0 : Nat) : Int)] (by simp [cE2, sev, svl, cen] <;> omega) ?_
        exact chk 6 0 (by omega) (fun i hi => by omega)
  refine cEnds_at gX6_isPossible_m0 rfl ?_
  refine d_fld 0 (by simp only [cE2, sev, svl, cen, List.cons_append, List.nil_append]; omega) ?_
  refine d_br (fun h => ?_) (fun h => ?_)
  · simp only [cCmp, cE2, sev, svl, cen, List.cons_append, List.nil_append] at h
    refine d_cpy 0 0 6 (by simp only [cE2, sev, svl, cen, List.cons_append, List.nil_append]; omega) (by simp only [cE2, sev, svl, cen, List.cons_append, List.nil_append]; omega) (by simp only [cE2, sev, svl, cen, List.cons_append, List.nil_append]; omega) (by omega) (by omega) ?_
    refine d_cut [((0 : Nat) : Int)] (by simp [cE2, sev, svl, cen] <;> omega) ?_
    have er : ∀ k, k < 6 → sMcp M 65 0 70 0 6 70 0 k = M 65 0 k := fun k hk => if_pos ⟨rfl, rfl, hk⟩
    have hsI : ∀ n, sI tg (sMcp M 65 0 70 0 n) := by
      intro n
      induction n with
      | zero =>
        have e9 : sMcp M 65 0 70 0 0 = M := by
          funext f j i
          exact if_neg (fun q => by omega)
        rw [e9]
        exact hI
      | succ n ih => rw [smcp_s]; exact wI (lo := 0) (hi := 2147483647) ih rfl (wIb (lo := 0) (hi := 2147483647) hI 0 rfl)
    refine round 37 0 _ (by omega) (by omega) (hsI 6) (fun f j i z => if_neg (fun q => z q.1)) (fun h hh => by rw [er h hh]; exact Int.le_refl _) (fun h hh => by rw [er h hh]; exact hf h hh) (fun r hr h hh => by rw [er h hh]; exact (hr.1 h hh).1) (Or.inl rfl) ?_
    unfold sSum
    rw [er 0 (by omega), er 1 (by omega), er 2 (by omega), er 3 (by omega), er 4 (by omega), er 5 (by omega)]
    have d0 := wIb (f := 65) (i := 0) (lo := 0) (hi := 2147483647) hI 0 rfl
    have d1 := wIb (f := 65) (i := 1) (lo := 0) (hi := 2147483647) hI 0 rfl
    have d2 := wIb (f := 65) (i := 2) (lo := 0) (hi := 2147483647) hI 0 rfl
    have d3 := wIb (f := 65) (i := 3) (lo := 0) (hi := 2147483647) hI 0 rfl
    have d4 := wIb (f := 65) (i := 4) (lo := 0) (hi := 2147483647) hI 0 rfl
    have d5 := wIb (f := 65) (i := 5) (lo := 0) (hi := 2147483647) hI 0 rfl
    omega
  · simp only [cCmp, cE2, sev, svl, cen, List.cons_append, List.nil_append] at h
    exact d_ret [0] rfl (by decide) (hPo _ _ ⟨hI, fun _ _ _ _ => rfl, Or.inr ⟨rfl, Or.inl (by omega)⟩⟩)
end CS2
