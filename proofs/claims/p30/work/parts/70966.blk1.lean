/-! what the methods do: blocks put back -/
theorem wretb {E : Nat → List CA → SMem → (List Int → SMem → Prop) → Prop} {Qr : List Int → SMem → Prop} {C : Nat → List Int → SMem → Prop} {k b : Nat} {r : List CN} {v : List Int} {M : SMem} {x : SV} (z : Int) (hz : z = cE2 v x) (h1 : 0 ≤ z ∧ z ≤ 1) (h : Qr [z] M) : cden E Qr C (k + 1) ((10, 1, b, [x]) :: r) v M := by
  refine d_ret [z] (by simp [hz]) (fun y hy => ?_) h
  rw [List.mem_singleton.mp hy]
  exact h1
theorem d_opw {E : Nat → List CA → SMem → (List Int → SMem → Prop) → Prop} {Qr : List Int → SMem → Prop} {C : Nat → List Int → SMem → Prop} {n : Nat} {r : List CN} {v : List Int} {M : SMem} {a b : Nat} {x y : SV} (p q : Int) (h1 : cE2 v x = p) (h2 : cE2 v y = q) (h : cden E Qr C n r (v ++ [cfn a p q]) M) : cden E Qr C (n + 1) ((5, a, b, [x, y]) :: r) v M := by
  subst h1 h2
  exact h
noncomputable def wDc (P : Nat → Prop) (i : Nat) : Bool := @decide (P i) (Classical.propDecidable (P i))
theorem wDc_y {P : Nat → Prop} {i : Nat} (h : P i) : wDc P i = true := @decide_eq_true _ (Classical.propDecidable (P i)) h
theorem wDc_n {P : Nat → Prop} {i : Nat} (h : ¬ P i) : wDc P i = false := @decide_eq_false _ (Classical.propDecidable (P i)) h
theorem wDc_cg {P Q : Nat → Prop} {i : Nat} (h : P i ↔ Q i) : wDc P i = wDc Q i := by
  by_cases hp : P i
  · rw [wDc_y hp, wDc_y (h.mp hp)]
  · rw [wDc_n hp, wDc_n (fun q => hp (h.mpr q))]
theorem wDc_iff {P : Nat → Prop} {i : Nat} : wDc P i = true ↔ P i := by
  by_cases hp : P i
  · rw [wDc_y hp]; exact ⟨fun _ => hp, fun _ => rfl⟩
  · rw [wDc_n hp]; exact ⟨fun z => (by cases z), fun z => absurd z hp⟩
def wBt (b : Nat → Bool) : Nat → Int
  | 0 => 0
  | k + 1 => cond (b k) (cfn 1 (wBt b k) (cfn 2 1 (k : Int))) (wBt b k)
theorem wBt_y {b : Nat → Bool} {k : Nat} (h : b k = true) : wBt b (k + 1) = cfn 1 (wBt b k) (cfn 2 1 (k : Int)) := by
  show cond (b k) _ _ = _
  rw [h, cond_true]
theorem wBt_n {b : Nat → Bool} {k : Nat} (h : b k = false) : wBt b (k + 1) = wBt b k := by
  show cond (b k) _ _ = _
  rw [h, cond_false]
theorem i32r (x : Int32) : -2147483648 ≤ x.toInt ∧ x.toInt ≤ 2147483647 := by
  have h1 := Int32.le_toInt x
  have h2 := Int32.toInt_lt x
  constructor <;> omega
theorem wBt_r (b : Nat → Bool) : ∀ k, -2147483648 ≤ wBt b k ∧ wBt b k ≤ 2147483647 := by
  intro k
  induction k with
  | zero => exact ⟨show (-2147483648 : Int) ≤ 0 by decide, show (0 : Int) ≤ 2147483647 by decide⟩
  | succ k ih =>
    cases h : b k with
    | true =>
      rw [wBt_y h]
      exact i32r _
    | false => rw [wBt_n h]; exact ih
theorem cfn1_0 {x : Int} (h : -2147483648 ≤ x ∧ x ≤ 2147483647) : cfn 1 x 0 = x := by
  show (Int32.ofInt x ||| Int32.ofInt 0).toInt = x
  rw [show Int32.ofInt 0 = 0 from rfl, Int32.or_zero, Int32.toInt_ofInt_of_le (by omega) (by omega)]
theorem wBt_cg {b c : Nat → Bool} : ∀ k, (∀ i, i < k → b i = c i) → wBt b k = wBt c k := by
  intro k
  induction k with
  | zero => intro _; rfl
  | succ k ih =>
    intro h
    have e := ih (fun i hi => h i (by omega))
    show cond (b k) _ _ = cond (c k) _ _
    rw [e, h k (by omega)]
/-- six of them, by hand -/
def w6 (b0 b1 b2 b3 b4 b5 : Bool) (i : Nat) : Bool := match i with
  | 0 => b0
  | 1 => b1
  | 2 => b2
  | 3 => b3
  | 4 => b4
  | _ => b5
theorem w6_eq (b : Nat → Bool) : ∀ i, i < 6 → b i = w6 (b 0) (b 1) (b 2) (b 3) (b 4) (b 5) i := by
  intro i hi
  match i, hi with
  | 0, _ => rfl
  | 1, _ => rfl
  | 2, _ => rfl
  | 3, _ => rfl
  | 4, _ => rfl
  | 5, _ => rfl
theorem w6_or : ∀ (b0 b1 b2 b3 b4 b5 : Bool) (g : Fin 6), cfn 1 (wBt (w6 b0 b1 b2 b3 b4 b5) 6) (cfn 2 1 ((g.val : Nat) : Int)) = wBt (fun i => w6 b0 b1 b2 b3 b4 b5 i || Nat.beq i g.val) 6 := by decide +kernel
theorem wBt_or {S : Nat → Prop} {g : Nat} (hg : g < 6) : cfn 1 (wBt (wDc S) 6) (cfn 2 1 (g : Int)) = wBt (wDc (fun x => S x ∨ x = g)) 6 := by
  have e1 := wBt_cg 6 (w6_eq (wDc S))
  rw [e1, w6_or _ _ _ _ _ _ ⟨g, hg⟩]
  refine wBt_cg 6 (fun i hi => ?_)
  rw [← w6_eq (wDc S) i hi]
  by_cases h : i = g
  · rw [wDc_y (P := fun x => S x ∨ x = g) (Or.inr h), show Nat.beq i g = true from Nat.beq_eq.mpr h, Bool.or_true]
  · rw [show Nat.beq i g = false from by cases hb : Nat.beq i g with | true => exact absurd (Nat.beq_eq.mp hb) h | false => rfl, Bool.or_false]
    exact wDc_cg ⟨Or.inl, fun z => z.elim id (fun z => absurd z h)⟩
/-- one bit alone -/
theorem w6_one : ∀ (b0 b1 b2 b3 b4 b5 : Bool), 0 ≤ wBt (w6 b0 b1 b2 b3 b4 b5) 6 ∧ wBt (w6 b0 b1 b2 b3 b4 b5) 6 ≤ 63 := by decide +kernel
theorem wBt_63 (b : Nat → Bool) : 0 ≤ wBt b 6 ∧ wBt b 6 ≤ 63 := by
  rw [wBt_cg 6 (w6_eq b)]
  exact w6_one _ _ _ _ _ _
def bFree (u : Int) (g : Nat) : Prop := cfn 0 (cfn 3 u (g : Int)) 1 = 0
def bNext (u : Int) (g : Nat) : Int := cfn 1 u (cfn 2 1 (g : Int))
def bSu (T L R C : Nat → Int) (b g : Nat) : Prop := T (6 + g) ≠ 0 ∧ C b = C (6 + g) ∧ ((L b = L (6 + g) ∧ (R b = R (6 + g) ∨ R b = 0)) ∨ (R b = R (6 + g) ∧ L b = 0))
def bSum (F : Nat → Nat) : Nat → Nat
  | 0 => 0
  | g + 1 => bSum F g + F g
theorem bSum_le {F : Nat → Nat} {m : Nat} (h : ∀ g, F g ≤ m) : ∀ g, bSum F g ≤ g * m := by
  intro g
  induction g with
  | zero => exact Nat.zero_le _
  | succ g ih =>
    have := h g
    show bSum F g + F g ≤ (g + 1) * m
    rw [Nat.succ_mul]
    omega
theorem bSum_pos {F : Nat → Nat} : ∀ n, 0 < bSum F n ↔ ∃ g, g < n ∧ 0 < F g := by
  intro n
  induction n with
  | zero => exact ⟨fun h => absurd h (Nat.lt_irrefl 0), fun ⟨g, h, _⟩ => by omega⟩
  | succ n ih =>
    show 0 < bSum F n + F n ↔ _
    constructor
    · intro h
      by_cases z : 0 < F n
      · exact ⟨n, by omega, z⟩
      · obtain ⟨g, h1, h2⟩ := ih.mp (by omega)
        exact ⟨g, by omega, h2⟩
    · rintro ⟨g, h1, h2⟩
      by_cases z : g = n
      · subst z
        omega
      · have := ih.mpr ⟨g, by omega, h2⟩
        omega
noncomputable def bCnt (T L R C : Nat → Int) : Nat → Int → Nat
  | 0, _ => 1
  | r + 1, u => cond (wDc (fun b => T b ≠ 0) (5 - r)) (bSum (fun g => cond (wDc (fun g => bFree u g ∧ bSu T L R C (5 - r) g) g) (bCnt T L R C r (bNext u g)) 0) 6) (bCnt T L R C r u)
def bRc (T L R C : Nat → Int) : Nat → Int → Nat → Nat → Prop
  | 0, _, _, _ => False
  | r + 1, u, k, g => (T (5 - r) ≠ 0 ∧ ∃ g', g' < 6 ∧ bFree u g' ∧ bSu T L R C (5 - r) g' ∧ ((k = 5 - r ∧ g = g' ∧ 0 < bCnt T L R C r (bNext u g')) ∨ bRc T L R C r (bNext u g') k g)) ∨ (T (5 - r) = 0 ∧ bRc T L R C r u k g)
theorem bCnt_le {T L R C : Nat → Int} : ∀ r u, bCnt T L R C r u ≤ 6 ^ r := by
  intro r
  induction r with
  | zero => intro u; exact Nat.le_refl _
  | succ r ih =>
    intro u
    unfold bCnt
    cases wDc (fun b => T b ≠ 0) (5 - r) with
    | true =>
      rw [cond_true, Nat.pow_succ, Nat.mul_comm]
      refine bSum_le (fun g => ?_) 6
      cases wDc (fun g => bFree u g ∧ bSu T L R C (5 - r) g) g with
      | true => exact ih _
      | false => exact Nat.zero_le _
    | false =>
      rw [cond_false, Nat.pow_succ]
      have := ih u
      omega
theorem pow6 {r : Nat} (h : r ≤ 6) : 6 ^ r ≤ 46656 := Nat.le_trans (Nat.pow_le_pow_right (by decide) h) (by decide)
/-- what stands behind one more gap -/
theorem bCnt_t {T L R C : Nat → Int} {r : Nat} {u : Int} (h : T (5 - r) ≠ 0) : bCnt T L R C (r + 1) u = bSum (fun g => cond (wDc (fun g => bFree u g ∧ bSu T L R C (5 - r) g) g) (bCnt T L R C r (bNext u g)) 0) 6 := by
  show cond _ _ _ = _
  rw [wDc_y (P := fun b => T b ≠ 0) h, cond_true]
theorem bCnt_u {T L R C : Nat → Int} {r : Nat} {u : Int} (h : T (5 - r) = 0) : bCnt T L R C (r + 1) u = bCnt T L R C r u := by
  show cond _ _ _ = _
  rw [wDc_n (P := fun b => T b ≠ 0) (fun z => z h), cond_false]
theorem bRc_s {T L R C : Nat → Int} {r k g : Nat} {u : Int} : bRc T L R C (r + 1) u k g ↔ ((T (5 - r) ≠ 0 ∧ ∃ g', g' < 6 ∧ bFree u g' ∧ bSu T L R C (5 - r) g' ∧ ((k = 5 - r ∧ g = g' ∧ 0 < bCnt T L R C r (bNext u g')) ∨ bRc T L R C r (bNext u g') k g)) ∨ (T (5 - r) = 0 ∧ bRc T L R C r u k g)) := Iff.rfl
theorem bStep0 {T L R C : Nat → Int} {S : Nat → Nat → Prop} {b r g k i : Nat} {u : Int} (hy : bFree u g ∧ bSu T L R C b g) (h0 : bCnt T L R C r (bNext u g) = 0) : ((S k i ∨ ∃ g', g' < g ∧ bFree u g' ∧ bSu T L R C b g' ∧ ((k = b ∧ i = g' ∧ 0 < bCnt T L R C r (bNext u g')) ∨ bRc T L R C r (bNext u g') k i)) ∨ bRc T L R C r (bNext u g) k i) ↔ (S k i ∨ ∃ g', g' < (g + 1) ∧ bFree u g' ∧ bSu T L R C b g' ∧ ((k = b ∧ i = g' ∧ 0 < bCnt T L R C r (bNext u g')) ∨ bRc T L R C r (bNext u g') k i)) := by
  constructor
  · rintro ((z | ⟨g', z1, z2⟩) | z)
    · exact Or.inl z
    · exact Or.inr ⟨g', by omega, z2⟩
    · exact Or.inr ⟨g, by omega, hy.1, hy.2, Or.inr z⟩
  · rintro (z | ⟨g', z1, z2⟩)
    · exact Or.inl (Or.inl z)
    · by_cases e : g' = g
      · subst e
        rcases z2.2.2 with z3 | z3
        · omega
        · exact Or.inr z3
      · exact Or.inl (Or.inr ⟨g', by omega, z2⟩)
theorem bStep2 {T L R C : Nat → Int} {S : Nat → Nat → Prop} {b r g k i : Nat} {u : Int} (hy : bFree u g ∧ bSu T L R C b g) (h0 : k ≠ b) : ((S k i ∨ ∃ g', g' < g ∧ bFree u g' ∧ bSu T L R C b g' ∧ ((k = b ∧ i = g' ∧ 0 < bCnt T L R C r (bNext u g')) ∨ bRc T L R C r (bNext u g') k i)) ∨ bRc T L R C r (bNext u g) k i) ↔ (S k i ∨ ∃ g', g' < (g + 1) ∧ bFree u g' ∧ bSu T L R C b g' ∧ ((k = b ∧ i = g' ∧ 0 < bCnt T L R C r (bNext u g')) ∨ bRc T L R C r (bNext u g') k i)) := by
  constructor
  · rintro ((z | ⟨g', z1, z2⟩) | z)
    · exact Or.inl z
    · exact Or.inr ⟨g', by omega, z2⟩
    · exact Or.inr ⟨g, by omega, hy.1, hy.2, Or.inr z⟩
  · rintro (z | ⟨g', z1, z2⟩)
    · exact Or.inl (Or.inl z)
    · by_cases e : g' = g
      · subst e
        rcases z2.2.2 with z3 | z3
        · exact absurd z3.1 h0
        · exact Or.inr z3
      · exact Or.inl (Or.inr ⟨g', by omega, z2⟩)
theorem bStep1 {T L R C : Nat → Int} {S : Nat → Nat → Prop} {b r g i : Nat} {u : Int} (hy : bFree u g ∧ bSu T L R C b g) (h0 : 0 < bCnt T L R C r (bNext u g)) : (((S b i ∨ ∃ g', g' < g ∧ bFree u g' ∧ bSu T L R C b g' ∧ ((b = b ∧ i = g' ∧ 0 < bCnt T L R C r (bNext u g')) ∨ bRc T L R C r (bNext u g') b i)) ∨ bRc T L R C r (bNext u g) b i) ∨ i = g) ↔ (S b i ∨ ∃ g', g' < (g + 1) ∧ bFree u g' ∧ bSu T L R C b g' ∧ ((b = b ∧ i = g' ∧ 0 < bCnt T L R C r (bNext u g')) ∨ bRc T L R C r (bNext u g') b i)) := by
  constructor
  · rintro (((z | ⟨g', z1, z2⟩) | z) | z)
    · exact Or.inl z
    · exact Or.inr ⟨g', by omega, z2⟩
    · exact Or.inr ⟨g, by omega, hy.1, hy.2, Or.inr z⟩
    · exact Or.inr ⟨g, by omega, hy.1, hy.2, Or.inl ⟨rfl, z, h0⟩⟩
  · rintro (z | ⟨g', z1, z2⟩)
    · exact Or.inl (Or.inl (Or.inl z))
    · by_cases e : g' = g
      · subst e
        rcases z2.2.2 with z3 | z3
        · exact Or.inr z3.2.1
        · exact Or.inl (Or.inr z3)
      · exact Or.inl (Or.inl (Or.inr ⟨g', by omega, z2⟩))
theorem bStepU {T L R C : Nat → Int} {S : Nat → Nat → Prop} {r k i : Nat} {u : Int} (h : T (5 - r) = 0) : (S k i ∨ bRc T L R C r u k i) ↔ (S k i ∨ bRc T L R C (r + 1) u k i) := by
  have e : bRc T L R C (r + 1) u k i ↔ bRc T L R C r u k i := by
    rw [bRc_s]
    constructor
    · rintro (z | z)
      · exact absurd h z.1
      · exact z.2
    · intro z
      exact Or.inr ⟨h, z⟩
  rw [e]
section CB1
variable {EX : SEx} {l : Launch} {dC : Nat → ClassId} {dI : Nat → Nat → Nat} {cA : Nat → ClassId} {ad : SAd} {scrS d : Nat}
theorem b_isSuited (hp : cPl tm tc tf EX) {b g : Nat} {M : SMem} (hb : b < 6) (hg : g < 6) : cBG tm tf EX l dC dI cA ad scrS (d + 1) kX1_isSuited [(2, 11, 0), (0, 0, (b : Int)), (0, 0, (g : Int) + 6)] M (fun rr MM => MM = M ∧ ((rr = [1] ∧ (bSu (M 86 0) (M 87 0) (M 88 0) (M 89 0) b g)) ∨ (rr = [0] ∧ ¬ (bSu (M 86 0) (M 87 0) (M 88 0) (M 89 0) b g)))) := by
  unfold bSu
  rw [show 6 + g = g + 6 by omega]
  refine cMeth (v := [(b : Int), ((g : Int) + 6)]) (Fd := 90) hp (by decide) gX1_isSuited_ok gX1_isSuited_m0 (by simp [cAs, cE2, sev, svl, cen]) ?_
  refine cEnds_at gX1_isSuited_m0 rfl ?_
  refine d_row 0 ((g + 6)) (by simp only [cE2, sev, svl, cen, List.cons_append, List.nil_append]; omega) (by simp only [cE2, sev, svl, cen, List.cons_append, List.nil_append]; omega) (by omega) ?_
  refine d_br (fun h => ?_) (fun h => ?_)
  · simp only [cCmp, cE2, sev, svl, cen, List.cons_append, List.nil_append] at h
    first
    | omega
    | skip
      exact d_ret [0] rfl (by decide) ⟨rfl, Or.inr ⟨rfl, by omega⟩⟩
  · simp only [cCmp, cE2, sev, svl, cen, List.cons_append, List.nil_append] at h
    first
    | omega
    | skip
      refine d_row 0 b (by simp only [cE2, sev, svl, cen, List.cons_append, List.nil_append]; omega) (by simp only [cE2, sev, svl, cen, List.cons_append, List.nil_append]; omega) (by omega) ?_
      refine d_row 0 ((g + 6)) (by simp only [cE2, sev, svl, cen, List.cons_append, List.nil_append]; omega) (by simp only [cE2, sev, svl, cen, List.cons_append, List.nil_append]; omega) (by omega) ?_
      refine d_br (fun h => ?_) (fun h => ?_)
      · simp only [cCmp, cE2, sev, svl, cen, List.cons_append, List.nil_append] at h
        first
        | omega
        | skip
          refine d_row 0 b (by simp only [cE2, sev, svl, cen, List.cons_append, List.nil_append]; omega) (by simp only [cE2, sev, svl, cen, List.cons_append, List.nil_append]; omega) (by omega) ?_
          refine d_row 0 ((g + 6)) (by simp only [cE2, sev, svl, cen, List.cons_append, List.nil_append]; omega) (by simp only [cE2, sev, svl, cen, List.cons_append, List.nil_append]; omega) (by omega) ?_
          refine d_br (fun h => ?_) (fun h => ?_)
          · simp only [cCmp, cE2, sev, svl, cen, List.cons_append, List.nil_append] at h
            first
            | omega
            | skip
              refine d_row 0 b (by simp only [cE2, sev, svl, cen, List.cons_append, List.nil_append]; omega) (by simp only [cE2, sev, svl, cen, List.cons_append, List.nil_append]; omega) (by omega) ?_
              refine d_row 0 ((g + 6)) (by simp only [cE2, sev, svl, cen, List.cons_append, List.nil_append]; omega) (by simp only [cE2, sev, svl, cen, List.cons_append, List.nil_append]; omega) (by omega) ?_
              refine d_br (fun h => ?_) (fun h => ?_)
              · simp only [cCmp, cE2, sev, svl, cen, List.cons_append, List.nil_append] at h
                first
                | omega
                | skip
                  exact d_ret [0] rfl (by decide) ⟨rfl, Or.inr ⟨rfl, by omega⟩⟩
              · simp only [cCmp, cE2, sev, svl, cen, List.cons_append, List.nil_append] at h
                first
                | omega
                | skip
                  refine d_row 0 b (by simp only [cE2, sev, svl, cen, List.cons_append, List.nil_append]; omega) (by simp only [cE2, sev, svl, cen, List.cons_append, List.nil_append]; omega) (by omega) ?_
                  refine d_br (fun h => ?_) (fun h => ?_)
                  · simp only [cCmp, cE2, sev, svl, cen, List.cons_append, List.nil_append] at h
                    first
                    | omega
                    | skip
                      exact d_ret [0] rfl (by decide) ⟨rfl, Or.inr ⟨rfl, by omega⟩⟩
                  · simp only [cCmp, cE2, sev, svl, cen, List.cons_append, List.nil_append] at h
                    first
                    | omega
                    | skip
                      exact d_ret [1] rfl (by decide) ⟨rfl, Or.inl ⟨rfl, by omega⟩⟩
          · simp only [cCmp, cE2, sev, svl, cen, List.cons_append, List.nil_append] at h
            first
            | omega
            | skip
              refine d_row 0 b (by simp only [cE2, sev, svl, cen, List.cons_append, List.nil_append]; omega) (by simp only [cE2, sev, svl, cen, List.cons_append, List.nil_append]; omega) (by omega) ?_
              refine d_row 0 ((g + 6)) (by simp only [cE2, sev, svl, cen, List.cons_append, List.nil_append]; omega) (by simp only [cE2, sev, svl, cen, List.cons_append, List.nil_append]; omega) (by omega) ?_
              refine d_br (fun h => ?_) (fun h => ?_)
              · simp only [cCmp, cE2, sev, svl, cen, List.cons_append, List.nil_append] at h
                first
                | omega
                | skip
                  refine d_row 0 b (by simp only [cE2, sev, svl, cen, List.cons_append, List.nil_append]; omega) (by simp only [cE2, sev, svl, cen, List.cons_append, List.nil_append]; omega) (by omega) ?_
                  refine d_br (fun h => ?_) (fun h => ?_)
                  · simp only [cCmp, cE2, sev, svl, cen, List.cons_append, List.nil_append] at h
                    first
                    | omega
                    | skip
                      exact d_ret [1] rfl (by decide) ⟨rfl, Or.inl ⟨rfl, by omega⟩⟩
                  · simp only [cCmp, cE2, sev, svl, cen, List.cons_append, List.nil_append] at h
                    first
                    | omega
                    | skip
                      exact d_ret [0] rfl (by decide) ⟨rfl, Or.inr ⟨rfl, by omega⟩⟩
              · simp only [cCmp, cE2, sev, svl, cen, List.cons_append, List.nil_append] at h
                first
                | omega
                | skip
                  exact d_ret [1] rfl (by decide) ⟨rfl, Or.inl ⟨rfl, by omega⟩⟩
      · simp only [cCmp, cE2, sev, svl, cen, List.cons_append, List.nil_append] at h
        first
        | omega
        | skip
          exact d_ret [0] rfl (by decide) ⟨rfl, Or.inr ⟨rfl, by omega⟩⟩
theorem b_btell (hp : cPl tm tc tf EX) {a : Nat} {x y z : Int} {M : SMem} (ha : a < 12) : cBG tm tf EX l dC dI cA ad scrS (d + 1) kX1_tell [(2, 11, 0), (0, 0, (a : Int)), (0, 0, x), (0, 0, y), (0, 0, z)] M (fun rr MM => rr = [] ∧ MM = supd (supd (supd (supd (supd M 86 0 a 1) 87 0 a x) 88 0 a y) 89 0 a z) 11 0 6 0) := by
  refine cMeth (v := [(a : Int), x, y, z]) (Fd := 90) hp (by decide) gX1_tell_ok gX1_tell_m0 (by simp [cAs, cE2, sev, svl, cen]) ?_
  refine cEnds_at gX1_tell_m0 rfl ?_
  refine d_rng (by simp only [clo, chi, cE2, sev, svl, cen, List.cons_append, List.nil_append]; omega) ?_
  refine d_set 0 a 1 (by simp only [cE2, sev, svl, cen, List.cons_append, List.nil_append]; omega) (by simp only [cE2, sev, svl, cen, List.cons_append, List.nil_append]; omega) (by omega) (by simp only [cE2, sev, svl, cen, List.cons_append, List.nil_append]; omega) ?_
  refine d_set 0 a x (by simp only [cE2, sev, svl, cen, List.cons_append, List.nil_append]; omega) (by simp only [cE2, sev, svl, cen, List.cons_append, List.nil_append]; omega) (by omega) (by simp only [cE2, sev, svl, cen, List.cons_append, List.nil_append]; omega) ?_
  refine d_set 0 a y (by simp only [cE2, sev, svl, cen, List.cons_append, List.nil_append]; omega) (by simp only [cE2, sev, svl, cen, List.cons_append, List.nil_append]; omega) (by omega) (by simp only [cE2, sev, svl, cen, List.cons_append, List.nil_append]; omega) ?_
  refine d_set 0 a z (by simp only [cE2, sev, svl, cen, List.cons_append, List.nil_append]; omega) (by simp only [cE2, sev, svl, cen, List.cons_append, List.nil_append]; omega) (by omega) (by simp only [cE2, sev, svl, cen, List.cons_append, List.nil_append]; omega) ?_
  refine d_rng (by simp only [clo, chi, cE2, sev, svl, cen, List.cons_append, List.nil_append]; omega) ?_
  refine d_put 0 0 (by simp only [cE2, sev, svl, cen, List.cons_append, List.nil_append]; omega) (by simp only [cE2, sev, svl, cen, List.cons_append, List.nil_append]; omega) ?_
  exact d_ret [] rfl (by decide) ⟨rfl, rfl⟩
theorem b_layFrom (hp : cPl tm tc tf EX) {T L R C : Nat → Int} : ∀ (r : Nat), r ≤ 6 → ∀ (u : Int) (S : Nat → Nat → Prop) (M : SMem), sI tg M → M 86 0 = T → M 87 0 = L → M 88 0 = R → M 89 0 = C → (∀ k, k < 6 → M 90 0 k = wBt (wDc (S k)) 6) → cBG tm tf EX l dC dI cA ad scrS (d + r + 3) kX1_layFrom [(2, 11, 0), (0, 0, ((6 - r : Nat) : Int)), (0, 0, u)] M (fun rr MM => rr = [((bCnt T L R C r u : Nat) : Int)] ∧ sI tg MM ∧ (∀ f j i, f ≠ 90 → MM f j i = M f j i) ∧ ∀ k, k < 6 → MM 90 0 k = wBt (wDc (fun g => S k g ∨ bRc T L R C r u k g)) 6) := by
  intro r
  induction r with
  | zero =>
    intro _ u S M hI e86 e87 e88 e89 hS
    refine cMeth (v := [((6 - 0 : Nat) : Int), u]) (Fd := 90) hp (by decide) gX1_layFrom_ok gX1_layFrom_m0 (by simp [cAs, cE2, sev, svl, cen]) ?_
    refine cEnds_at gX1_layFrom_m0 rfl ?_
    refine d_br (fun h => ?_) (fun h => ?_)
    · simp only [cCmp, cE2, sev, svl, cen, List.cons_append, List.nil_append] at h
      omega
    · refine d_ret [1] rfl (by decide) ⟨rfl, hI, fun _ _ _ _ => rfl, fun k hk => ?_⟩
      rw [hS k hk]
      exact wBt_cg 6 (fun i _ => wDc_cg ⟨Or.inl, fun z => z.elim id False.elim⟩)
  | succ r ih =>
    intro h6 u S M hI e86 e87 e88 e89 hS
    obtain ⟨b, hb⟩ : ∃ b : Nat, b = 5 - r := ⟨_, rfl⟩
    have eb : (6 - (r + 1) : Nat) = b := by omega
    have eb1 : (6 - r : Nat) = b + 1 := by omega
    rw [eb]
    refine cMeth (v := [(b : Int), u]) (Fd := 90) hp (by decide) gX1_layFrom_ok gX1_layFrom_m0 (by simp [cAs, cE2, sev, svl, cen]) ?_
    have hT : M 86 0 b = T b := by rw [e86]
    have hc6 := pow6 (r := r) (by omega)
    have hcl := fun u => Nat.le_trans (bCnt_le (T := T) (L := L) (R := R) (C := C) r u) hc6
    suffices H : ∀ Po : List Int → SMem → Prop, (∀ rr MM, (rr = [((bCnt T L R C (r + 1) u : Nat) : Int)] ∧ sI tg MM ∧ (∀ f j i, f ≠ 90 → MM f j i = M f j i) ∧ ∀ k, k < 6 → MM 90 0 k = wBt (wDc (fun g => S k g ∨ bRc T L R C (r + 1) u k g)) 6) → Po rr MM) → cEnds (cBG tm tf EX l dC dI cA ad scrS (d + r + 3)) Po 90 gX1_layFrom 0 [(b : Int), u] M from H _ (fun _ _ h => h)
    intro Po hPo
    obtain ⟨F, hF⟩ : ∃ F : Nat → Nat, F = fun g => cond (wDc (fun g => bFree u g ∧ bSu T L R C (5 - r) g) g) (bCnt T L R C r (bNext u g)) 0 := ⟨_, rfl⟩
    have hFl : ∀ g, F g ≤ 46656 := fun g => by
      rw [hF]
      dsimp only
      cases wDc (fun g => bFree u g ∧ bSu T L R C (5 - r) g) g with
      | true => exact hcl _
      | false => exact Nat.zero_le _
    have hFy : ∀ g, bFree u g ∧ bSu T L R C b g → F g = bCnt T L R C r (bNext u g) := fun g z => by
      rw [hF]
      dsimp only
      rw [hb] at z
      rw [wDc_y (P := fun g => bFree u g ∧ bSu T L R C (5 - r) g) z, cond_true]
    have hFn : ∀ g, ¬ (bFree u g ∧ bSu T L R C b g) → F g = 0 := fun g z => by
      rw [hF]
      dsimp only
      rw [hb] at z
      rw [wDc_n (P := fun g => bFree u g ∧ bSu T L R C (5 - r) g) z, cond_false]
    have loop : T b ≠ 0 → ∀ (m g : Nat) (M1 : SMem), g + m = 6 → sI tg M1 → (∀ f j i, f ≠ 90 → M1 f j i = M f j i) → (∀ k, k < 6 → M1 90 0 k = wBt (wDc (fun x => S k x ∨ ∃ g', g' < g ∧ bFree u g' ∧ bSu T L R C b g' ∧ ((k = b ∧ x = g' ∧ 0 < bCnt T L R C r (bNext u g')) ∨ bRc T L R C r (bNext u g') k x))) 6) → cEnds (cBG tm tf EX l dC dI cA ad scrS (d + r + 3)) Po 90 gX1_layFrom 31 [(b : Int), u, ((bSum F g : Nat) : Int), (g : Int)] M1 := by
      intro hTb m
      induction m with
      | zero =>
        intro g M1 hg i1 f1 s1
        have c1 := bSum_le hFl g
        refine cEnds_at gX1_layFrom_m31 rfl ?_
        refine d_br (fun h => ?_) (fun h => ?_)
        · have eg : g = 6 := by omega
          subst eg
          refine wret1 ((bSum F 6 : Nat) : Int) (by simp only [cE2, sev, svl, cen, List.cons_append, List.nil_append]; omega) (by omega) (hPo _ _ ⟨?_, i1, f1, fun k hk => ?_⟩)
          · rw [bCnt_t (by rw [← hb]; exact hTb), hF]
          · rw [s1 k hk]
            refine wBt_cg 6 (fun i _ => wDc_cg ?_)
            show (S k i ∨ _) ↔ (S k i ∨ bRc T L R C (r + 1) u k i)
            rw [bRc_s, ← hb]
            constructor
            · rintro (z | z)
              · exact Or.inl z
              · exact Or.inr (Or.inl ⟨hTb, z⟩)
            · rintro (z | z | z)
              · exact Or.inl z
              · exact Or.inr z.2
              · exact absurd z.1 hTb
        · simp only [cCmp, cE2, sev, svl, cen, List.cons_append, List.nil_append] at h
          omega
      | succ m ihm =>
        intro g M1 hg i1 f1 s1
        have c1 := bSum_le hFl g
        have c2 := hFl g
        have es : bSum F (g + 1) = bSum F g + F g := rfl
        have t1 : M1 86 0 = T := by rw [← e86]; funext k; exact f1 86 0 k (by decide)
        have t2 : M1 87 0 = L := by rw [← e87]; funext k; exact f1 87 0 k (by decide)
        have t3 : M1 88 0 = R := by rw [← e88]; funext k; exact f1 88 0 k (by decide)
        have t4 : M1 89 0 = C := by rw [← e89]; funext k; exact f1 89 0 k (by decide)
        have skip : ¬ (bFree u g ∧ bSu T L R C b g) → cEnds (cBG tm tf EX l dC dI cA ad scrS (d + r + 3)) Po 90 gX1_layFrom 31 [(b : Int), u, ((bSum F g : Nat) : Int), ((g + 1 : Nat) : Int)] M1 := by
          intro hno
          have y := ihm (g + 1) M1 (by omega) i1 f1 (fun k hk => ?_)
          · rw [es, hFn g hno, Nat.add_zero] at y
            exact y
          · rw [s1 k hk]
            refine wBt_cg 6 (fun i _ => wDc_cg ?_)
            constructor
            · rintro (z | ⟨g', z1, z2⟩)
              · exact Or.inl z
              · exact Or.inr ⟨g', by omega, z2⟩
            · rintro (z | ⟨g', z1, z2⟩)
              · exact Or.inl z
              · by_cases e : g' = g
                · subst e
                  exact absurd ⟨z2.1, z2.2.1⟩ hno
                · exact Or.inr ⟨g', by omega, z2⟩
        refine cEnds_at gX1_layFrom_m31 rfl ?_
        refine d_br (fun h => ?_) (fun h => ?_)
        · simp only [cCmp, cE2, sev, svl, cen, List.cons_append, List.nil_append] at h
          exact wret1 ((bSum F g : Nat) : Int) (by simp only [cE2, sev, svl, cen, List.cons_append, List.nil_append]; omega) (by omega) (by omega)
        · simp only [cCmp, cE2, sev, svl, cen, List.cons_append, List.nil_append] at h
          refine d_opw u (g : Int) (by simp [cE2, sev, svl, cen] <;> omega) (by simp [cE2, sev, svl, cen] <;> omega) ?_
          refine d_opw (cfn 3 u (g : Int)) 1 (by simp [cE2, sev, svl, cen] <;> omega) (by simp [cE2, sev, svl, cen] <;> omega) ?_
          refine d_br (fun h => ?_) (fun h => ?_)
          · simp only [cCmp, cE2, sev, svl, cen, List.cons_append, List.nil_append] at h
            refine d_rng (by simp only [clo, chi, cE2, sev, svl, cen, List.cons_append, List.nil_append]; omega) ?_
            refine d_cut [(b : Int), u, ((bSum F g : Nat) : Int), ((g + 1 : Nat) : Int)] (by simp [cE2, sev, svl, cen] <;> omega) ?_
            exact skip (fun z => by have := z.1; unfold bFree at this; omega)
          · simp only [cCmp, cE2, sev, svl, cen, List.cons_append, List.nil_append] at h
            refine d_rng (by simp only [clo, chi, cE2, sev, svl, cen, List.cons_append, List.nil_append]; omega) ?_
            refine d_call (b_isSuited hp (b := b) (g := g) (by omega) (by omega)) (by simp [cAs, cE2, sev, svl, cen] <;> omega) ?_
            intro rr M' hq
            obtain ⟨hM', hq⟩ := hq
            rw [hM']
            rcases hq with ⟨rfl, q6⟩ | ⟨rfl, q6⟩
            · refine ⟨rfl, ?_⟩
              refine d_br (fun h => ?_) (fun h => ?_)
              · simp only [cCmp, cE2, sev, svl, cen, List.cons_append, List.nil_append] at h
                omega
              · clear h
                refine d_rng (by simp only [clo, chi, cE2, sev, svl, cen, List.cons_append, List.nil_append]; omega) ?_
                refine d_opw 1 (g : Int) (by simp [cE2, sev, svl, cen] <;> omega) (by simp [cE2, sev, svl, cen] <;> omega) ?_
                refine d_opw u (cfn 2 1 (g : Int)) (by simp [cE2, sev, svl, cen] <;> omega) (by simp [cE2, sev, svl, cen] <;> omega) ?_
                refine d_call (ih (by omega) (bNext u g) _ M1 i1 t1 t2 t3 t4 s1) (by simp [cAs, cE2, sev, svl, cen, bNext] <;> omega) ?_
                intro rr M' hq
                obtain ⟨rfl, i2, f2, s2⟩ := hq
                rw [t1, t2, t3, t4] at q6
                have hy : bFree u g ∧ bSu T L R C b g := ⟨by unfold bFree; omega, q6⟩
                have hc := hcl (bNext u g)
                have eF := hFy g hy
                refine ⟨rfl, ?_⟩
                refine d_br (fun h => ?_) (fun h => ?_)
                · simp only [cCmp, cE2, sev, svl, cen, List.cons_append, List.nil_append] at h
                  refine d_rng (by simp only [clo, chi, cE2, sev, svl, cen, List.cons_append, List.nil_append]; omega) ?_
                  refine d_rng (by simp only [clo, chi, cE2, sev, svl, cen, List.cons_append, List.nil_append]; omega) ?_
                  refine d_cut [(b : Int), u, ((bSum F (g + 1) : Nat) : Int), ((g + 1 : Nat) : Int)] (by simp [cE2, sev, svl, cen] <;> omega) ?_
                  exact ihm (g + 1) M' (by omega) i2 (fun f j i z => (f2 f j i z).trans (f1 f j i z)) (fun k hk => (s2 k hk).trans (wBt_cg 6 (fun i _ => wDc_cg (bStep0 hy (by omega)))))
                · simp only [cCmp, cE2, sev, svl, cen, List.cons_append, List.nil_append] at h
                  refine d_row 0 b (by simp only [cE2, sev, svl, cen, List.cons_append, List.nil_append]; omega) (by simp only [cE2, sev, svl, cen, List.cons_append, List.nil_append]; omega) (by omega) ?_
                  refine d_opw 1 (g : Int) (by simp [cE2, sev, svl, cen] <;> omega) (by simp [cE2, sev, svl, cen] <;> omega) ?_
                  refine d_opw (M' 90 0 b) (cfn 2 1 (g : Int)) (by simp [cE2, sev, svl, cen] <;> omega) (by simp [cE2, sev, svl, cen] <;> omega) ?_
                  refine d_set 0 b (cfn 1 (M' 90 0 b) (cfn 2 1 (g : Int))) (by simp only [cE2, sev, svl, cen, List.cons_append, List.nil_append]; omega) (by simp only [cE2, sev, svl, cen, List.cons_append, List.nil_append]; omega) (by omega) (by simp only [cE2, sev, svl, cen, List.cons_append, List.nil_append]; omega) ?_
                  refine d_rng (by simp only [clo, chi, cE2, sev, svl, cen, List.cons_append, List.nil_append]; omega) ?_
                  refine d_rng (by simp only [clo, chi, cE2, sev, svl, cen, List.cons_append, List.nil_append]; omega) ?_
                  refine d_cut [(b : Int), u, ((bSum F (g + 1) : Nat) : Int), ((g + 1 : Nat) : Int)] (by simp [cE2, sev, svl, cen] <;> omega) ?_
                  refine ihm (g + 1) _ (by omega) (wI (lo := -2147483648) (hi := 2147483647) i2 rfl (i32r _)) (fun f j i z => (supd_f z).trans ((f2 f j i z).trans (f1 f j i z))) (fun k hk => ?_)
                  by_cases ek : k = b
                  · rw [ek, supd_at, s2 b (by omega), wBt_or (by omega)]; exact wBt_cg 6 (fun i _ => wDc_cg (bStep1 hy (by omega)))
                  · rw [supd_i ek, s2 k hk]; exact wBt_cg 6 (fun i _ => wDc_cg (bStep2 hy ek))
            · refine ⟨rfl, ?_⟩
              refine d_br (fun h => ?_) (fun h => ?_)
              · clear h
                refine d_rng (by simp only [clo, chi, cE2, sev, svl, cen, List.cons_append, List.nil_append]; omega) ?_
                refine d_cut [(b : Int), u, ((bSum F g : Nat) : Int), ((g + 1 : Nat) : Int)] (by simp [cE2, sev, svl, cen] <;> omega) ?_
                rw [t1, t2, t3, t4] at q6
                exact skip (fun z => q6 z.2)
              · simp only [cCmp, cE2, sev, svl, cen, List.cons_append, List.nil_append] at h
                omega
    refine cEnds_at gX1_layFrom_m0 rfl ?_
    refine d_br (fun h => ?_) (fun h => ?_)
    · simp only [cCmp, cE2, sev, svl, cen, List.cons_append, List.nil_append] at h
      first
      | omega
      | skip
        refine d_row 0 b (by simp only [cE2, sev, svl, cen, List.cons_append, List.nil_append]; omega) (by simp only [cE2, sev, svl, cen, List.cons_append, List.nil_append]; omega) (by omega) ?_
        rw [hT]
        refine d_br (fun h => ?_) (fun h => ?_)
        · simp only [cCmp, cE2, sev, svl, cen, List.cons_append, List.nil_append] at h
          first
          | omega
          | skip
            refine d_cut [(b : Int), u, ((bSum F 0 : Nat) : Int), ((0 : Nat) : Int)] (by simp [cE2, sev, svl, cen, bSum]) ?_
            exact loop (by omega) 6 0 M (by omega) hI (fun _ _ _ _ => rfl) (fun k hk => (hS k hk).trans (wBt_cg 6 (fun i _ => wDc_cg ⟨Or.inl, fun z => z.elim id (fun ⟨g', z1, _⟩ => by omega)⟩)))
        · simp only [cCmp, cE2, sev, svl, cen, List.cons_append, List.nil_append] at h
          first
          | omega
          | skip
            refine d_rng (by simp only [clo, chi, cE2, sev, svl, cen, List.cons_append, List.nil_append]; omega) ?_
            refine d_call (ih (by omega) u S M hI e86 e87 e88 e89 hS) (by simp [cAs, cE2, sev, svl, cen] <;> omega) ?_
            intro rr M' hq
            obtain ⟨rfl, i2, f2, s2⟩ := hq
            have hc := hcl u
            refine ⟨rfl, ?_⟩
            exact wret1 ((bCnt T L R C r u : Nat) : Int) (by simp only [cE2, sev, svl, cen, List.cons_append, List.nil_append]; omega) (by omega) (hPo _ _ ⟨by rw [bCnt_u (by rw [← hb]; omega)], i2, f2, fun k hk => (s2 k hk).trans (wBt_cg 6 (fun i _ => wDc_cg (bStepU (by rw [← hb]; omega))))⟩)
    · simp only [cCmp, cE2, sev, svl, cen, List.cons_append, List.nil_append] at h
      first
      | omega
      | skip
        exact d_ret [1] rfl (by decide) (hPo _ _ (by omega))
end CB1
