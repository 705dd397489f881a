/-! stories: the least reign of names, floors and steps -/
def w8 (b0 b1 b2 b3 b4 b5 b6 b7 : Bool) (i : Nat) : Bool := match i with
  | 0 => b0
  | 1 => b1
  | 2 => b2
  | 3 => b3
  | 4 => b4
  | 5 => b5
  | 6 => b6
  | _ => b7
theorem w8_eq (b : Nat → Bool) : ∀ i, i < 8 → b i = w8 (b 0) (b 1) (b 2) (b 3) (b 4) (b 5) (b 6) (b 7) i := by
  intro i hi
  match i, hi with
  | 0, _ => rfl
  | 1, _ => rfl
  | 2, _ => rfl
  | 3, _ => rfl
  | 4, _ => rfl
  | 5, _ => rfl
  | 6, _ => rfl
  | 7, _ => rfl
theorem w8_bit : ∀ (b0 b1 b2 b3 b4 b5 b6 b7 : Bool) (g : Fin 8), cfn 0 (cfn 3 (wBt (w8 b0 b1 b2 b3 b4 b5 b6 b7) 8) ((g.val : Nat) : Int)) 1 = cond (w8 b0 b1 b2 b3 b4 b5 b6 b7 g.val) 1 0 := by decide +kernel
theorem wBt8_bit {b : Nat → Bool} {g : Nat} (hg : g < 8) : cfn 0 (cfn 3 (wBt b 8) (g : Int)) 1 = cond (b g) 1 0 := by
  rw [wBt_cg 8 (w8_eq b), w8_bit _ _ _ _ _ _ _ _ ⟨g, hg⟩, ← w8_eq b g hg]
theorem w6_bit : ∀ (b0 b1 b2 b3 b4 b5 : Bool) (g : Fin 6), cfn 0 (cfn 3 (wBt (w6 b0 b1 b2 b3 b4 b5) 6) ((g.val : Nat) : Int)) 1 = cond (w6 b0 b1 b2 b3 b4 b5 g.val) 1 0 := by decide +kernel
theorem wBt6_bit {b : Nat → Bool} {g : Nat} (hg : g < 6) : cfn 0 (cfn 3 (wBt b 6) (g : Int)) 1 = cond (b g) 1 0 := by
  rw [wBt_cg 6 (w6_eq b), w6_bit _ _ _ _ _ _ ⟨g, hg⟩, ← w6_eq b g hg]
def sLr (b : Nat → Bool) (R : Nat → Int) : Nat → Int
  | 0 => 6
  | k + 1 => cond (b k) (cfn 12 (sLr b R k) (R k)) (sLr b R k)
theorem cfn12 {a b : Int} : (b < a ∧ cfn 12 a b = b) ∨ (a ≤ b ∧ cfn 12 a b = a) := by
  show (b < a ∧ (if b < a then b else a) = b) ∨ (a ≤ b ∧ (if b < a then b else a) = a)
  by_cases h : b < a
  · rw [if_pos h]; exact Or.inl ⟨h, rfl⟩
  · rw [if_neg h]; exact Or.inr ⟨by omega, rfl⟩
theorem sLr_ls {b : Nat → Bool} {R : Nat → Int} (hR : ∀ n, 0 ≤ R n ∧ R n ≤ 5) : ∀ k, (∀ n, n < k → b n = true → sLr b R k ≤ R n) ∧ ((sLr b R k = 6 ∧ ∀ n, n < k → b n = false) ∨ ∃ n, n < k ∧ b n = true ∧ R n = sLr b R k) := by
  intro k
  induction k with
  | zero => exact ⟨fun n h => absurd h (Nat.not_lt_zero n), Or.inl ⟨rfl, fun n h => absurd h (Nat.not_lt_zero n)⟩⟩
  | succ k ih =>
    have hk := hR k
    cases hb : b k with
    | true =>
      have e : sLr b R (k + 1) = cfn 12 (sLr b R k) (R k) := by
        show cond (b k) _ _ = _
        rw [hb, cond_true]
      have m := @cfn12 (sLr b R k) (R k)
      rw [e]
      refine ⟨fun n hn hbn => ?_, Or.inr ?_⟩
      · by_cases en : n = k
        · subst en
          omega
        · have := ih.1 n (by omega) hbn
          omega
      · rcases m with ⟨-, m⟩ | ⟨m0, m⟩
        · exact ⟨k, by omega, hb, m.symm⟩
        · rcases ih.2 with ⟨q, -⟩ | ⟨n, q1, q2, q3⟩
          · omega
          · exact ⟨n, by omega, q2, by rw [m]; exact q3⟩
    | false =>
      have e : sLr b R (k + 1) = sLr b R k := by
        show cond (b k) _ _ = _
        rw [hb, cond_false]
      rw [e]
      refine ⟨fun n hn hbn => ?_, ?_⟩
      · by_cases en : n = k
        · subst en
          rw [hb] at hbn
          cases hbn
        · exact ih.1 n (by omega) hbn
      · rcases ih.2 with ⟨q, q2⟩ | ⟨n, q1, q2, q3⟩
        · refine Or.inl ⟨q, fun n hn => ?_⟩
          by_cases en : n = k
          · rw [en]; exact hb
          · exact q2 n (by omega)
        · exact Or.inr ⟨n, by omega, q2, q3⟩
section CS4
variable {EX : SEx} {l : Launch} {dC : Nat → ClassId} {dI : Nat → Nat → Nat} {cA : Nat → ClassId} {ad : SAd} {scrS d : Nat}
theorem b_leastReign (hp : cPl tm tc tf EX) {b : Nat → Bool} {M : SMem} (hI : sI tg M) : cBG tm tf EX l dC dI cA ad scrS (d + 1) kX2_leastReign [(2, 4, 0), (0, 0, wBt b 8)] M (fun rr MM => MM = M ∧ rr = [sLr b (M 60 0) 8]) := by
  refine cMeth (v := [wBt b 8]) (Fd := 90) hp (by decide) gX2_leastReign_ok gX2_leastReign_m0 (by simp [cAs, cE2, sev, svl, cen]) ?_
  have hR : ∀ n, 0 ≤ M 60 0 n ∧ M 60 0 n ≤ 5 := fun n => wIb (f := 60) (i := n) (lo := 0) (hi := 5) hI 0 rfl
  have rng : ∀ k, 0 ≤ sLr b (M 60 0) k ∧ sLr b (M 60 0) k ≤ 6 := fun k => by
    rcases (sLr_ls (b := b) hR k).2 with ⟨q, -⟩ | ⟨n, -, -, q⟩
    · omega
    · have := hR n
      omega
  have loop : ∀ (m k : Nat), k + m = 8 → cEnds (cBG tm tf EX l dC dI cA ad scrS d) (fun rr MM => MM = M ∧ rr = [sLr b (M 60 0) 8]) 90 gX2_leastReign 5 [wBt b 8, sLr b (M 60 0) k, (k : Int)] M := by
    intro m
    induction m with
    | zero =>
      intro k hk
      have br := rng k
      refine cEnds_at gX2_leastReign_m5 rfl ?_
      refine d_br (fun h => ?_) (fun h => ?_)
      · exact wret1 (sLr b (M 60 0) k) (by simp only [cE2, sev, svl, cen, List.cons_append, List.nil_append]; omega) (by omega) ⟨rfl, by rw [show k = 8 by omega]⟩
      · simp only [cCmp, cE2, sev, svl, cen, List.cons_append, List.nil_append] at h
        omega
    | succ m ih =>
      intro k hk
      have bt := wBt8_bit (b := b) (g := k) (by omega)
      refine cEnds_at gX2_leastReign_m5 rfl ?_
      cases hb : b k with
      | true =>
        have e : sLr b (M 60 0) (k + 1) = cfn 12 (sLr b (M 60 0) k) (M 60 0 k) := by
          show cond (b k) _ _ = _
          rw [hb, cond_true]
        rw [hb, cond_true] at bt
        refine d_br (fun h => ?_) (fun h => ?_)
        · simp only [cCmp, cE2, sev, svl, cen, List.cons_append, List.nil_append] at h
          first
          | omega
          | skip
            exact wret1 (sLr b (M 60 0) k) (by simp only [cE2, sev, svl, cen, List.cons_append, List.nil_append]; omega) (by omega) (by omega)
        · simp only [cCmp, cE2, sev, svl, cen, List.cons_append, List.nil_append] at h
          first
          | omega
          | skip
            refine d_opw (wBt b 8) (k : Int) (by simp [cE2, sev, svl, cen] <;> omega) (by simp [cE2, sev, svl, cen] <;> omega) ?_
            refine d_opw (cfn 3 (wBt b 8) (k : Int)) 1 (by simp [cE2, sev, svl, cen] <;> omega) (by simp [cE2, sev, svl, cen] <;> omega) ?_
            rw [bt]
            refine d_br (fun h => ?_) (fun h => ?_)
            · simp only [cCmp, cE2, sev, svl, cen, List.cons_append, List.nil_append] at h
              omega
            · clear h
              refine d_row 0 k (by simp only [cE2, sev, svl, cen, List.cons_append, List.nil_append]; omega) (by simp only [cE2, sev, svl, cen, List.cons_append, List.nil_append]; omega) (by omega) ?_
              refine d_opw (sLr b (M 60 0) k) (M 60 0 k) (by simp [cE2, sev, svl, cen] <;> omega) (by simp [cE2, sev, svl, cen] <;> omega) ?_
              refine d_rng (by simp only [clo, chi, cE2, sev, svl, cen, List.cons_append, List.nil_append]; omega) ?_
              rw [← e]
              refine d_cut [wBt b 8, sLr b (M 60 0) (k + 1), ((k + 1 : Nat) : Int)] (by simp [cE2, sev, svl, cen] <;> omega) ?_
              exact ih (k + 1) (by omega)
      | false =>
        have e : sLr b (M 60 0) (k + 1) = sLr b (M 60 0) k := by
          show cond (b k) _ _ = _
          rw [hb, cond_false]
        rw [hb, cond_false] at bt
        refine d_br (fun h => ?_) (fun h => ?_)
        · simp only [cCmp, cE2, sev, svl, cen, List.cons_append, List.nil_append] at h
          first
          | omega
          | skip
            exact wret1 (sLr b (M 60 0) k) (by simp only [cE2, sev, svl, cen, List.cons_append, List.nil_append]; omega) (by omega) (by omega)
        · simp only [cCmp, cE2, sev, svl, cen, List.cons_append, List.nil_append] at h
          first
          | omega
          | skip
            refine d_opw (wBt b 8) (k : Int) (by simp [cE2, sev, svl, cen] <;> omega) (by simp [cE2, sev, svl, cen] <;> omega) ?_
            refine d_opw (cfn 3 (wBt b 8) (k : Int)) 1 (by simp [cE2, sev, svl, cen] <;> omega) (by simp [cE2, sev, svl, cen] <;> omega) ?_
            rw [bt]
            refine d_br (fun h => ?_) (fun h => ?_)
            · clear h
              refine d_rng (by simp only [clo, chi, cE2, sev, svl, cen, List.cons_append, List.nil_append]; omega) ?_
              rw [← e]
              refine d_cut [wBt b 8, sLr b (M 60 0) (k + 1), ((k + 1 : Nat) : Int)] (by simp [cE2, sev, svl, cen] <;> omega) ?_
              exact ih (k + 1) (by omega)
            · simp only [cCmp, cE2, sev, svl, cen, List.cons_append, List.nil_append] at h
              omega
  refine cEnds_at gX2_leastReign_m0 rfl ?_
  refine d_cut [wBt b 8, sLr b (M 60 0) 0, ((0 : Nat) : Int)] (by simp [cE2, sev, svl, cen, sLr]) ?_
  exact loop 8 0 (by omega)
theorem b_raise (hp : cPl tm tc tf EX) {h : Nat} {x : Int} {M : SMem} (hh : h < 6) : cBG tm tf EX l dC dI cA ad scrS (d + 1) kX6_raise [(2, 7, 0), (0, 0, (h : Int)), (0, 0, x)] M (fun rr MM => rr = [] ∧ MM = supd M 65 0 h (cfn 11 (M 65 0 h) x)) := by
  refine cMeth (v := [(h : Int), x]) (Fd := 90) hp (by decide) gX6_raise_ok gX6_raise_m0 (by simp [cAs, cE2, sev, svl, cen]) ?_
  refine cEnds_at gX6_raise_m0 rfl ?_
  refine d_row 0 h (by simp only [cE2, sev, svl, cen, List.cons_append, List.nil_append]; omega) (by simp only [cE2, sev, svl, cen, List.cons_append, List.nil_append]; omega) (by omega) ?_
  refine d_opw (M 65 0 h) x (by simp [cE2, sev, svl, cen] <;> omega) (by simp [cE2, sev, svl, cen] <;> omega) ?_
  refine d_set 0 h (cfn 11 (M 65 0 h) x) (by simp only [cE2, sev, svl, cen, List.cons_append, List.nil_append]; omega) (by simp only [cE2, sev, svl, cen, List.cons_append, List.nil_append]; omega) (by omega) (by simp only [cE2, sev, svl, cen, List.cons_append, List.nil_append]; omega) ?_
  exact d_ret [] rfl (by decide) ⟨rfl, rfl⟩
theorem b_addStep (hp : cPl tm tc tf EX) {a b : Nat} {x : Int} {M : SMem} (ha : a < 6) (hb : b < 6) : cBG tm tf EX l dC dI cA ad scrS (d + 1) kX6_addStep [(2, 7, 0), (0, 0, (a : Int)), (0, 0, (b : Int)), (0, 0, x)] M (fun rr MM => rr = [] ∧ MM = supd M 67 0 (6 * a + b) (cfn 11 (M 67 0 (6 * a + b)) x)) := by
  refine cMeth (v := [(a : Int), (b : Int), x]) (Fd := 90) hp (by decide) gX6_addStep_ok gX6_addStep_m0 (by simp [cAs, cE2, sev, svl, cen]) ?_
  refine cEnds_at gX6_addStep_m0 rfl ?_
  refine d_rng (by simp only [clo, chi, cE2, sev, svl, cen, List.cons_append, List.nil_append]; omega) ?_
  refine d_rng (by simp only [clo, chi, cE2, sev, svl, cen, List.cons_append, List.nil_append]; omega) ?_
  refine d_row 0 (6 * a + b) (by simp only [cE2, sev, svl, cen, List.cons_append, List.nil_append]; omega) (by simp only [cE2, sev, svl, cen, List.cons_append, List.nil_append]; omega) (by omega) ?_
  refine d_opw (M 67 0 (6 * a + b)) x (by simp [cE2, sev, svl, cen] <;> omega) (by simp [cE2, sev, svl, cen] <;> omega) ?_
  refine d_set 0 (6 * a + b) (cfn 11 (M 67 0 (6 * a + b)) x) (by simp only [cE2, sev, svl, cen, List.cons_append, List.nil_append]; omega) (by simp only [cE2, sev, svl, cen, List.cons_append, List.nil_append]; omega) (by omega) (by simp only [cE2, sev, svl, cen, List.cons_append, List.nil_append]; omega) ?_
  exact d_ret [] rfl (by decide) ⟨rfl, rfl⟩
theorem b_isBusy (hp : cPl tm tc tf EX) {b : Nat → Bool} {h : Nat} {M : SMem} (hh : h < 6) (hb : M 7 0 3 = wBt b 6) : cBG tm tf EX l dC dI cA ad scrS (d + 1) kX6_isBusy [(2, 7, 0), (0, 0, (h : Int))] M (fun rr MM => MM = M ∧ ((rr = [1] ∧ (b h = true)) ∨ (rr = [0] ∧ ¬ (b h = true)))) := by
  have bt := wBt6_bit (b := b) (g := h) hh
  cases hbb : b h with
  | true =>
    rw [hbb, cond_true] at bt
    refine cMeth (v := [(h : Int)]) (Fd := 90) hp (by decide) gX6_isBusy_ok gX6_isBusy_m0 (by simp [cAs, cE2, sev, svl, cen]) ?_
    refine cEnds_at gX6_isBusy_m0 rfl ?_
    refine d_fld 0 (by simp only [cE2, sev, svl, cen, List.cons_append, List.nil_append]; omega) ?_
    rw [hb]
    refine d_opw (wBt b 6) (h : Int) (by simp [cE2, sev, svl, cen] <;> omega) (by simp [cE2, sev, svl, cen] <;> omega) ?_
    refine d_opw (cfn 3 (wBt b 6) (h : Int)) 1 (by simp [cE2, sev, svl, cen] <;> omega) (by simp [cE2, sev, svl, cen] <;> omega) ?_
    rw [bt]
    refine d_br (fun h => ?_) (fun h => ?_)
    · simp only [cCmp, cE2, sev, svl, cen, List.cons_append, List.nil_append] at h
      omega
    · clear h
      exact d_ret [1] rfl (by decide) ⟨rfl, Or.inl ⟨rfl, rfl⟩⟩
  | false =>
    rw [hbb, cond_false] at bt
    refine cMeth (v := [(h : Int)]) (Fd := 90) hp (by decide) gX6_isBusy_ok gX6_isBusy_m0 (by simp [cAs, cE2, sev, svl, cen]) ?_
    refine cEnds_at gX6_isBusy_m0 rfl ?_
    refine d_fld 0 (by simp only [cE2, sev, svl, cen, List.cons_append, List.nil_append]; omega) ?_
    rw [hb]
    refine d_opw (wBt b 6) (h : Int) (by simp [cE2, sev, svl, cen] <;> omega) (by simp [cE2, sev, svl, cen] <;> omega) ?_
    refine d_opw (cfn 3 (wBt b 6) (h : Int)) 1 (by simp [cE2, sev, svl, cen] <;> omega) (by simp [cE2, sev, svl, cen] <;> omega) ?_
    rw [bt]
    refine d_br (fun h => ?_) (fun h => ?_)
    · clear h
      exact d_ret [0] rfl (by decide) ⟨rfl, Or.inr ⟨rfl, fun z => by cases z⟩⟩
    · simp only [cCmp, cE2, sev, svl, cen, List.cons_append, List.nil_append] at h
      omega
end CS4
