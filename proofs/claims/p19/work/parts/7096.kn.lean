/-! what the methods do: what is known of a name -/
def wKn (D G H W S : Nat → Int) (a w : Int) : Int := if 0 ≤ a ∧ a < 8 ∧ D a.toNat ≠ 0 then (if w = 0 then G a.toNat else if w = 1 then (if H a.toNat = 0 then 0 else 1) else if w = 2 then W a.toNat else if w = 3 then S a.toNat else -1) else -1
theorem wKn_no {D G H W S : Nat → Int} {a w : Int} (h : ¬ (0 ≤ a ∧ a < 8 ∧ D a.toNat ≠ 0)) : wKn D G H W S a w = -1 := if_neg h
theorem wKn_ot {D G H W S : Nat → Int} {a w : Int} (h : w < 0 ∨ 3 < w) : wKn D G H W S a w = -1 := by
  unfold wKn
  split
  · rw [if_neg (by omega), if_neg (by omega), if_neg (by omega), if_neg (by omega)]
  · rfl
section CKN
variable {EX : SEx} {l : Launch} {dC : Nat → ClassId} {dI : Nat → Nat → Nat} {cA : Nat → ClassId} {ad : SAd} {scrS d : Nat}
theorem b_isTold (hp : cPl tm tc tf EX) {a : Int} {M : SMem} : cBG tm tf EX l dC dI cA ad scrS (d + 2) kX2_isTold [(2, 4, 0), (0, 0, a)] M (fun rr MM => MM = M ∧ ((rr = [1] ∧ (0 ≤ a ∧ a < 8 ∧ M 58 0 a.toNat ≠ 0)) ∨ (rr = [0] ∧ ¬ (0 ≤ a ∧ a < 8 ∧ M 58 0 a.toNat ≠ 0)))) := by
  refine cMeth (v := [a]) (Fd := 40) hp (by decide) gX2_isTold_ok gX2_isTold_m0 (by simp [cAs, cE2, sev, svl, cen]) ?_
  refine cEnds_at gX2_isTold_m0 rfl ?_
  refine d_call (b_isBelow hp (x := a) (y := 8)) (by simp [cAs, cE2, sev, svl, cen]) ?_
  rintro rr M' ⟨rfl, hb⟩
  rcases hb with ⟨rfl, ha⟩ | ⟨rfl, ha⟩
  · refine ⟨rfl, ?_⟩
    refine d_br (fun h => ?_) (fun h => ?_)
    · simp only [cCmp, cE2, sev, svl, cen, List.cons_append, List.nil_append] at h
      omega
    · refine d_row 0 a.toNat (by simp only [cE2, sev, svl, cen, List.cons_append, List.nil_append]; omega) (by simp only [cE2, sev, svl, cen, List.cons_append, List.nil_append]; omega) (by omega) ?_
      refine d_br (fun h => ?_) (fun h => ?_)
      · simp only [cCmp, cE2, sev, svl, cen, List.cons_append, List.nil_append] at h
        exact d_ret [0] rfl (by decide) ⟨rfl, Or.inr ⟨rfl, by omega⟩⟩
      · simp only [cCmp, cE2, sev, svl, cen, List.cons_append, List.nil_append] at h
        exact d_ret [1] rfl (by decide) ⟨rfl, Or.inl ⟨rfl, by omega⟩⟩
  · refine ⟨rfl, ?_⟩
    refine d_br (fun h => ?_) (fun h => ?_)
    · exact d_ret [0] rfl (by decide) ⟨rfl, Or.inr ⟨rfl, by omega⟩⟩
    · simp only [cCmp, cE2, sev, svl, cen, List.cons_append, List.nil_append] at h
      omega
theorem m_isName (hp : cPl tm tc tf EX) {a : Int} {M : SMem} : cBG tm tf EX l dC dI cA ad scrS (d + 2) kX10_isName [(2, 1, 0), (0, 0, a)] M (fun rr MM => MM = M ∧ ((rr = [1] ∧ (0 ≤ a ∧ a < 8 ∧ M 17 0 a.toNat ≠ 0)) ∨ (rr = [0] ∧ ¬ (0 ≤ a ∧ a < 8 ∧ M 17 0 a.toNat ≠ 0)))) := by
  refine cMeth (v := [a]) (Fd := 40) hp (by decide) gX10_isName_ok gX10_isName_m0 (by simp [cAs, cE2, sev, svl, cen]) ?_
  refine cEnds_at gX10_isName_m0 rfl ?_
  refine d_call (m_within hp (x := a) (y := 0) (z := 7)) (by simp [cAs, cE2, sev, svl, cen]) ?_
  rintro rr M' ⟨rfl, hb⟩
  rcases hb with ⟨rfl, ha⟩ | ⟨rfl, ha⟩
  · refine ⟨rfl, ?_⟩
    refine d_br (fun h => ?_) (fun h => ?_)
    · simp only [cCmp, cE2, sev, svl, cen, List.cons_append, List.nil_append] at h
      omega
    · refine d_row 0 a.toNat (by simp only [cE2, sev, svl, cen, List.cons_append, List.nil_append]; omega) (by simp only [cE2, sev, svl, cen, List.cons_append, List.nil_append]; omega) (by omega) ?_
      refine d_br (fun h => ?_) (fun h => ?_)
      · simp only [cCmp, cE2, sev, svl, cen, List.cons_append, List.nil_append] at h
        exact d_ret [0] rfl (by decide) ⟨rfl, Or.inr ⟨rfl, by omega⟩⟩
      · simp only [cCmp, cE2, sev, svl, cen, List.cons_append, List.nil_append] at h
        exact d_ret [1] rfl (by decide) ⟨rfl, Or.inl ⟨rfl, by omega⟩⟩
  · refine ⟨rfl, ?_⟩
    refine d_br (fun h => ?_) (fun h => ?_)
    · exact d_ret [0] rfl (by decide) ⟨rfl, Or.inr ⟨rfl, by omega⟩⟩
    · simp only [cCmp, cE2, sev, svl, cen, List.cons_append, List.nil_append] at h
      omega
theorem wret1 {E : Nat → List CA → SMem → (List Int → SMem → Prop) → Prop} {Qr : List Int → SMem → Prop} {C : Nat → List Int → SMem → Prop} {k b : Nat} {r : List CN} {v : List Int} {M : SMem} {x : SV} (z : Int) (hz : z = cE2 v x) (h1 : -2147483648 ≤ z ∧ z ≤ 2147483647) (h : Qr [z] M) : cden E Qr C (k + 1) ((10, 0, b, [x]) :: r) v M := by
  refine d_ret [z] (by simp [hz]) (fun y hy => ?_) h
  rw [List.mem_singleton.mp hy]
  exact h1
theorem b_known (hp : cPl tm tc tf EX) {a w : Int} {M : SMem} (hI : sI tg M) : cBG tm tf EX l dC dI cA ad scrS (d + 3) kX9_known [(2, 0, 0), (0, 0, a), (0, 0, w)] M (fun rr MM => MM = M ∧ rr = [wKn (M 58 0) (M 60 0) (M 59 0) (M 62 0) (M 61 0) a w]) := by
  refine cMeth (v := [a, w]) (Fd := 60) hp (by decide) gX9_known_ok gX9_known_m0 (by simp [cAs, cE2, sev, svl, cen]) ?_
  refine cEnds_at gX9_known_m0 rfl ?_
  refine d_call (b_isTold hp (a := a)) (by simp [cAs, cE2, sev, svl, cen]) ?_
  rintro rr M' ⟨rfl, hb⟩
  rcases hb with ⟨rfl, ha⟩ | ⟨rfl, ha⟩
  · refine ⟨rfl, ?_⟩
    have b60 := wIb (f := 60) (i := a.toNat) (lo := 0) (hi := 5) hI 0 rfl
    have b61 := wIb (f := 61) (i := a.toNat) (lo := 0) (hi := 8) hI 0 rfl
    have b62 := wIb (f := 62) (i := a.toNat) (lo := -2147483648) (hi := 2147483647) hI 0 rfl
    have e : wKn (M' 58 0) (M' 60 0) (M' 59 0) (M' 62 0) (M' 61 0) a w = (if w = 0 then M' 60 0 a.toNat else if w = 1 then (if M' 59 0 a.toNat = 0 then 0 else 1) else if w = 2 then M' 62 0 a.toNat else if w = 3 then M' 61 0 a.toNat else -1) := if_pos ha
    refine d_br (fun h => ?_) (fun h => ?_)
    · refine d_br (fun h => ?_) (fun h => ?_)
      · simp only [cCmp, cE2, sev, svl, cen, List.cons_append, List.nil_append] at h
        exact wret1 (-1) (by simp only [cE2, sev, svl, cen, List.cons_append, List.nil_append]; omega) (by omega) ⟨rfl, by rw [wKn_ot (Or.inl (by omega))]⟩
      · simp only [cCmp, cE2, sev, svl, cen, List.cons_append, List.nil_append] at h
        refine d_br (fun h => ?_) (fun h => ?_)
        · simp only [cCmp, cE2, sev, svl, cen, List.cons_append, List.nil_append] at h
          exact wret1 (-1) (by simp only [cE2, sev, svl, cen, List.cons_append, List.nil_append]; omega) (by omega) ⟨rfl, by rw [wKn_ot (Or.inr (by omega))]⟩
        · simp only [cCmp, cE2, sev, svl, cen, List.cons_append, List.nil_append] at h
          refine d_br (fun h => ?_) (fun h => ?_)
          · simp only [cCmp, cE2, sev, svl, cen, List.cons_append, List.nil_append] at h
            refine d_row 0 a.toNat (by simp only [cE2, sev, svl, cen, List.cons_append, List.nil_append]; omega) (by simp only [cE2, sev, svl, cen, List.cons_append, List.nil_append]; omega) (by omega) ?_
            exact wret1 (M' 60 0 a.toNat) (by simp only [cE2, sev, svl, cen, List.cons_append, List.nil_append]; omega) (by omega) ⟨rfl, by rw [e, if_pos (by omega)]⟩
          · simp only [cCmp, cE2, sev, svl, cen, List.cons_append, List.nil_append] at h
            refine d_br (fun h => ?_) (fun h => ?_)
            · simp only [cCmp, cE2, sev, svl, cen, List.cons_append, List.nil_append] at h
              refine d_row 0 a.toNat (by simp only [cE2, sev, svl, cen, List.cons_append, List.nil_append]; omega) (by simp only [cE2, sev, svl, cen, List.cons_append, List.nil_append]; omega) (by omega) ?_
              refine d_br (fun h => ?_) (fun h => ?_)
              · simp only [cCmp, cE2, sev, svl, cen, List.cons_append, List.nil_append] at h
                exact wret1 0 (by simp only [cE2, sev, svl, cen, List.cons_append, List.nil_append]; omega) (by omega) ⟨rfl, by rw [e, if_neg (by omega), if_pos (by omega), if_pos (by omega)]⟩
              · simp only [cCmp, cE2, sev, svl, cen, List.cons_append, List.nil_append] at h
                exact wret1 1 (by simp only [cE2, sev, svl, cen, List.cons_append, List.nil_append]; omega) (by omega) ⟨rfl, by rw [e, if_neg (by omega), if_pos (by omega), if_neg (by omega)]⟩
            · simp only [cCmp, cE2, sev, svl, cen, List.cons_append, List.nil_append] at h
              refine d_br (fun h => ?_) (fun h => ?_)
              · simp only [cCmp, cE2, sev, svl, cen, List.cons_append, List.nil_append] at h
                refine d_row 0 a.toNat (by simp only [cE2, sev, svl, cen, List.cons_append, List.nil_append]; omega) (by simp only [cE2, sev, svl, cen, List.cons_append, List.nil_append]; omega) (by omega) ?_
                exact wret1 (M' 62 0 a.toNat) (by simp only [cE2, sev, svl, cen, List.cons_append, List.nil_append]; omega) b62 ⟨rfl, by rw [e, if_neg (by omega), if_neg (by omega), if_pos (by omega)]⟩
              · simp only [cCmp, cE2, sev, svl, cen, List.cons_append, List.nil_append] at h
                refine d_br (fun h => ?_) (fun h => ?_)
                · simp only [cCmp, cE2, sev, svl, cen, List.cons_append, List.nil_append] at h
                  refine d_row 0 a.toNat (by simp only [cE2, sev, svl, cen, List.cons_append, List.nil_append]; omega) (by simp only [cE2, sev, svl, cen, List.cons_append, List.nil_append]; omega) (by omega) ?_
                  exact wret1 (M' 61 0 a.toNat) (by simp only [cE2, sev, svl, cen, List.cons_append, List.nil_append]; omega) (by omega) ⟨rfl, by rw [e, if_neg (by omega), if_neg (by omega), if_neg (by omega), if_pos (by omega)]⟩
                · simp only [cCmp, cE2, sev, svl, cen, List.cons_append, List.nil_append] at h
                  omega
    · simp only [cCmp, cE2, sev, svl, cen, List.cons_append, List.nil_append] at h
      omega
  · refine ⟨rfl, ?_⟩
    refine d_br (fun h => ?_) (fun h => ?_)
    · simp only [cCmp, cE2, sev, svl, cen, List.cons_append, List.nil_append] at h
      omega
    · exact wret1 (-1) (by simp only [cE2, sev, svl, cen, List.cons_append, List.nil_append]; omega) (by omega) ⟨rfl, by rw [wKn_no ha]⟩
theorem m_widthOf (hp : cPl tm tc tf EX) {x : Int} {M : SMem} : cBG tm tf EX l dC dI cA ad scrS (d + 1) kX10_widthOf [(0, 0, x)] M (fun rr MM => MM = M ∧ rr = [wW x]) := by
  refine cMeth (v := [x]) (Fd := 60) hp (by decide) gX10_widthOf_ok gX10_widthOf_m0 (by simp [cAs, cE2, sev, svl, cen]) ?_
  refine cEnds_at gX10_widthOf_m0 rfl ?_
  have q2 : ¬ (x = 102 ∨ x = 105 ∨ x = 106 ∨ x = 108 ∨ x = 114 ∨ x = 116) → ¬ (x = 109 ∨ x = 119) → wW x = 2 := fun a b => by unfold wW; rw [if_neg a, if_neg b]
  have q1 : (x = 102 ∨ x = 105 ∨ x = 106 ∨ x = 108 ∨ x = 114 ∨ x = 116) → wW x = 1 := fun a => by unfold wW; rw [if_pos a]
  have q3 : (x = 109 ∨ x = 119) → wW x = 3 := fun a => by unfold wW; rw [if_neg (by omega), if_pos a]
  refine d_br (fun h => ?_) (fun h => ?_)
  · simp only [cCmp, cE2, sev, svl, cen, List.cons_append, List.nil_append] at h
    exact wret1 1 (by simp only [cE2, sev, svl, cen, List.cons_append, List.nil_append]; omega) (by omega) ⟨rfl, by rw [q1 (by omega)]⟩
  simp only [cCmp, cE2, sev, svl, cen, List.cons_append, List.nil_append] at h
  refine d_br (fun h => ?_) (fun h => ?_)
  · simp only [cCmp, cE2, sev, svl, cen, List.cons_append, List.nil_append] at h
    exact wret1 1 (by simp only [cE2, sev, svl, cen, List.cons_append, List.nil_append]; omega) (by omega) ⟨rfl, by rw [q1 (by omega)]⟩
  simp only [cCmp, cE2, sev, svl, cen, List.cons_append, List.nil_append] at h
  refine d_br (fun h => ?_) (fun h => ?_)
  · simp only [cCmp, cE2, sev, svl, cen, List.cons_append, List.nil_append] at h
    exact wret1 1 (by simp only [cE2, sev, svl, cen, List.cons_append, List.nil_append]; omega) (by omega) ⟨rfl, by rw [q1 (by omega)]⟩
  simp only [cCmp, cE2, sev, svl, cen, List.cons_append, List.nil_append] at h
  refine d_br (fun h => ?_) (fun h => ?_)
  · simp only [cCmp, cE2, sev, svl, cen, List.cons_append, List.nil_append] at h
    exact wret1 1 (by simp only [cE2, sev, svl, cen, List.cons_append, List.nil_append]; omega) (by omega) ⟨rfl, by rw [q1 (by omega)]⟩
  simp only [cCmp, cE2, sev, svl, cen, List.cons_append, List.nil_append] at h
  refine d_br (fun h => ?_) (fun h => ?_)
  · simp only [cCmp, cE2, sev, svl, cen, List.cons_append, List.nil_append] at h
    exact wret1 1 (by simp only [cE2, sev, svl, cen, List.cons_append, List.nil_append]; omega) (by omega) ⟨rfl, by rw [q1 (by omega)]⟩
  simp only [cCmp, cE2, sev, svl, cen, List.cons_append, List.nil_append] at h
  refine d_br (fun h => ?_) (fun h => ?_)
  · simp only [cCmp, cE2, sev, svl, cen, List.cons_append, List.nil_append] at h
    refine d_br (fun h => ?_) (fun h => ?_)
    · simp only [cCmp, cE2, sev, svl, cen, List.cons_append, List.nil_append] at h
      exact wret1 3 (by simp only [cE2, sev, svl, cen, List.cons_append, List.nil_append]; omega) (by omega) ⟨rfl, by rw [q3 (by omega)]⟩
    · simp only [cCmp, cE2, sev, svl, cen, List.cons_append, List.nil_append] at h
      refine d_br (fun h => ?_) (fun h => ?_)
      · simp only [cCmp, cE2, sev, svl, cen, List.cons_append, List.nil_append] at h
        exact wret1 2 (by simp only [cE2, sev, svl, cen, List.cons_append, List.nil_append]; omega) (by omega) ⟨rfl, by rw [q2 (by omega) (by omega)]⟩
      · simp only [cCmp, cE2, sev, svl, cen, List.cons_append, List.nil_append] at h
        exact wret1 3 (by simp only [cE2, sev, svl, cen, List.cons_append, List.nil_append]; omega) (by omega) ⟨rfl, by rw [q3 (by omega)]⟩
  · simp only [cCmp, cE2, sev, svl, cen, List.cons_append, List.nil_append] at h
    exact wret1 1 (by simp only [cE2, sev, svl, cen, List.cons_append, List.nil_append]; omega) (by omega) ⟨rfl, by rw [q1 (by omega)]⟩
theorem m_width (hp : cPl tm tc tf EX) {nm : Nat} {M : SMem} (hI : sI tg M) (hnm : nm < 8) : cBG tm tf EX l dC dI cA ad scrS (d + 2) kX10_width [(2, 1, 0), (0, 0, (nm : Int))] M (fun rr MM => MM = M ∧ rr = [wSm (M 21 0) (8 * nm) (M 20 0 nm).toNat]) := by
  refine cMeth (v := [(nm : Int)]) (Fd := 60) hp (by decide) gX10_width_ok gX10_width_m0 (by simp [cAs, cE2, sev, svl, cen]) ?_
  have hb := wIb (f := 20) (i := nm) (lo := 0) (hi := 8) hI 0 rfl
  obtain ⟨sz, hsz⟩ : ∃ sz : Nat, M 20 0 nm = (sz : Int) := ⟨(M 20 0 nm).toNat, by omega⟩
  have loop : ∀ (m k : Nat), k + m = sz → cEnds (cBG tm tf EX l dC dI cA ad scrS (d + 1)) (fun rr MM => MM = M ∧ rr = [wSm (M 21 0) (8 * nm) (M 20 0 nm).toNat]) 60 gX10_width 4 [(nm : Int), wSm (M 21 0) (8 * nm) k, (k : Int)] M := by
    intro m
    induction m with
    | zero =>
      intro k hk
      have b1 := wSm_le (M 21 0) (8 * nm) k
      refine cEnds_at gX10_width_m4 rfl ?_
      refine d_row 0 nm (by simp only [cE2, sev, svl, cen, List.cons_append, List.nil_append]; omega) (by simp only [cE2, sev, svl, cen, List.cons_append, List.nil_append]; omega) hnm ?_
      rw [hsz]
      refine d_br (fun h => ?_) (fun h => ?_)
      · exact wret1 (wSm (M 21 0) (8 * nm) k) (by simp only [cE2, sev, svl, cen, List.cons_append, List.nil_append]; omega) (by omega) ⟨rfl, by rw [show (sz : Int).toNat = k by omega]⟩
      · simp only [cCmp, cE2, sev, svl, cen, List.cons_append, List.nil_append] at h
        omega
    | succ m ih =>
      intro k hk
      have b1 := wSm_le (M 21 0) (8 * nm) k
      refine cEnds_at gX10_width_m4 rfl ?_
      refine d_row 0 nm (by simp only [cE2, sev, svl, cen, List.cons_append, List.nil_append]; omega) (by simp only [cE2, sev, svl, cen, List.cons_append, List.nil_append]; omega) hnm ?_
      rw [hsz]
      refine d_br (fun h => ?_) (fun h => ?_)
      · simp only [cCmp, cE2, sev, svl, cen, List.cons_append, List.nil_append] at h
        omega
      · refine d_rng (by simp only [clo, chi, cE2, sev, svl, cen, List.cons_append, List.nil_append]; omega) ?_
        refine d_rng (by simp only [clo, chi, cE2, sev, svl, cen, List.cons_append, List.nil_append]; omega) ?_
        refine d_row 0 (8 * nm + k) (by simp only [cE2, sev, svl, cen, List.cons_append, List.nil_append]; omega) (by simp only [cE2, sev, svl, cen, List.cons_append, List.nil_append]; omega) (by omega) ?_
        refine d_call (m_widthOf hp (x := M 21 0 (8 * nm + k))) (by simp [cAs, cE2, sev, svl, cen]) ?_
        rintro rr M' ⟨rfl, rfl⟩
        refine ⟨rfl, ?_⟩
        have b2 := wW_le (M' 21 0 (8 * nm + k))
        refine d_rng (by simp only [clo, chi, cE2, sev, svl, cen, List.cons_append, List.nil_append]; omega) ?_
        refine d_rng (by simp only [clo, chi, cE2, sev, svl, cen, List.cons_append, List.nil_append]; omega) ?_
        refine d_cut [(nm : Int), wSm (M' 21 0) (8 * nm) (k + 1), ((k + 1 : Nat) : Int)] (by simp [cE2, sev, svl, cen, wSm]; omega) ?_
        have := ih (k + 1) (by omega)
        rw [hsz] at this
        exact this
  rw [hsz] at loop ⊢
  refine cEnds_at gX10_width_m0 rfl ?_
  refine d_cut [(nm : Int), 0, ((0 : Nat) : Int)] (by simp [cE2, sev, svl, cen] <;> omega) ?_
  exact loop sz 0 (by omega)
theorem m_known (hp : cPl tm tc tf EX) {a w : Int} {M : SMem} (hI : sI tg M) : cBG tm tf EX l dC dI cA ad scrS (d + 3) kX10_known [(2, 1, 0), (0, 0, a), (0, 0, w)] M (fun rr MM => sI tg MM ∧ (∀ f j i, ¬ (f = 1 ∧ i = 0) → MM f j i = M f j i) ∧ rr = [wKn (M 17 0) (M 18 0) (M 19 0) (fun i => wSm (M 21 0) (8 * i) (M 20 0 i).toNat) (M 20 0) a w]) := by
  refine cMeth (v := [a, w]) (Fd := 60) hp (by decide) gX10_known_ok gX10_known_m0 (by simp [cAs, cE2, sev, svl, cen]) ?_
  refine cEnds_at gX10_known_m0 rfl ?_
  refine d_put 0 0 rfl rfl ?_
  have i0 : sI tg (supd M 1 0 0 0) := wI (lo := 0) (hi := 1) hI rfl ⟨by omega, by omega⟩
  have f0 : ∀ f j i, ¬ (f = 1 ∧ i = 0) → supd M 1 0 0 0 f j i = M f j i := fun f j i q => if_neg (fun z => q ⟨z.1, z.2.2⟩)
  have r0 : ∀ f, f ≠ 1 → supd M 1 0 0 0 f = M f := fun f q => supd_ff q
  generalize supd M 1 0 0 0 = M1 at i0 f0 r0 ⊢
  refine d_call (m_isName hp (a := a)) (by simp [cAs, cE2, sev, svl, cen]) ?_
  rintro rr M' ⟨rfl, hb⟩
  rw [r0 17 (by decide)] at hb
  rcases hb with ⟨rfl, ha⟩ | ⟨rfl, ha⟩
  · refine ⟨rfl, ?_⟩
    have b60 := wIb (f := 18) (i := a.toNat) (lo := 0) (hi := 5) hI 0 rfl
    have b61 := wIb (f := 20) (i := a.toNat) (lo := 0) (hi := 8) hI 0 rfl
    have b62 := wSm_le (M 21 0) (8 * a.toNat) (M 20 0 a.toNat).toNat
    have e : wKn (M 17 0) (M 18 0) (M 19 0) (fun i => wSm (M 21 0) (8 * i) (M 20 0 i).toNat) (M 20 0) a w = (if w = 0 then M 18 0 a.toNat else if w = 1 then (if M 19 0 a.toNat = 0 then 0 else 1) else if w = 2 then wSm (M 21 0) (8 * a.toNat) (M 20 0 a.toNat).toNat else if w = 3 then M 20 0 a.toNat else -1) := if_pos ha
    refine d_br (fun h => ?_) (fun h => ?_)
    · simp only [cCmp, cE2, sev, svl, cen, List.cons_append, List.nil_append] at h
      omega
    · refine d_call (m_within hp (x := w) (y := 0) (z := 3)) (by simp [cAs, cE2, sev, svl, cen]) ?_
      rintro rr M' ⟨rfl, hb⟩
      rcases hb with ⟨rfl, hw⟩ | ⟨rfl, hw⟩
      · refine ⟨rfl, ?_⟩
        refine d_br (fun h => ?_) (fun h => ?_)
        · refine d_br (fun h => ?_) (fun h => ?_)
          · simp only [cCmp, cE2, sev, svl, cen, List.cons_append, List.nil_append] at h
            refine d_br (fun h => ?_) (fun h => ?_)
            · simp only [cCmp, cE2, sev, svl, cen, List.cons_append, List.nil_append] at h
              refine d_br (fun h => ?_) (fun h => ?_)
              · simp only [cCmp, cE2, sev, svl, cen, List.cons_append, List.nil_append] at h
                refine d_row 0 a.toNat (by simp only [cE2, sev, svl, cen, List.cons_append, List.nil_append]; omega) (by simp only [cE2, sev, svl, cen, List.cons_append, List.nil_append]; omega) (by omega) ?_
                rw [r0 20 (by decide)]
                exact wret1 (M 20 0 a.toNat) (by simp only [cE2, sev, svl, cen, List.cons_append, List.nil_append]; omega) (by omega) ⟨i0, f0, by rw [e, if_neg (by omega), if_neg (by omega), if_neg (by omega), if_pos (by omega)]⟩
              · simp only [cCmp, cE2, sev, svl, cen, List.cons_append, List.nil_append] at h
                refine d_call (m_width hp (nm := a.toNat) i0 (by omega)) (by simp [cAs, cE2, sev, svl, cen]; omega) ?_
                rintro rr M' ⟨rfl, rfl⟩
                refine ⟨rfl, ?_⟩
                rw [r0 20 (by decide), r0 21 (by decide)]
                exact wret1 (wSm (M 21 0) (8 * a.toNat) (M 20 0 a.toNat).toNat) (by simp only [cE2, sev, svl, cen, List.cons_append, List.nil_append]; omega) (by omega) ⟨i0, f0, by rw [e, if_neg (by omega), if_neg (by omega), if_pos (by omega)]⟩
            · simp only [cCmp, cE2, sev, svl, cen, List.cons_append, List.nil_append] at h
              refine d_row 0 a.toNat (by simp only [cE2, sev, svl, cen, List.cons_append, List.nil_append]; omega) (by simp only [cE2, sev, svl, cen, List.cons_append, List.nil_append]; omega) (by omega) ?_
              rw [r0 19 (by decide)]
              refine d_br (fun h => ?_) (fun h => ?_)
              · simp only [cCmp, cE2, sev, svl, cen, List.cons_append, List.nil_append] at h
                exact wret1 0 (by simp only [cE2, sev, svl, cen, List.cons_append, List.nil_append]; omega) (by omega) ⟨i0, f0, by rw [e, if_neg (by omega), if_pos (by omega), if_pos (by omega)]⟩
              · simp only [cCmp, cE2, sev, svl, cen, List.cons_append, List.nil_append] at h
                exact wret1 1 (by simp only [cE2, sev, svl, cen, List.cons_append, List.nil_append]; omega) (by omega) ⟨i0, f0, by rw [e, if_neg (by omega), if_pos (by omega), if_neg (by omega)]⟩
          · simp only [cCmp, cE2, sev, svl, cen, List.cons_append, List.nil_append] at h
            refine d_row 0 a.toNat (by simp only [cE2, sev, svl, cen, List.cons_append, List.nil_append]; omega) (by simp only [cE2, sev, svl, cen, List.cons_append, List.nil_append]; omega) (by omega) ?_
            rw [r0 18 (by decide)]
            exact wret1 (M 18 0 a.toNat) (by simp only [cE2, sev, svl, cen, List.cons_append, List.nil_append]; omega) (by omega) ⟨i0, f0, by rw [e, if_pos (by omega)]⟩
        · simp only [cCmp, cE2, sev, svl, cen, List.cons_append, List.nil_append] at h
          omega
      · refine ⟨rfl, ?_⟩
        refine d_br (fun h => ?_) (fun h => ?_)
        · simp only [cCmp, cE2, sev, svl, cen, List.cons_append, List.nil_append] at h
          omega
        · exact wret1 (-1) (by simp only [cE2, sev, svl, cen, List.cons_append, List.nil_append]; omega) (by omega) ⟨i0, f0, by rw [wKn_ot (by omega)]⟩
  · refine ⟨rfl, ?_⟩
    refine d_br (fun h => ?_) (fun h => ?_)
    · exact wret1 (-1) (by simp only [cE2, sev, svl, cen, List.cons_append, List.nil_append]; omega) (by omega) ⟨i0, f0, by rw [wKn_no ha]⟩
    · simp only [cCmp, cE2, sev, svl, cen, List.cons_append, List.nil_append] at h
      omega
end CKN
