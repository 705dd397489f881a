/-! the reference's tokens: one row for all -/
abbrev oPc (f i : Nat) : Prop := f = 13 ∨ f = 14 ∨ f = 15 ∨ (f = 1 ∧ (i = 2 ∨ i = 3 ∨ i = 7 ∨ i = 8))
/-- what the rows say of the token at a place -/
def oMt (T : Nat → Int) (L : Nat) (M : SMem) (n s : Nat) : Prop := M 14 0 n = (s : Int) ∧ 0 ≤ M 15 0 n ∧ ((s = L ∧ M 13 0 n = 0) ∨ (s < L ∧ oIl (T s) = true ∧ ((oE T L s - s ≤ 8 ∧ M 13 0 n = 1 ∧ M 15 0 n = oWe T s (oE T L s - s)) ∨ (8 < oE T L s - s ∧ M 13 0 n = 4))) ∨ (s < L ∧ oIl (T s) = false ∧ oId (T s) = true ∧ ((oE T L s - s ≤ 4 ∧ M 13 0 n = 2 ∧ M 15 0 n = oV T L s) ∨ (4 < oE T L s - s ∧ M 13 0 n = 4))) ∨ (s < L ∧ oIl (T s) = false ∧ oId (T s) = false ∧ M 15 0 n = T s ∧ ((oSg (T s) ≠ 25 ∧ M 13 0 n = 3) ∨ (oSg (T s) = 25 ∧ M 13 0 n = 4))))
def oIx (T : Nat → Int) (L : Nat) : Nat → Nat
  | 0 => oS T L 0
  | n + 1 => oN T L (oIx T L n)
/-- all tokens, and the end behind them -/
def oMT (T : Nat → Int) (L N : Nat) (M : SMem) : Prop := N ≤ 1000 ∧ oIx T L N = L ∧ (∀ n, n < N → oIx T L n < L) ∧ ∀ n, n ≤ N → oMt T L M n (oIx T L n)
theorem oMt_m {T : Nat → Int} {L n s : Nat} {M MM : SMem} (h : ∀ f, (f = 13 ∨ f = 14 ∨ f = 15) → MM f 0 n = M f 0 n) (g : oMt T L M n s) : oMt T L MM n s := by
  unfold oMt
  rw [h 13 (by omega), h 14 (by omega), h 15 (by omega)]
  exact g
theorem oMT_m {T : Nat → Int} {L N : Nat} {M MM : SMem} (h : ∀ f n, (f = 13 ∨ f = 14 ∨ f = 15) → MM f 0 n = M f 0 n) (g : oMT T L N M) : oMT T L N MM := ⟨g.1, g.2.1, g.2.2.1, fun n hn => oMt_m (fun f hf => h f n hf) (g.2.2.2 n hn)⟩
theorem oSg_iff {x : Int} : oSg x ≠ 25 ↔ (x = 40 ∨ x = 41 ∨ x = 59 ∨ x = 61 ∨ x = 60 ∨ x = 43 ∨ x = 45 ∨ x = 42) := by
  constructor
  · intro h
    apply Classical.byContradiction
    intro q
    apply h
    unfold oSg
    rw [if_neg (by omega), if_neg (by omega), if_neg (by omega), if_neg (by omega), if_neg (by omega), if_neg (by omega), if_neg (by omega), if_neg (by omega)]
  · rintro (h | h | h | h | h | h | h | h) <;> rw [h] <;> decide
theorem oS_blank {T : Nat → Int} {L k : Nat} (h : k < L) (hb : T k = 10 ∨ T k = 32) : oS T L k = oS T L (k + 1) := by
  unfold oS
  rw [show L - k = (L - (k + 1)) + 1 by omega, oR_go h (oIb_iff.mpr hb)]
theorem oS_stay {T : Nat → Int} {L k : Nat} (h : k < L → ¬ (T k = 10 ∨ T k = 32)) : oS T L k = k := oR_stay (fun q => h q.1 (oIb_iff.mp q.2))
/-- at a place between tokens -/
def oI17 (M0 : SMem) (T : Nat → Int) (L n k : Nat) (MW : SMem) : Prop := sI tg MW ∧ oFm oPc M0 MW ∧ MW 1 0 3 = (L : Int) ∧ MW 1 0 2 = 0 ∧ n ≤ k ∧ k ≤ L ∧ oS T L k = oIx T L n ∧ ∀ n', n' < n → oIx T L n' < L ∧ oMt T L MW n' (oIx T L n')
theorem oI_tok {M0 MW MV : SMem} {T : Nat → Int} {L n s : Nat} (h : oI17 M0 T L n s MW) (hs : s < L) (hb : ¬ (T s = 10 ∨ T s = 32)) (i1 : sI tg MV) (f1 : oFm oPc MW MV) (e3 : MV 1 0 3 = (L : Int)) (e2 : MV 1 0 2 = 0) (hr : ∀ f j, (f = 13 ∨ f = 14 ∨ f = 15) → j ≠ n → MV f 0 j = MW f 0 j) (hM : oMt T L MV n s) : oI17 M0 T L (n + 1) (oE T L s) MV := by
  obtain ⟨g1, g2, g3, g4, g5, g6, g7, g8⟩ := h
  have b := oE_bd (T := T) hs
  have ex : oIx T L n = s := by rw [← g7]; exact oS_stay (fun _ => hb)
  refine ⟨i1, oFm_t g2 f1, e3, e2, by omega, b.2, ?_, fun n' hn => ?_⟩
  · show oS T L (oE T L s) = oN T L (oIx T L n)
    rw [ex]
    rfl
  · rcases Nat.lt_or_ge n' n with q | q
    · obtain ⟨r1, r2⟩ := g8 n' q
      exact ⟨r1, oMt_m (fun f hf => hr f n' hf (by omega)) r2⟩
    · have e : n' = n := by omega
      subst e
      rw [ex]
      exact ⟨hs, hM⟩
theorem oWe_b8 {T : Nat → Int} {s n : Nat} (hn : n ≤ 8) (h : ∀ i, i < n → 97 ≤ T (s + i) ∧ T (s + i) ≤ 122) : 0 ≤ oWe T s n ∧ oWe T s n ≤ 3512479453921 := by
  have b := oWe_bd h
  have b2 : (37 : Int) ^ n ≤ 37 ^ 8 := by
    have : n = 0 ∨ n = 1 ∨ n = 2 ∨ n = 3 ∨ n = 4 ∨ n = 5 ∨ n = 6 ∨ n = 7 ∨ n = 8 := by omega
    rcases this with z | z | z | z | z | z | z | z | z <;> rw [z] <;> decide
  have b3 : (37 : Int) ^ 8 = 3512479453921 := by decide
  omega
theorem oNv_b4 {T : Nat → Int} {s n : Nat} (hn : n ≤ 4) (h : ∀ i, i < n → 48 ≤ T (s + i) ∧ T (s + i) ≤ 57) : 0 ≤ oNv T s n ∧ oNv T s n ≤ 10000 := by
  have b := oNv_bd h
  have b2 : (10 : Int) ^ n ≤ 10 ^ 4 := by
    have : n = 0 ∨ n = 1 ∨ n = 2 ∨ n = 3 ∨ n = 4 := by omega
    rcases this with z | z | z | z | z <;> rw [z] <;> decide
  have b3 : (10 : Int) ^ 4 = 10000 := by decide
  omega
theorem finT {T : Nat → Int} {L : Nat} (n : Nat) (MW : SMem) (ex : oIx T L n = L) (b15 : 0 ≤ MW 15 0 n) (n' : Nat) (hn : n' ≤ n) (g8 : ∀ n', n' < n → oIx T L n' < L ∧ oMt T L MW n' (oIx T L n')) : oMt T L (supd (supd (supd (supd MW 13 0 n 0) 14 0 n (L : Int)) 1 0 7 0) 1 0 8 0) n' (oIx T L n') := by
  rcases Nat.lt_or_ge n' n with q | q
  · refine oMt_m (fun f hf => ?_) (g8 n' q).2
    rcases hf with rfl | rfl | rfl
    · rw [supd_f (by decide), supd_f (by decide), supd_f (by decide), supd_i (by omega)]
    · rw [supd_f (by decide), supd_f (by decide), supd_i (by omega), supd_f (by decide)]
    · rw [supd_f (by decide), supd_f (by decide), supd_f (by decide), supd_f (by decide)]
  · have e : n' = n := by omega
    subst e
    rw [ex]
    refine ⟨by rw [supd_f (by decide), supd_f (by decide), supd_at], by rw [supd_f (by decide), supd_f (by decide), supd_f (by decide), supd_f (by decide)]; exact b15, Or.inl ⟨rfl, by rw [supd_f (by decide), supd_f (by decide), supd_f (by decide), supd_at]⟩⟩
section CO8
variable {EX : SEx} {l : Launch} {dC : Nat → ClassId} {dI : Nat → Nat → Nat} {cA : Nat → ClassId} {ad : SAd} {scrS d : Nat}
theorem m_isDigit (hp : cPl tm tc tf EX) {x : Int} {M : SMem} : cBG tm tf EX l dC dI cA ad scrS (d + 1) kX10_isDigit [(0, 0, x)] M (fun rr MM => MM = M ∧ ((rr = [1] ∧ (48 ≤ x ∧ x ≤ 57)) ∨ (rr = [0] ∧ ¬ (48 ≤ x ∧ x ≤ 57)))) := by
  refine cMeth (v := [x]) (Fd := 90) hp (by decide) gX10_isDigit_ok gX10_isDigit_m0 (by simp [cAs, cE2, sev, svl, cen]) ?_
  refine cEnds_at gX10_isDigit_m0 rfl ?_
  refine d_br (fun h => ?_) (fun h => ?_)
  · simp only [cCmp, cE2, sev, svl, cen, List.cons_append, List.nil_append] at h
    first
    | omega
    | skip
      exact d_ret [0] rfl (by decide) ⟨rfl, Or.inr ⟨rfl, by omega⟩⟩
  · simp only [cCmp, cE2, sev, svl, cen, List.cons_append, List.nil_append] at h
    first
    | omega
    | skip
      refine d_br (fun h => ?_) (fun h => ?_)
      · simp only [cCmp, cE2, sev, svl, cen, List.cons_append, List.nil_append] at h
        first
        | omega
        | skip
          exact d_ret [0] rfl (by decide) ⟨rfl, Or.inr ⟨rfl, by omega⟩⟩
      · simp only [cCmp, cE2, sev, svl, cen, List.cons_append, List.nil_append] at h
        first
        | omega
        | skip
          exact d_ret [1] rfl (by decide) ⟨rfl, Or.inl ⟨rfl, by omega⟩⟩
theorem m_isSignOf (hp : cPl tm tc tf EX) {x : Int} {M : SMem} : cBG tm tf EX l dC dI cA ad scrS (d + 1) kX10_isSignOf [(0, 0, x)] M (fun rr MM => MM = M ∧ ((rr = [1] ∧ (oSg x ≠ 25)) ∨ (rr = [0] ∧ ¬ (oSg x ≠ 25)))) := by
  have hsg := @oSg_iff x
  refine cMeth (v := [x]) (Fd := 90) hp (by decide) gX10_isSignOf_ok gX10_isSignOf_m0 (by simp [cAs, cE2, sev, svl, cen]) ?_
  refine cEnds_at gX10_isSignOf_m0 rfl ?_
  refine d_br (fun h => ?_) (fun h => ?_)
  · simp only [cCmp, cE2, sev, svl, cen, List.cons_append, List.nil_append] at h
    first
    | omega
    | skip
      exact d_ret [1] rfl (by decide) ⟨rfl, Or.inl ⟨rfl, hsg.mpr (by omega)⟩⟩
  · simp only [cCmp, cE2, sev, svl, cen, List.cons_append, List.nil_append] at h
    first
    | omega
    | skip
      refine d_br (fun h => ?_) (fun h => ?_)
      · simp only [cCmp, cE2, sev, svl, cen, List.cons_append, List.nil_append] at h
        first
        | omega
        | skip
          exact d_ret [1] rfl (by decide) ⟨rfl, Or.inl ⟨rfl, hsg.mpr (by omega)⟩⟩
      · simp only [cCmp, cE2, sev, svl, cen, List.cons_append, List.nil_append] at h
        first
        | omega
        | skip
          refine d_br (fun h => ?_) (fun h => ?_)
          · simp only [cCmp, cE2, sev, svl, cen, List.cons_append, List.nil_append] at h
            first
            | omega
            | skip
              exact d_ret [1] rfl (by decide) ⟨rfl, Or.inl ⟨rfl, hsg.mpr (by omega)⟩⟩
          · simp only [cCmp, cE2, sev, svl, cen, List.cons_append, List.nil_append] at h
            first
            | omega
            | skip
              refine d_br (fun h => ?_) (fun h => ?_)
              · simp only [cCmp, cE2, sev, svl, cen, List.cons_append, List.nil_append] at h
                first
                | omega
                | skip
                  exact d_ret [1] rfl (by decide) ⟨rfl, Or.inl ⟨rfl, hsg.mpr (by omega)⟩⟩
              · simp only [cCmp, cE2, sev, svl, cen, List.cons_append, List.nil_append] at h
                first
                | omega
                | skip
                  refine d_br (fun h => ?_) (fun h => ?_)
                  · simp only [cCmp, cE2, sev, svl, cen, List.cons_append, List.nil_append] at h
                    first
                    | omega
                    | skip
                      exact d_ret [1] rfl (by decide) ⟨rfl, Or.inl ⟨rfl, hsg.mpr (by omega)⟩⟩
                  · simp only [cCmp, cE2, sev, svl, cen, List.cons_append, List.nil_append] at h
                    first
                    | omega
                    | skip
                      refine d_br (fun h => ?_) (fun h => ?_)
                      · simp only [cCmp, cE2, sev, svl, cen, List.cons_append, List.nil_append] at h
                        first
                        | omega
                        | skip
                          exact d_ret [1] rfl (by decide) ⟨rfl, Or.inl ⟨rfl, hsg.mpr (by omega)⟩⟩
                      · simp only [cCmp, cE2, sev, svl, cen, List.cons_append, List.nil_append] at h
                        first
                        | omega
                        | skip
                          refine d_br (fun h => ?_) (fun h => ?_)
                          · simp only [cCmp, cE2, sev, svl, cen, List.cons_append, List.nil_append] at h
                            first
                            | omega
                            | skip
                              exact d_ret [1] rfl (by decide) ⟨rfl, Or.inl ⟨rfl, hsg.mpr (by omega)⟩⟩
                          · simp only [cCmp, cE2, sev, svl, cen, List.cons_append, List.nil_append] at h
                            first
                            | omega
                            | skip
                              refine d_br (fun h => ?_) (fun h => ?_)
                              · simp only [cCmp, cE2, sev, svl, cen, List.cons_append, List.nil_append] at h
                                first
                                | omega
                                | skip
                                  exact d_ret [0] rfl (by decide) ⟨rfl, Or.inr ⟨rfl, fun q => by have := hsg.mp q; omega⟩⟩
                              · simp only [cCmp, cE2, sev, svl, cen, List.cons_append, List.nil_append] at h
                                first
                                | omega
                                | skip
                                  exact d_ret [1] rfl (by decide) ⟨rfl, Or.inl ⟨rfl, hsg.mpr (by omega)⟩⟩
theorem m_rank (hp : cPl tm tc tf EX) {x : Int} {M : SMem} (hx : 97 ≤ x ∧ x ≤ 122) : cBG tm tf EX l dC dI cA ad scrS (d + 2) kX10_rank [(0, 0, x)] M (fun rr MM => MM = M ∧ rr = [x - 96]) := by
  refine cMeth (v := [x]) (Fd := 90) hp (by decide) gX10_rank_ok gX10_rank_m0 (by simp [cAs, cE2, sev, svl, cen]) ?_
  refine cEnds_at gX10_rank_m0 rfl ?_
  refine d_call (m_isLetter hp (x := x)) (by simp [cAs, cE2, sev, svl, cen] <;> omega) ?_
  intro rr M' hq
  obtain ⟨hM', hq⟩ := hq
  rw [hM']
  rcases hq with ⟨rfl, q1⟩ | ⟨rfl, q1⟩
  · refine ⟨rfl, ?_⟩
    refine d_br (fun h => ?_) (fun h => ?_)
    · simp only [cCmp, cE2, sev, svl, cen, List.cons_append, List.nil_append] at h
      omega
    · clear h
      refine d_rng (by simp only [clo, chi, cE2, sev, svl, cen, List.cons_append, List.nil_append]; omega) ?_
      exact wret1 (x - 96) (by simp only [cE2, sev, svl, cen, List.cons_append, List.nil_append]; omega) (by omega) ⟨rfl, rfl⟩
  · refine ⟨rfl, ?_⟩
    refine d_br (fun h => ?_) (fun h => ?_)
    · clear h
      omega
    · simp only [cCmp, cE2, sev, svl, cen, List.cons_append, List.nil_append] at h
      omega
set_option maxHeartbeats 1000000 in
theorem m_cutAll (hp : cPl tm tc tf EX) {T : Nat → Int} {L : Nat} {M : SMem} (hI : sI tg M) (hT : M 12 0 = T) (hL : M 1 0 2 = (L : Int)) (h9 : L ≤ 1000) : cBG tm tf EX l dC dI cA ad scrS (d + 4) kX10_cutAll [(2, 1, 0)] M (fun rr MM => rr = [] ∧ sI tg MM ∧ oFm oPc M MM ∧ MM 1 0 2 = 0 ∧ MM 1 0 7 = 0 ∧ MM 1 0 8 = 0 ∧ ∃ N, oMT T L N MM) := by
  refine cMeth (v := []) (Fd := 90) hp (by decide) gX10_cutAll_ok gX10_cutAll_m0 (by simp [cAs, cE2, sev, svl, cen]) ?_
  have hTb : ∀ i, 0 ≤ T i ∧ T i ≤ 126 := fun i => by
    rw [← hT]
    exact wIb (f := 12) (i := i) (lo := 0) (hi := 126) hI 0 rfl
  have fin : ∀ (n : Nat) (MW : SMem), oI17 M T L n L MW → cEnds (cBG tm tf EX l dC dI cA ad scrS (d + 3)) (fun rr MM => rr = [] ∧ sI tg MM ∧ oFm oPc M MM ∧ MM 1 0 2 = 0 ∧ MM 1 0 7 = 0 ∧ MM 1 0 8 = 0 ∧ ∃ N, oMT T L N MM) 90 gX10_cutAll 17 [(n : Int), (L : Int)] MW := by
    intro n MW h
    obtain ⟨g1, g2, g3, g4, g5, g6, g7, g8⟩ := h
    have ex : oIx T L n = L := by rw [← g7]; exact oS_stay (fun q => absurd q (Nat.lt_irrefl L))
    have b15 := wIb (f := 15) (i := n) (lo := 0) (hi := 4503599627370496) g1 0 rfl
    refine cEnds_at gX10_cutAll_m17 rfl ?_
    refine d_fld 0 (by simp only [cE2, sev, svl, cen, List.cons_append, List.nil_append]; omega) ?_
    rw [g3]
    refine d_br (fun h => ?_) (fun h => ?_)
    · simp only [cCmp, cE2, sev, svl, cen, List.cons_append, List.nil_append] at h
      first
      | omega
      | skip
        refine d_set 0 n 0 (by simp only [cE2, sev, svl, cen, List.cons_append, List.nil_append]; omega) (by simp only [cE2, sev, svl, cen, List.cons_append, List.nil_append]; omega) (by omega) (by simp only [cE2, sev, svl, cen, List.cons_append, List.nil_append]; omega) ?_
        refine d_fld 0 (by simp only [cE2, sev, svl, cen, List.cons_append, List.nil_append]; omega) ?_
        rw [supd_f (by decide)]
        rw [g3]
        refine d_set 0 n (L : Int) (by simp only [cE2, sev, svl, cen, List.cons_append, List.nil_append]; omega) (by simp only [cE2, sev, svl, cen, List.cons_append, List.nil_append]; omega) (by omega) (by simp only [cE2, sev, svl, cen, List.cons_append, List.nil_append]; omega) ?_
        refine d_put 0 0 (by simp only [cE2, sev, svl, cen, List.cons_append, List.nil_append]; omega) (by simp only [cE2, sev, svl, cen, List.cons_append, List.nil_append]; omega) ?_
        refine d_put 0 0 (by simp only [cE2, sev, svl, cen, List.cons_append, List.nil_append]; omega) (by simp only [cE2, sev, svl, cen, List.cons_append, List.nil_append]; omega) ?_
        exact d_ret [] rfl (by decide) ⟨rfl, wI (wI (wI (wI g1 (lo := 0) (hi := 4) rfl ⟨by omega, by omega⟩) (lo := 0) (hi := 1000) rfl ⟨by omega, by omega⟩) (lo := 0) (hi := 1001) rfl ⟨by omega, by omega⟩) (lo := 0) (hi := 16005) rfl ⟨by omega, by omega⟩, oFm_p (Or.inr (Or.inr (Or.inr ⟨rfl, by omega⟩))) (oFm_p (Or.inr (Or.inr (Or.inr ⟨rfl, by omega⟩))) (oFm_p (Or.inr (Or.inl rfl)) (oFm_p (Or.inl rfl) g2))), by rw [supd_i (by decide), supd_i (by decide), supd_f (by decide), supd_f (by decide)]; exact g4, by rw [supd_i (by decide), supd_at], supd_at _ _ _ _ _, n, by omega, ex, fun n' hn => (g8 n' hn).1, fun n' hn => finT n MW ex b15.1 n' hn g8⟩
    · simp only [cCmp, cE2, sev, svl, cen, List.cons_append, List.nil_append] at h
      first
      | omega
      | skip
        refine d_row 0 L (by simp only [cE2, sev, svl, cen, List.cons_append, List.nil_append]; omega) (by simp only [cE2, sev, svl, cen, List.cons_append, List.nil_append]; omega) (by omega) ?_
        refine d_br (fun h => ?_) (fun h => ?_)
        · simp only [cCmp, cE2, sev, svl, cen, List.cons_append, List.nil_append] at h
          first
          | omega
          | skip
            refine d_rng (by simp only [clo, chi, cE2, sev, svl, cen, List.cons_append, List.nil_append]; omega) ?_
            refine d_cut [(n : Int), ((L : Int) + 1)] (by simp [cE2, sev, svl, cen] <;> omega) ?_
            exact (by omega)
        · simp only [cCmp, cE2, sev, svl, cen, List.cons_append, List.nil_append] at h
          first
          | omega
          | skip
            refine d_br (fun h => ?_) (fun h => ?_)
            · simp only [cCmp, cE2, sev, svl, cen, List.cons_append, List.nil_append] at h
              first
              | omega
              | skip
                refine d_set 0 n (L : Int) (by simp only [cE2, sev, svl, cen, List.cons_append, List.nil_append]; omega) (by simp only [cE2, sev, svl, cen, List.cons_append, List.nil_append]; omega) (by omega) (by simp only [cE2, sev, svl, cen, List.cons_append, List.nil_append]; omega) ?_
                refine d_call (m_isLetter hp (x := (MW 12 0 L))) (by simp [cAs, cE2, sev, svl, cen] <;> omega) ?_
                intro rr M' hq
                obtain ⟨hM', hq⟩ := hq
                rw [hM']
                rcases hq with ⟨rfl, q4⟩ | ⟨rfl, q4⟩
                · refine ⟨rfl, ?_⟩
                  refine d_br (fun h => ?_) (fun h => ?_)
                  · simp only [cCmp, cE2, sev, svl, cen, List.cons_append, List.nil_append] at h
                    omega
                  · clear h
                    refine d_cut [(n : Int), (L : Int), (L : Int), 0] (by simp [cE2, sev, svl, cen] <;> omega) ?_
                    exact (by omega)
                · refine ⟨rfl, ?_⟩
                  refine d_br (fun h => ?_) (fun h => ?_)
                  · clear h
                    refine d_call (m_isDigit hp (x := (MW 12 0 L))) (by simp [cAs, cE2, sev, svl, cen] <;> omega) ?_
                    intro rr M' hq
                    obtain ⟨hM', hq⟩ := hq
                    rw [hM']
                    rcases hq with ⟨rfl, q5⟩ | ⟨rfl, q5⟩
                    · refine ⟨rfl, ?_⟩
                      refine d_br (fun h => ?_) (fun h => ?_)
                      · simp only [cCmp, cE2, sev, svl, cen, List.cons_append, List.nil_append] at h
                        omega
                      · clear h
                        refine d_cut [(n : Int), (L : Int), (L : Int), 0] (by simp [cE2, sev, svl, cen] <;> omega) ?_
                        exact (by omega)
                    · refine ⟨rfl, ?_⟩
                      refine d_br (fun h => ?_) (fun h => ?_)
                      · clear h
                        refine d_call (m_isSignOf hp (x := (MW 12 0 L))) (by simp [cAs, cE2, sev, svl, cen] <;> omega) ?_
                        intro rr M' hq
                        obtain ⟨hM', hq⟩ := hq
                        rw [hM']
                        rcases hq with ⟨rfl, q6⟩ | ⟨rfl, q6⟩
                        · refine ⟨rfl, ?_⟩
                          refine d_br (fun h => ?_) (fun h => ?_)
                          · simp only [cCmp, cE2, sev, svl, cen, List.cons_append, List.nil_append] at h
                            omega
                          · clear h
                            refine d_set 0 n 3 (by simp only [cE2, sev, svl, cen, List.cons_append, List.nil_append]; omega) (by simp only [cE2, sev, svl, cen, List.cons_append, List.nil_append]; omega) (by omega) (by simp only [cE2, sev, svl, cen, List.cons_append, List.nil_append]; omega) ?_
                            refine d_rng (by simp only [clo, chi, cE2, sev, svl, cen, List.cons_append, List.nil_append]; omega) ?_
                            refine d_set 0 n (MW 12 0 L) (by simp only [cE2, sev, svl, cen, List.cons_append, List.nil_append]; omega) (by simp only [cE2, sev, svl, cen, List.cons_append, List.nil_append]; omega) (by omega) (by simp only [cE2, sev, svl, cen, List.cons_append, List.nil_append]; omega) ?_
                            refine d_rng (by simp only [clo, chi, cE2, sev, svl, cen, List.cons_append, List.nil_append]; omega) ?_
                            refine d_cut [((n : Int) + 1), ((L : Int) + 1)] (by simp [cE2, sev, svl, cen] <;> omega) ?_
                            exact (by omega)
                        · refine ⟨rfl, ?_⟩
                          refine d_br (fun h => ?_) (fun h => ?_)
                          · clear h
                            refine d_set 0 n 4 (by simp only [cE2, sev, svl, cen, List.cons_append, List.nil_append]; omega) (by simp only [cE2, sev, svl, cen, List.cons_append, List.nil_append]; omega) (by omega) (by simp only [cE2, sev, svl, cen, List.cons_append, List.nil_append]; omega) ?_
                            refine d_rng (by simp only [clo, chi, cE2, sev, svl, cen, List.cons_append, List.nil_append]; omega) ?_
                            refine d_set 0 n (MW 12 0 L) (by simp only [cE2, sev, svl, cen, List.cons_append, List.nil_append]; omega) (by simp only [cE2, sev, svl, cen, List.cons_append, List.nil_append]; omega) (by omega) (by simp only [cE2, sev, svl, cen, List.cons_append, List.nil_append]; omega) ?_
                            refine d_rng (by simp only [clo, chi, cE2, sev, svl, cen, List.cons_append, List.nil_append]; omega) ?_
                            refine d_cut [((n : Int) + 1), ((L : Int) + 1)] (by simp [cE2, sev, svl, cen] <;> omega) ?_
                            exact (by omega)
                          · simp only [cCmp, cE2, sev, svl, cen, List.cons_append, List.nil_append] at h
                            omega
                      · simp only [cCmp, cE2, sev, svl, cen, List.cons_append, List.nil_append] at h
                        omega
                  · simp only [cCmp, cE2, sev, svl, cen, List.cons_append, List.nil_append] at h
                    omega
            · simp only [cCmp, cE2, sev, svl, cen, List.cons_append, List.nil_append] at h
              first
              | omega
              | skip
                refine d_rng (by simp only [clo, chi, cE2, sev, svl, cen, List.cons_append, List.nil_append]; omega) ?_
                refine d_cut [(n : Int), ((L : Int) + 1)] (by simp [cE2, sev, svl, cen] <;> omega) ?_
                exact (by omega)
  have loop : ∀ (m k n : Nat) (MW : SMem), L - k ≤ m → oI17 M T L n k MW → cEnds (cBG tm tf EX l dC dI cA ad scrS (d + 3)) (fun rr MM => rr = [] ∧ sI tg MM ∧ oFm oPc M MM ∧ MM 1 0 2 = 0 ∧ MM 1 0 7 = 0 ∧ MM 1 0 8 = 0 ∧ ∃ N, oMT T L N MM) 90 gX10_cutAll 17 [(n : Int), (k : Int)] MW := by
    intro m
    induction m with
    | zero =>
      intro k n MW hm h
      have ek : k = L := by
        have := h.2.2.2.2.2.1
        omega
      subst ek
      exact fin n MW h
    | succ m ih =>
      intro k n MW hm h
      have h0 := h
      obtain ⟨g1, g2, g3, g4, g5, g6, g7, g8⟩ := h
      by_cases hkL : k = L
      · subst hkL
        exact fin n MW h0
      have hk : k < L := by omega
      have eT : ∀ i, MW 12 0 i = T i := fun i => (g2 12 0 i (by omega)).trans (congrFun hT i)
      have bk := oE_bd (T := T) hk
      have bT := hTb k
      -- letters
      have l70 : oIl (T k) = true → ¬ (T k = 10 ∨ T k = 32) → ∀ (m2 p : Nat) (v : Int), p + m2 = oE T L k → k ≤ p → v = oWe T k (if p - k ≤ 8 then p - k else 8) → cEnds (cBG tm tf EX l dC dI cA ad scrS (d + 3)) (fun rr MM => rr = [] ∧ sI tg MM ∧ oFm oPc M MM ∧ MM 1 0 2 = 0 ∧ MM 1 0 7 = 0 ∧ MM 1 0 8 = 0 ∧ ∃ N, oMT T L N MM) 90 gX10_cutAll 70 [(n : Int), (p : Int), (k : Int), v] (supd MW 14 0 n (k : Int)) := by
        intro hl hb
        have hR : oR oIl T L (L - k) k = oE T L k := by
          unfold oE
          rw [if_neg (by omega), if_pos hl]
        obtain ⟨w1, w2, w3⟩ := oR_end (P := oIl) (T := T) (L := L) (p := k) (by omega)
        have w4 : ∀ i, k ≤ i → i < oE T L k → 97 ≤ T i ∧ T i ≤ 122 := fun i i1 i2 => oIl_iff.mp (oR_in (L - k) k i i1 (by rw [hR]; exact i2)).2
        rw [hR] at w1 w2 w3
        have w3 : oE T L k < L → ¬ (97 ≤ T (oE T L k) ∧ T (oE T L k) ≤ 122) := fun q z => w3 ⟨q, oIl_iff.mpr z⟩
        have n3 : supd MW 14 0 n (k : Int) 1 0 3 = (L : Int) := (supd_f (by decide)).trans g3
        have n2 : supd MW 14 0 n (k : Int) 1 0 2 = 0 := (supd_f (by decide)).trans g4
        have nT : ∀ i, supd MW 14 0 n (k : Int) 12 0 i = T i := fun i => (supd_f (by decide)).trans (eT i)
        have i1 : sI tg (supd MW 14 0 n (k : Int)) := wI g1 (lo := 0) (hi := 1000) rfl ⟨by omega, by omega⟩
        have done : ∀ (x v : Int), 0 ≤ v → v ≤ 3512479453921 → ((oE T L k - k ≤ 8 ∧ x = 1 ∧ v = oWe T k (oE T L k - k)) ∨ (8 < oE T L k - k ∧ x = 4)) → cEnds (cBG tm tf EX l dC dI cA ad scrS (d + 3)) (fun rr MM => rr = [] ∧ sI tg MM ∧ oFm oPc M MM ∧ MM 1 0 2 = 0 ∧ MM 1 0 7 = 0 ∧ MM 1 0 8 = 0 ∧ ∃ N, oMT T L N MM) 90 gX10_cutAll 17 [((n + 1 : Nat) : Int), ((oE T L k : Nat) : Int)] (supd (supd (supd MW 14 0 n (k : Int)) 13 0 n x) 15 0 n v) := by
          intro x v v1 v2 hx
          refine ih (oE T L k) (n + 1) _ (by omega) (oI_tok h0 hk hb (wI (wI i1 (lo := 0) (hi := 4) rfl ⟨by omega, by omega⟩) (lo := 0) (hi := 4503599627370496) rfl ⟨by omega, by omega⟩) (oFm_p (Or.inr (Or.inr (Or.inl rfl))) (oFm_p (Or.inl rfl) (oFm_p (Or.inr (Or.inl rfl)) oFm_r))) (by rw [supd_f (by decide), supd_f (by decide)]; exact n3) (by rw [supd_f (by decide), supd_f (by decide)]; exact n2) (fun f j hf hj => by rcases hf with rfl | rfl | rfl <;> simp only [supd] <;> (repeat rw [if_neg (by omega)])) ⟨by rw [supd_f (by decide), supd_f (by decide), supd_at], by rw [supd_at]; exact v1, Or.inr (Or.inl ⟨hk, hl, ?_⟩)⟩)
          rcases hx with ⟨a1, a2, a3⟩ | ⟨a1, a2⟩
          · exact Or.inl ⟨a1, by rw [supd_f (by decide), supd_at]; exact a2, by rw [supd_at]; exact a3⟩
          · exact Or.inr ⟨a1, by rw [supd_f (by decide), supd_at]; exact a2⟩
        intro m2
        induction m2 with
        | zero =>
          intro p v hp2 hkp hv
          have ep : p = oE T L k := by omega
          have bv : 0 ≤ v ∧ v ≤ 3512479453921 := by
            rw [hv]
            exact oWe_b8 (by split <;> omega) (fun i hi => w4 (k + i) (by omega) (by split at hi <;> omega))
          have hv8 : oE T L k - k ≤ 8 → v = oWe T k (oE T L k - k) := fun q => by rw [hv, ep, if_pos q]
          rw [ep]
          refine cEnds_at gX10_cutAll_m70 rfl ?_
          refine d_fld 0 (by simp only [cE2, sev, svl, cen, List.cons_append, List.nil_append]; omega) ?_
          rw [n3]
          refine d_br (fun h => ?_) (fun h => ?_)
          · simp only [cCmp, cE2, sev, svl, cen, List.cons_append, List.nil_append] at h
            first
            | omega
            | skip
              refine d_rng (by simp only [clo, chi, cE2, sev, svl, cen, List.cons_append, List.nil_append]; omega) ?_
              refine d_br (fun h => ?_) (fun h => ?_)
              · simp only [cCmp, cE2, sev, svl, cen, List.cons_append, List.nil_append] at h
                first
                | omega
                | skip
                  refine d_set 0 n 1 (by simp only [cE2, sev, svl, cen, List.cons_append, List.nil_append]; omega) (by simp only [cE2, sev, svl, cen, List.cons_append, List.nil_append]; omega) (by omega) (by simp only [cE2, sev, svl, cen, List.cons_append, List.nil_append]; omega) ?_
                  refine d_set 0 n v (by simp only [cE2, sev, svl, cen, List.cons_append, List.nil_append]; omega) (by simp only [cE2, sev, svl, cen, List.cons_append, List.nil_append]; omega) (by omega) (by simp only [cE2, sev, svl, cen, List.cons_append, List.nil_append]; omega) ?_
                  refine d_rng (by simp only [clo, chi, cE2, sev, svl, cen, List.cons_append, List.nil_append]; omega) ?_
                  refine d_cut [((n : Int) + 1), ((oE T L k : Nat) : Int)] (by simp [cE2, sev, svl, cen] <;> omega) ?_
                  exact done 1 v bv.1 bv.2 (Or.inl ⟨by omega, rfl, hv8 (by omega)⟩)
              · simp only [cCmp, cE2, sev, svl, cen, List.cons_append, List.nil_append] at h
                first
                | omega
                | skip
                  refine d_set 0 n 4 (by simp only [cE2, sev, svl, cen, List.cons_append, List.nil_append]; omega) (by simp only [cE2, sev, svl, cen, List.cons_append, List.nil_append]; omega) (by omega) (by simp only [cE2, sev, svl, cen, List.cons_append, List.nil_append]; omega) ?_
                  refine d_set 0 n v (by simp only [cE2, sev, svl, cen, List.cons_append, List.nil_append]; omega) (by simp only [cE2, sev, svl, cen, List.cons_append, List.nil_append]; omega) (by omega) (by simp only [cE2, sev, svl, cen, List.cons_append, List.nil_append]; omega) ?_
                  refine d_rng (by simp only [clo, chi, cE2, sev, svl, cen, List.cons_append, List.nil_append]; omega) ?_
                  refine d_cut [((n : Int) + 1), ((oE T L k : Nat) : Int)] (by simp [cE2, sev, svl, cen] <;> omega) ?_
                  exact done 4 v bv.1 bv.2 (Or.inr ⟨by omega, rfl⟩)
          · simp only [cCmp, cE2, sev, svl, cen, List.cons_append, List.nil_append] at h
            first
            | omega
            | skip
              refine d_row 0 ((oE T L k)) (by simp only [cE2, sev, svl, cen, List.cons_append, List.nil_append]; omega) (by simp only [cE2, sev, svl, cen, List.cons_append, List.nil_append]; omega) (by omega) ?_
              rw [nT _]
              refine d_call (m_isLetter hp (x := (T (oE T L k)))) (by simp [cAs, cE2, sev, svl, cen] <;> omega) ?_
              intro rr M' hq
              obtain ⟨hM', hq⟩ := hq
              rw [hM']
              rcases hq with ⟨rfl, q6⟩ | ⟨rfl, q6⟩
              · refine ⟨rfl, ?_⟩
                refine d_br (fun h => ?_) (fun h => ?_)
                · simp only [cCmp, cE2, sev, svl, cen, List.cons_append, List.nil_append] at h
                  omega
                · clear h
                  refine d_rng (by simp only [clo, chi, cE2, sev, svl, cen, List.cons_append, List.nil_append]; omega) ?_
                  refine d_br (fun h => ?_) (fun h => ?_)
                  · simp only [cCmp, cE2, sev, svl, cen, List.cons_append, List.nil_append] at h
                    first
                    | omega
                    | skip
                      refine d_rng (by simp only [clo, chi, cE2, sev, svl, cen, List.cons_append, List.nil_append]; omega) ?_
                      exact absurd q6 (w3 (by omega))
                  · simp only [cCmp, cE2, sev, svl, cen, List.cons_append, List.nil_append] at h
                    first
                    | omega
                    | skip
                      refine d_rng (by simp only [clo, chi, cE2, sev, svl, cen, List.cons_append, List.nil_append]; omega) ?_
                      refine d_row 0 ((oE T L k)) (by simp only [cE2, sev, svl, cen, List.cons_append, List.nil_append]; omega) (by simp only [cE2, sev, svl, cen, List.cons_append, List.nil_append]; omega) (by omega) ?_
                      rw [nT _]
                      refine d_call (m_rank hp (x := (T (oE T L k))) (by omega)) (by simp [cAs, cE2, sev, svl, cen] <;> omega) ?_
                      intro rr M' hq
                      obtain ⟨hM', rfl⟩ := hq
                      rw [hM']
                      refine ⟨rfl, ?_⟩
                      refine d_rng (by simp only [clo, chi, cE2, sev, svl, cen, List.cons_append, List.nil_append]; omega) ?_
                      refine d_rng (by simp only [clo, chi, cE2, sev, svl, cen, List.cons_append, List.nil_append]; omega) ?_
                      exact absurd q6 (w3 (by omega))
              · refine ⟨rfl, ?_⟩
                refine d_br (fun h => ?_) (fun h => ?_)
                · clear h
                  refine d_rng (by simp only [clo, chi, cE2, sev, svl, cen, List.cons_append, List.nil_append]; omega) ?_
                  refine d_br (fun h => ?_) (fun h => ?_)
                  · simp only [cCmp, cE2, sev, svl, cen, List.cons_append, List.nil_append] at h
                    first
                    | omega
                    | skip
                      refine d_set 0 n 1 (by simp only [cE2, sev, svl, cen, List.cons_append, List.nil_append]; omega) (by simp only [cE2, sev, svl, cen, List.cons_append, List.nil_append]; omega) (by omega) (by simp only [cE2, sev, svl, cen, List.cons_append, List.nil_append]; omega) ?_
                      refine d_set 0 n v (by simp only [cE2, sev, svl, cen, List.cons_append, List.nil_append]; omega) (by simp only [cE2, sev, svl, cen, List.cons_append, List.nil_append]; omega) (by omega) (by simp only [cE2, sev, svl, cen, List.cons_append, List.nil_append]; omega) ?_
                      refine d_rng (by simp only [clo, chi, cE2, sev, svl, cen, List.cons_append, List.nil_append]; omega) ?_
                      refine d_cut [((n : Int) + 1), ((oE T L k : Nat) : Int)] (by simp [cE2, sev, svl, cen] <;> omega) ?_
                      exact done 1 v bv.1 bv.2 (Or.inl ⟨by omega, rfl, hv8 (by omega)⟩)
                  · simp only [cCmp, cE2, sev, svl, cen, List.cons_append, List.nil_append] at h
                    first
                    | omega
                    | skip
                      refine d_set 0 n 4 (by simp only [cE2, sev, svl, cen, List.cons_append, List.nil_append]; omega) (by simp only [cE2, sev, svl, cen, List.cons_append, List.nil_append]; omega) (by omega) (by simp only [cE2, sev, svl, cen, List.cons_append, List.nil_append]; omega) ?_
                      refine d_set 0 n v (by simp only [cE2, sev, svl, cen, List.cons_append, List.nil_append]; omega) (by simp only [cE2, sev, svl, cen, List.cons_append, List.nil_append]; omega) (by omega) (by simp only [cE2, sev, svl, cen, List.cons_append, List.nil_append]; omega) ?_
                      refine d_rng (by simp only [clo, chi, cE2, sev, svl, cen, List.cons_append, List.nil_append]; omega) ?_
                      refine d_cut [((n : Int) + 1), ((oE T L k : Nat) : Int)] (by simp [cE2, sev, svl, cen] <;> omega) ?_
                      exact done 4 v bv.1 bv.2 (Or.inr ⟨by omega, rfl⟩)
                · simp only [cCmp, cE2, sev, svl, cen, List.cons_append, List.nil_append] at h
                  omega
        | succ m2 ih2 =>
          intro p v hp2 hkp hv
          have wp := w4 p hkp (by omega)
          have bv : 0 ≤ v ∧ v ≤ 3512479453921 := by
            rw [hv]
            exact oWe_b8 (by split <;> omega) (fun i hi => w4 (k + i) (by omega) (by split at hi <;> omega))
          have bv7 : p - k < 8 → v ≤ 94931877133 := fun q => by
            rw [hv, if_pos (by omega)]
            have b := oWe_bd (T := T) (s := k) (n := p - k) (fun i hi => w4 (k + i) (by omega) (by omega))
            have b2 : (37 : Int) ^ (p - k) ≤ 37 ^ 7 := by
              have : p - k = 0 ∨ p - k = 1 ∨ p - k = 2 ∨ p - k = 3 ∨ p - k = 4 ∨ p - k = 5 ∨ p - k = 6 ∨ p - k = 7 := by omega
              rcases this with z | z | z | z | z | z | z | z <;> rw [z] <;> decide
            have b3 : (37 : Int) ^ 7 = 94931877133 := by decide
            omega
          have s8 : ¬ p - k < 8 → v = oWe T k (if p + 1 - k ≤ 8 then p + 1 - k else 8) := fun q => by
            rw [hv, if_neg (show ¬ p + 1 - k ≤ 8 by omega)]
            by_cases z : p - k ≤ 8
            · rw [if_pos z, show p - k = 8 by omega]
            · rw [if_neg z]
          have s7 : p - k < 8 → 37 * v + (T p - 96) = oWe T k (if p + 1 - k ≤ 8 then p + 1 - k else 8) := fun q => by
            rw [hv, if_pos (show p + 1 - k ≤ 8 by omega), if_pos (show p - k ≤ 8 by omega), show p + 1 - k = (p - k) + 1 by omega]
            show _ = 37 * oWe T k (p - k) + (T (k + (p - k)) - 96)
            rw [show k + (p - k) = p by omega]
          refine cEnds_at gX10_cutAll_m70 rfl ?_
          refine d_fld 0 (by simp only [cE2, sev, svl, cen, List.cons_append, List.nil_append]; omega) ?_
          rw [n3]
          refine d_br (fun h => ?_) (fun h => ?_)
          · simp only [cCmp, cE2, sev, svl, cen, List.cons_append, List.nil_append] at h
            first
            | omega
            | skip
              refine d_rng (by simp only [clo, chi, cE2, sev, svl, cen, List.cons_append, List.nil_append]; omega) ?_
              refine d_br (fun h => ?_) (fun h => ?_)
              · simp only [cCmp, cE2, sev, svl, cen, List.cons_append, List.nil_append] at h
                first
                | omega
                | skip
                  refine d_set 0 n 1 (by simp only [cE2, sev, svl, cen, List.cons_append, List.nil_append]; omega) (by simp only [cE2, sev, svl, cen, List.cons_append, List.nil_append]; omega) (by omega) (by simp only [cE2, sev, svl, cen, List.cons_append, List.nil_append]; omega) ?_
                  refine d_set 0 n v (by simp only [cE2, sev, svl, cen, List.cons_append, List.nil_append]; omega) (by simp only [cE2, sev, svl, cen, List.cons_append, List.nil_append]; omega) (by omega) (by simp only [cE2, sev, svl, cen, List.cons_append, List.nil_append]; omega) ?_
                  refine d_rng (by simp only [clo, chi, cE2, sev, svl, cen, List.cons_append, List.nil_append]; omega) ?_
                  refine d_cut [((n : Int) + 1), (p : Int)] (by simp [cE2, sev, svl, cen] <;> omega) ?_
                  exact (by omega)
              · simp only [cCmp, cE2, sev, svl, cen, List.cons_append, List.nil_append] at h
                first
                | omega
                | skip
                  refine d_set 0 n 4 (by simp only [cE2, sev, svl, cen, List.cons_append, List.nil_append]; omega) (by simp only [cE2, sev, svl, cen, List.cons_append, List.nil_append]; omega) (by omega) (by simp only [cE2, sev, svl, cen, List.cons_append, List.nil_append]; omega) ?_
                  refine d_set 0 n v (by simp only [cE2, sev, svl, cen, List.cons_append, List.nil_append]; omega) (by simp only [cE2, sev, svl, cen, List.cons_append, List.nil_append]; omega) (by omega) (by simp only [cE2, sev, svl, cen, List.cons_append, List.nil_append]; omega) ?_
                  refine d_rng (by simp only [clo, chi, cE2, sev, svl, cen, List.cons_append, List.nil_append]; omega) ?_
                  refine d_cut [((n : Int) + 1), (p : Int)] (by simp [cE2, sev, svl, cen] <;> omega) ?_
                  exact (by omega)
          · simp only [cCmp, cE2, sev, svl, cen, List.cons_append, List.nil_append] at h
            first
            | omega
            | skip
              refine d_row 0 p (by simp only [cE2, sev, svl, cen, List.cons_append, List.nil_append]; omega) (by simp only [cE2, sev, svl, cen, List.cons_append, List.nil_append]; omega) (by omega) ?_
              rw [nT _]
              refine d_call (m_isLetter hp (x := (T p))) (by simp [cAs, cE2, sev, svl, cen] <;> omega) ?_
              intro rr M' hq
              obtain ⟨hM', hq⟩ := hq
              rw [hM']
              rcases hq with ⟨rfl, q6⟩ | ⟨rfl, q6⟩
              · refine ⟨rfl, ?_⟩
                refine d_br (fun h => ?_) (fun h => ?_)
                · simp only [cCmp, cE2, sev, svl, cen, List.cons_append, List.nil_append] at h
                  omega
                · clear h
                  refine d_rng (by simp only [clo, chi, cE2, sev, svl, cen, List.cons_append, List.nil_append]; omega) ?_
                  refine d_br (fun h => ?_) (fun h => ?_)
                  · simp only [cCmp, cE2, sev, svl, cen, List.cons_append, List.nil_append] at h
                    first
                    | omega
                    | skip
                      refine d_rng (by simp only [clo, chi, cE2, sev, svl, cen, List.cons_append, List.nil_append]; omega) ?_
                      refine d_cut [(n : Int), ((p + 1 : Nat) : Int), (k : Int), v] (by simp [cE2, sev, svl, cen] <;> omega) ?_
                      exact ih2 (p + 1) v (by omega) (by omega) (s8 (by omega))
                  · simp only [cCmp, cE2, sev, svl, cen, List.cons_append, List.nil_append] at h
                    first
                    | omega
                    | skip
                      refine d_rng (by simp only [clo, chi, cE2, sev, svl, cen, List.cons_append, List.nil_append]; omega) ?_
                      refine d_row 0 p (by simp only [cE2, sev, svl, cen, List.cons_append, List.nil_append]; omega) (by simp only [cE2, sev, svl, cen, List.cons_append, List.nil_append]; omega) (by omega) ?_
                      rw [nT _]
                      refine d_call (m_rank hp (x := (T p)) (by omega)) (by simp [cAs, cE2, sev, svl, cen] <;> omega) ?_
                      intro rr M' hq
                      obtain ⟨hM', rfl⟩ := hq
                      rw [hM']
                      refine ⟨rfl, ?_⟩
                      refine d_rng (by simp only [clo, chi, cE2, sev, svl, cen, List.cons_append, List.nil_append]; omega) ?_
                      refine d_rng (by simp only [clo, chi, cE2, sev, svl, cen, List.cons_append, List.nil_append]; omega) ?_
                      refine d_cut [(n : Int), ((p + 1 : Nat) : Int), (k : Int), 37 * v + (T p - 96)] (by simp [cE2, sev, svl, cen] <;> omega) ?_
                      exact ih2 (p + 1) _ (by omega) (by omega) (s7 (by omega))
              · refine ⟨rfl, ?_⟩
                refine d_br (fun h => ?_) (fun h => ?_)
                · clear h
                  refine d_rng (by simp only [clo, chi, cE2, sev, svl, cen, List.cons_append, List.nil_append]; omega) ?_
                  refine d_br (fun h => ?_) (fun h => ?_)
                  · simp only [cCmp, cE2, sev, svl, cen, List.cons_append, List.nil_append] at h
                    first
                    | omega
                    | skip
                      refine d_set 0 n 1 (by simp only [cE2, sev, svl, cen, List.cons_append, List.nil_append]; omega) (by simp only [cE2, sev, svl, cen, List.cons_append, List.nil_append]; omega) (by omega) (by simp only [cE2, sev, svl, cen, List.cons_append, List.nil_append]; omega) ?_
                      refine d_set 0 n v (by simp only [cE2, sev, svl, cen, List.cons_append, List.nil_append]; omega) (by simp only [cE2, sev, svl, cen, List.cons_append, List.nil_append]; omega) (by omega) (by simp only [cE2, sev, svl, cen, List.cons_append, List.nil_append]; omega) ?_
                      refine d_rng (by simp only [clo, chi, cE2, sev, svl, cen, List.cons_append, List.nil_append]; omega) ?_
                      refine d_cut [((n : Int) + 1), (p : Int)] (by simp [cE2, sev, svl, cen] <;> omega) ?_
                      exact (by omega)
                  · simp only [cCmp, cE2, sev, svl, cen, List.cons_append, List.nil_append] at h
                    first
                    | omega
                    | skip
                      refine d_set 0 n 4 (by simp only [cE2, sev, svl, cen, List.cons_append, List.nil_append]; omega) (by simp only [cE2, sev, svl, cen, List.cons_append, List.nil_append]; omega) (by omega) (by simp only [cE2, sev, svl, cen, List.cons_append, List.nil_append]; omega) ?_
                      refine d_set 0 n v (by simp only [cE2, sev, svl, cen, List.cons_append, List.nil_append]; omega) (by simp only [cE2, sev, svl, cen, List.cons_append, List.nil_append]; omega) (by omega) (by simp only [cE2, sev, svl, cen, List.cons_append, List.nil_append]; omega) ?_
                      have bv8 := bv7 (by omega)
                      refine d_rng (by simp only [clo, chi, cE2, sev, svl, cen, List.cons_append, List.nil_append]; omega) ?_
                      refine d_cut [((n : Int) + 1), (p : Int)] (by simp [cE2, sev, svl, cen] <;> omega) ?_
                      exact (by omega)
                · simp only [cCmp, cE2, sev, svl, cen, List.cons_append, List.nil_append] at h
                  omega
      have l159 : oIl (T k) = false → oId (T k) = true → ¬ (T k = 10 ∨ T k = 32) → ∀ (m2 p : Nat) (v : Int), p + m2 = oE T L k → k ≤ p → v = oNv T k (if p - k ≤ 4 then p - k else 4) → cEnds (cBG tm tf EX l dC dI cA ad scrS (d + 3)) (fun rr MM => rr = [] ∧ sI tg MM ∧ oFm oPc M MM ∧ MM 1 0 2 = 0 ∧ MM 1 0 7 = 0 ∧ MM 1 0 8 = 0 ∧ ∃ N, oMT T L N MM) 90 gX10_cutAll 159 [(n : Int), (p : Int), (k : Int), v] (supd MW 14 0 n (k : Int)) := by
        intro hl0 hl hb
        have hR : oR oId T L (L - k) k = oE T L k := by
          unfold oE
          rw [if_neg (by omega), hl0, if_neg (by decide), if_pos hl]
        obtain ⟨w1, w2, w3⟩ := oR_end (P := oId) (T := T) (L := L) (p := k) (by omega)
        have w4 : ∀ i, k ≤ i → i < oE T L k → 48 ≤ T i ∧ T i ≤ 57 := fun i i1 i2 => oId_iff.mp (oR_in (L - k) k i i1 (by rw [hR]; exact i2)).2
        rw [hR] at w1 w2 w3
        have w3 : oE T L k < L → ¬ (48 ≤ T (oE T L k) ∧ T (oE T L k) ≤ 57) := fun q z => w3 ⟨q, oId_iff.mpr z⟩
        have n3 : supd MW 14 0 n (k : Int) 1 0 3 = (L : Int) := (supd_f (by decide)).trans g3
        have n2 : supd MW 14 0 n (k : Int) 1 0 2 = 0 := (supd_f (by decide)).trans g4
        have nT : ∀ i, supd MW 14 0 n (k : Int) 12 0 i = T i := fun i => (supd_f (by decide)).trans (eT i)
        have i1 : sI tg (supd MW 14 0 n (k : Int)) := wI g1 (lo := 0) (hi := 1000) rfl ⟨by omega, by omega⟩
        have done : ∀ (x v : Int), 0 ≤ v → v ≤ 10000 → ((oE T L k - k ≤ 4 ∧ x = 2 ∧ v = oNv T k (oE T L k - k)) ∨ (4 < oE T L k - k ∧ x = 4)) → cEnds (cBG tm tf EX l dC dI cA ad scrS (d + 3)) (fun rr MM => rr = [] ∧ sI tg MM ∧ oFm oPc M MM ∧ MM 1 0 2 = 0 ∧ MM 1 0 7 = 0 ∧ MM 1 0 8 = 0 ∧ ∃ N, oMT T L N MM) 90 gX10_cutAll 17 [((n + 1 : Nat) : Int), ((oE T L k : Nat) : Int)] (supd (supd (supd MW 14 0 n (k : Int)) 13 0 n x) 15 0 n v) := by
          intro x v v1 v2 hx
          refine ih (oE T L k) (n + 1) _ (by omega) (oI_tok h0 hk hb (wI (wI i1 (lo := 0) (hi := 4) rfl ⟨by omega, by omega⟩) (lo := 0) (hi := 4503599627370496) rfl ⟨by omega, by omega⟩) (oFm_p (Or.inr (Or.inr (Or.inl rfl))) (oFm_p (Or.inl rfl) (oFm_p (Or.inr (Or.inl rfl)) oFm_r))) (by rw [supd_f (by decide), supd_f (by decide)]; exact n3) (by rw [supd_f (by decide), supd_f (by decide)]; exact n2) (fun f j hf hj => by rcases hf with rfl | rfl | rfl <;> simp only [supd] <;> (repeat rw [if_neg (by omega)])) ⟨by rw [supd_f (by decide), supd_f (by decide), supd_at], by rw [supd_at]; exact v1, Or.inr (Or.inr (Or.inl ⟨hk, hl0, hl, ?_⟩))⟩)
          rcases hx with ⟨a1, a2, a3⟩ | ⟨a1, a2⟩
          · exact Or.inl ⟨a1, by rw [supd_f (by decide), supd_at]; exact a2, by rw [supd_at]; unfold oV; exact a3⟩
          · exact Or.inr ⟨a1, by rw [supd_f (by decide), supd_at]; exact a2⟩
        intro m2
        induction m2 with
        | zero =>
          intro p v hp2 hkp hv
          have ep : p = oE T L k := by omega
          have bv : 0 ≤ v ∧ v ≤ 10000 := by
            rw [hv]
            exact oNv_b4 (by split <;> omega) (fun i hi => w4 (k + i) (by omega) (by split at hi <;> omega))
          have hv8 : oE T L k - k ≤ 4 → v = oNv T k (oE T L k - k) := fun q => by rw [hv, ep, if_pos q]
          rw [ep]
          refine cEnds_at gX10_cutAll_m159 rfl ?_
          refine d_fld 0 (by simp only [cE2, sev, svl, cen, List.cons_append, List.nil_append]; omega) ?_
          rw [n3]
          refine d_br (fun h => ?_) (fun h => ?_)
          · simp only [cCmp, cE2, sev, svl, cen, List.cons_append, List.nil_append] at h
            first
            | omega
            | skip
              refine d_rng (by simp only [clo, chi, cE2, sev, svl, cen, List.cons_append, List.nil_append]; omega) ?_
              refine d_br (fun h => ?_) (fun h => ?_)
              · simp only [cCmp, cE2, sev, svl, cen, List.cons_append, List.nil_append] at h
                first
                | omega
                | skip
                  refine d_set 0 n 2 (by simp only [cE2, sev, svl, cen, List.cons_append, List.nil_append]; omega) (by simp only [cE2, sev, svl, cen, List.cons_append, List.nil_append]; omega) (by omega) (by simp only [cE2, sev, svl, cen, List.cons_append, List.nil_append]; omega) ?_
                  refine d_set 0 n v (by simp only [cE2, sev, svl, cen, List.cons_append, List.nil_append]; omega) (by simp only [cE2, sev, svl, cen, List.cons_append, List.nil_append]; omega) (by omega) (by simp only [cE2, sev, svl, cen, List.cons_append, List.nil_append]; omega) ?_
                  refine d_rng (by simp only [clo, chi, cE2, sev, svl, cen, List.cons_append, List.nil_append]; omega) ?_
                  refine d_cut [((n : Int) + 1), ((oE T L k : Nat) : Int)] (by simp [cE2, sev, svl, cen] <;> omega) ?_
                  exact done 2 v bv.1 bv.2 (Or.inl ⟨by omega, rfl, hv8 (by omega)⟩)
              · simp only [cCmp, cE2, sev, svl, cen, List.cons_append, List.nil_append] at h
                first
                | omega
                | skip
                  refine d_set 0 n 4 (by simp only [cE2, sev, svl, cen, List.cons_append, List.nil_append]; omega) (by simp only [cE2, sev, svl, cen, List.cons_append, List.nil_append]; omega) (by omega) (by simp only [cE2, sev, svl, cen, List.cons_append, List.nil_append]; omega) ?_
                  refine d_set 0 n v (by simp only [cE2, sev, svl, cen, List.cons_append, List.nil_append]; omega) (by simp only [cE2, sev, svl, cen, List.cons_append, List.nil_append]; omega) (by omega) (by simp only [cE2, sev, svl, cen, List.cons_append, List.nil_append]; omega) ?_
                  refine d_rng (by simp only [clo, chi, cE2, sev, svl, cen, List.cons_append, List.nil_append]; omega) ?_
                  refine d_cut [((n : Int) + 1), ((oE T L k : Nat) : Int)] (by simp [cE2, sev, svl, cen] <;> omega) ?_
                  exact done 4 v bv.1 bv.2 (Or.inr ⟨by omega, rfl⟩)
          · simp only [cCmp, cE2, sev, svl, cen, List.cons_append, List.nil_append] at h
            first
            | omega
            | skip
              refine d_row 0 ((oE T L k)) (by simp only [cE2, sev, svl, cen, List.cons_append, List.nil_append]; omega) (by simp only [cE2, sev, svl, cen, List.cons_append, List.nil_append]; omega) (by omega) ?_
              rw [nT _]
              refine d_call (m_isDigit hp (x := (T (oE T L k)))) (by simp [cAs, cE2, sev, svl, cen] <;> omega) ?_
              intro rr M' hq
              obtain ⟨hM', hq⟩ := hq
              rw [hM']
              rcases hq with ⟨rfl, q6⟩ | ⟨rfl, q6⟩
              · refine ⟨rfl, ?_⟩
                refine d_br (fun h => ?_) (fun h => ?_)
                · simp only [cCmp, cE2, sev, svl, cen, List.cons_append, List.nil_append] at h
                  omega
                · clear h
                  refine d_rng (by simp only [clo, chi, cE2, sev, svl, cen, List.cons_append, List.nil_append]; omega) ?_
                  refine d_br (fun h => ?_) (fun h => ?_)
                  · simp only [cCmp, cE2, sev, svl, cen, List.cons_append, List.nil_append] at h
                    first
                    | omega
                    | skip
                      refine d_rng (by simp only [clo, chi, cE2, sev, svl, cen, List.cons_append, List.nil_append]; omega) ?_
                      exact absurd q6 (w3 (by omega))
                  · simp only [cCmp, cE2, sev, svl, cen, List.cons_append, List.nil_append] at h
                    first
                    | omega
                    | skip
                      refine d_rng (by simp only [clo, chi, cE2, sev, svl, cen, List.cons_append, List.nil_append]; omega) ?_
                      refine d_row 0 ((oE T L k)) (by simp only [cE2, sev, svl, cen, List.cons_append, List.nil_append]; omega) (by simp only [cE2, sev, svl, cen, List.cons_append, List.nil_append]; omega) (by omega) ?_
                      rw [nT _]
                      refine d_rng (by simp only [clo, chi, cE2, sev, svl, cen, List.cons_append, List.nil_append]; omega) ?_
                      refine d_rng (by simp only [clo, chi, cE2, sev, svl, cen, List.cons_append, List.nil_append]; omega) ?_
                      refine d_rng (by simp only [clo, chi, cE2, sev, svl, cen, List.cons_append, List.nil_append]; omega) ?_
                      exact absurd q6 (w3 (by omega))
              · refine ⟨rfl, ?_⟩
                refine d_br (fun h => ?_) (fun h => ?_)
                · clear h
                  refine d_rng (by simp only [clo, chi, cE2, sev, svl, cen, List.cons_append, List.nil_append]; omega) ?_
                  refine d_br (fun h => ?_) (fun h => ?_)
                  · simp only [cCmp, cE2, sev, svl, cen, List.cons_append, List.nil_append] at h
                    first
                    | omega
                    | skip
                      refine d_set 0 n 2 (by simp only [cE2, sev, svl, cen, List.cons_append, List.nil_append]; omega) (by simp only [cE2, sev, svl, cen, List.cons_append, List.nil_append]; omega) (by omega) (by simp only [cE2, sev, svl, cen, List.cons_append, List.nil_append]; omega) ?_
                      refine d_set 0 n v (by simp only [cE2, sev, svl, cen, List.cons_append, List.nil_append]; omega) (by simp only [cE2, sev, svl, cen, List.cons_append, List.nil_append]; omega) (by omega) (by simp only [cE2, sev, svl, cen, List.cons_append, List.nil_append]; omega) ?_
                      refine d_rng (by simp only [clo, chi, cE2, sev, svl, cen, List.cons_append, List.nil_append]; omega) ?_
                      refine d_cut [((n : Int) + 1), ((oE T L k : Nat) : Int)] (by simp [cE2, sev, svl, cen] <;> omega) ?_
                      exact done 2 v bv.1 bv.2 (Or.inl ⟨by omega, rfl, hv8 (by omega)⟩)
                  · simp only [cCmp, cE2, sev, svl, cen, List.cons_append, List.nil_append] at h
                    first
                    | omega
                    | skip
                      refine d_set 0 n 4 (by simp only [cE2, sev, svl, cen, List.cons_append, List.nil_append]; omega) (by simp only [cE2, sev, svl, cen, List.cons_append, List.nil_append]; omega) (by omega) (by simp only [cE2, sev, svl, cen, List.cons_append, List.nil_append]; omega) ?_
                      refine d_set 0 n v (by simp only [cE2, sev, svl, cen, List.cons_append, List.nil_append]; omega) (by simp only [cE2, sev, svl, cen, List.cons_append, List.nil_append]; omega) (by omega) (by simp only [cE2, sev, svl, cen, List.cons_append, List.nil_append]; omega) ?_
                      refine d_rng (by simp only [clo, chi, cE2, sev, svl, cen, List.cons_append, List.nil_append]; omega) ?_
                      refine d_cut [((n : Int) + 1), ((oE T L k : Nat) : Int)] (by simp [cE2, sev, svl, cen] <;> omega) ?_
                      exact done 4 v bv.1 bv.2 (Or.inr ⟨by omega, rfl⟩)
                · simp only [cCmp, cE2, sev, svl, cen, List.cons_append, List.nil_append] at h
                  omega
        | succ m2 ih2 =>
          intro p v hp2 hkp hv
          have wp := w4 p hkp (by omega)
          have bv : 0 ≤ v ∧ v ≤ 10000 := by
            rw [hv]
            exact oNv_b4 (by split <;> omega) (fun i hi => w4 (k + i) (by omega) (by split at hi <;> omega))
          have s8 : ¬ p - k < 4 → v = oNv T k (if p + 1 - k ≤ 4 then p + 1 - k else 4) := fun q => by
            rw [hv, if_neg (show ¬ p + 1 - k ≤ 4 by omega)]
            by_cases z : p - k ≤ 4
            · rw [if_pos z, show p - k = 4 by omega]
            · rw [if_neg z]
          have s7 : p - k < 4 → 10 * v + T p - 48 = oNv T k (if p + 1 - k ≤ 4 then p + 1 - k else 4) := fun q => by
            rw [hv, if_pos (show p + 1 - k ≤ 4 by omega), if_pos (show p - k ≤ 4 by omega), show p + 1 - k = (p - k) + 1 by omega]
            show _ = 10 * oNv T k (p - k) + (T (k + (p - k)) - 48)
            rw [show k + (p - k) = p by omega]
            omega
          refine cEnds_at gX10_cutAll_m159 rfl ?_
          refine d_fld 0 (by simp only [cE2, sev, svl, cen, List.cons_append, List.nil_append]; omega) ?_
          rw [n3]
          refine d_br (fun h => ?_) (fun h => ?_)
          · simp only [cCmp, cE2, sev, svl, cen, List.cons_append, List.nil_append] at h
            first
            | omega
            | skip
              refine d_rng (by simp only [clo, chi, cE2, sev, svl, cen, List.cons_append, List.nil_append]; omega) ?_
              refine d_br (fun h => ?_) (fun h => ?_)
              · simp only [cCmp, cE2, sev, svl, cen, List.cons_append, List.nil_append] at h
                first
                | omega
                | skip
                  refine d_set 0 n 2 (by simp only [cE2, sev, svl, cen, List.cons_append, List.nil_append]; omega) (by simp only [cE2, sev, svl, cen, List.cons_append, List.nil_append]; omega) (by omega) (by simp only [cE2, sev, svl, cen, List.cons_append, List.nil_append]; omega) ?_
                  refine d_set 0 n v (by simp only [cE2, sev, svl, cen, List.cons_append, List.nil_append]; omega) (by simp only [cE2, sev, svl, cen, List.cons_append, List.nil_append]; omega) (by omega) (by simp only [cE2, sev, svl, cen, List.cons_append, List.nil_append]; omega) ?_
                  refine d_rng (by simp only [clo, chi, cE2, sev, svl, cen, List.cons_append, List.nil_append]; omega) ?_
                  refine d_cut [((n : Int) + 1), (p : Int)] (by simp [cE2, sev, svl, cen] <;> omega) ?_
                  exact (by omega)
              · simp only [cCmp, cE2, sev, svl, cen, List.cons_append, List.nil_append] at h
                first
                | omega
                | skip
                  refine d_set 0 n 4 (by simp only [cE2, sev, svl, cen, List.cons_append, List.nil_append]; omega) (by simp only [cE2, sev, svl, cen, List.cons_append, List.nil_append]; omega) (by omega) (by simp only [cE2, sev, svl, cen, List.cons_append, List.nil_append]; omega) ?_
                  refine d_set 0 n v (by simp only [cE2, sev, svl, cen, List.cons_append, List.nil_append]; omega) (by simp only [cE2, sev, svl, cen, List.cons_append, List.nil_append]; omega) (by omega) (by simp only [cE2, sev, svl, cen, List.cons_append, List.nil_append]; omega) ?_
                  refine d_rng (by simp only [clo, chi, cE2, sev, svl, cen, List.cons_append, List.nil_append]; omega) ?_
                  refine d_cut [((n : Int) + 1), (p : Int)] (by simp [cE2, sev, svl, cen] <;> omega) ?_
                  exact (by omega)
          · simp only [cCmp, cE2, sev, svl, cen, List.cons_append, List.nil_append] at h
            first
            | omega
            | skip
              refine d_row 0 p (by simp only [cE2, sev, svl, cen, List.cons_append, List.nil_append]; omega) (by simp only [cE2, sev, svl, cen, List.cons_append, List.nil_append]; omega) (by omega) ?_
              rw [nT _]
              refine d_call (m_isDigit hp (x := (T p))) (by simp [cAs, cE2, sev, svl, cen] <;> omega) ?_
              intro rr M' hq
              obtain ⟨hM', hq⟩ := hq
              rw [hM']
              rcases hq with ⟨rfl, q6⟩ | ⟨rfl, q6⟩
              · refine ⟨rfl, ?_⟩
                refine d_br (fun h => ?_) (fun h => ?_)
                · simp only [cCmp, cE2, sev, svl, cen, List.cons_append, List.nil_append] at h
                  omega
                · clear h
                  refine d_rng (by simp only [clo, chi, cE2, sev, svl, cen, List.cons_append, List.nil_append]; omega) ?_
                  refine d_br (fun h => ?_) (fun h => ?_)
                  · simp only [cCmp, cE2, sev, svl, cen, List.cons_append, List.nil_append] at h
                    first
                    | omega
                    | skip
                      refine d_rng (by simp only [clo, chi, cE2, sev, svl, cen, List.cons_append, List.nil_append]; omega) ?_
                      refine d_cut [(n : Int), ((p + 1 : Nat) : Int), (k : Int), v] (by simp [cE2, sev, svl, cen] <;> omega) ?_
                      exact ih2 (p + 1) v (by omega) (by omega) (s8 (by omega))
                  · simp only [cCmp, cE2, sev, svl, cen, List.cons_append, List.nil_append] at h
                    first
                    | omega
                    | skip
                      refine d_rng (by simp only [clo, chi, cE2, sev, svl, cen, List.cons_append, List.nil_append]; omega) ?_
                      refine d_row 0 p (by simp only [cE2, sev, svl, cen, List.cons_append, List.nil_append]; omega) (by simp only [cE2, sev, svl, cen, List.cons_append, List.nil_append]; omega) (by omega) ?_
                      rw [nT _]
                      refine d_rng (by simp only [clo, chi, cE2, sev, svl, cen, List.cons_append, List.nil_append]; omega) ?_
                      refine d_rng (by simp only [clo, chi, cE2, sev, svl, cen, List.cons_append, List.nil_append]; omega) ?_
                      refine d_rng (by simp only [clo, chi, cE2, sev, svl, cen, List.cons_append, List.nil_append]; omega) ?_
                      refine d_cut [(n : Int), ((p + 1 : Nat) : Int), (k : Int), 10 * v + T p - 48] (by simp [cE2, sev, svl, cen] <;> omega) ?_
                      exact ih2 (p + 1) _ (by omega) (by omega) (s7 (by omega))
              · refine ⟨rfl, ?_⟩
                refine d_br (fun h => ?_) (fun h => ?_)
                · clear h
                  refine d_rng (by simp only [clo, chi, cE2, sev, svl, cen, List.cons_append, List.nil_append]; omega) ?_
                  refine d_br (fun h => ?_) (fun h => ?_)
                  · simp only [cCmp, cE2, sev, svl, cen, List.cons_append, List.nil_append] at h
                    first
                    | omega
                    | skip
                      refine d_set 0 n 2 (by simp only [cE2, sev, svl, cen, List.cons_append, List.nil_append]; omega) (by simp only [cE2, sev, svl, cen, List.cons_append, List.nil_append]; omega) (by omega) (by simp only [cE2, sev, svl, cen, List.cons_append, List.nil_append]; omega) ?_
                      refine d_set 0 n v (by simp only [cE2, sev, svl, cen, List.cons_append, List.nil_append]; omega) (by simp only [cE2, sev, svl, cen, List.cons_append, List.nil_append]; omega) (by omega) (by simp only [cE2, sev, svl, cen, List.cons_append, List.nil_append]; omega) ?_
                      refine d_rng (by simp only [clo, chi, cE2, sev, svl, cen, List.cons_append, List.nil_append]; omega) ?_
                      refine d_cut [((n : Int) + 1), (p : Int)] (by simp [cE2, sev, svl, cen] <;> omega) ?_
                      exact (by omega)
                  · simp only [cCmp, cE2, sev, svl, cen, List.cons_append, List.nil_append] at h
                    first
                    | omega
                    | skip
                      refine d_set 0 n 4 (by simp only [cE2, sev, svl, cen, List.cons_append, List.nil_append]; omega) (by simp only [cE2, sev, svl, cen, List.cons_append, List.nil_append]; omega) (by omega) (by simp only [cE2, sev, svl, cen, List.cons_append, List.nil_append]; omega) ?_
                      refine d_set 0 n v (by simp only [cE2, sev, svl, cen, List.cons_append, List.nil_append]; omega) (by simp only [cE2, sev, svl, cen, List.cons_append, List.nil_append]; omega) (by omega) (by simp only [cE2, sev, svl, cen, List.cons_append, List.nil_append]; omega) ?_
                      refine d_rng (by simp only [clo, chi, cE2, sev, svl, cen, List.cons_append, List.nil_append]; omega) ?_
                      refine d_cut [((n : Int) + 1), (p : Int)] (by simp [cE2, sev, svl, cen] <;> omega) ?_
                      exact (by omega)
                · simp only [cCmp, cE2, sev, svl, cen, List.cons_append, List.nil_append] at h
                  omega
      have one : ∀ x : Int, oIl (T k) = false → oId (T k) = false → ¬ (T k = 10 ∨ T k = 32) → ((oSg (T k) ≠ 25 ∧ x = 3) ∨ (oSg (T k) = 25 ∧ x = 4)) → cEnds (cBG tm tf EX l dC dI cA ad scrS (d + 3)) (fun rr MM => rr = [] ∧ sI tg MM ∧ oFm oPc M MM ∧ MM 1 0 2 = 0 ∧ MM 1 0 7 = 0 ∧ MM 1 0 8 = 0 ∧ ∃ N, oMT T L N MM) 90 gX10_cutAll 17 [((n + 1 : Nat) : Int), ((k + 1 : Nat) : Int)] (supd (supd (supd MW 14 0 n (k : Int)) 13 0 n x) 15 0 n (T k)) := by
        intro x hl hd hb hx
        have eE : oE T L k = k + 1 := by
          unfold oE
          rw [if_neg (by omega), hl, if_neg (by decide), hd, if_neg (by decide)]
        have r := oI_tok (MV := supd (supd (supd MW 14 0 n (k : Int)) 13 0 n x) 15 0 n (T k)) h0 hk hb (wI (wI (wI g1 (lo := 0) (hi := 1000) rfl ⟨by omega, by omega⟩) (lo := 0) (hi := 4) rfl ⟨by omega, by omega⟩) (lo := 0) (hi := 4503599627370496) rfl ⟨by omega, by omega⟩) (oFm_p (Or.inr (Or.inr (Or.inl rfl))) (oFm_p (Or.inl rfl) (oFm_p (Or.inr (Or.inl rfl)) oFm_r))) (by rw [supd_f (by decide), supd_f (by decide), supd_f (by decide)]; exact g3) (by rw [supd_f (by decide), supd_f (by decide), supd_f (by decide)]; exact g4) (fun f j hf hj => by rcases hf with rfl | rfl | rfl <;> simp only [supd] <;> (repeat rw [if_neg (by omega)])) ⟨by rw [supd_f (by decide), supd_f (by decide), supd_at], by rw [supd_at]; omega, Or.inr (Or.inr (Or.inr ⟨hk, hl, hd, by rw [supd_at], hx.imp (fun z => ⟨z.1, by rw [supd_f (by decide), supd_at]; exact z.2⟩) (fun z => ⟨z.1, by rw [supd_f (by decide), supd_at]; exact z.2⟩)⟩))⟩
        rw [eE] at r
        exact ih (k + 1) (n + 1) _ (by omega) r
      have blank : (T k = 10 ∨ T k = 32) → cEnds (cBG tm tf EX l dC dI cA ad scrS (d + 3)) (fun rr MM => rr = [] ∧ sI tg MM ∧ oFm oPc M MM ∧ MM 1 0 2 = 0 ∧ MM 1 0 7 = 0 ∧ MM 1 0 8 = 0 ∧ ∃ N, oMT T L N MM) 90 gX10_cutAll 17 [(n : Int), ((k + 1 : Nat) : Int)] MW := fun hb => ih (k + 1) n MW (by omega) ⟨g1, g2, g3, g4, by omega, by omega, by rw [← g7]; exact (oS_blank hk hb).symm, g8⟩
      refine cEnds_at gX10_cutAll_m17 rfl ?_
      refine d_fld 0 (by simp only [cE2, sev, svl, cen, List.cons_append, List.nil_append]; omega) ?_
      rw [g3]
      refine d_br (fun h => ?_) (fun h => ?_)
      · simp only [cCmp, cE2, sev, svl, cen, List.cons_append, List.nil_append] at h
        first
        | omega
        | skip
          refine d_set 0 n 0 (by simp only [cE2, sev, svl, cen, List.cons_append, List.nil_append]; omega) (by simp only [cE2, sev, svl, cen, List.cons_append, List.nil_append]; omega) (by omega) (by simp only [cE2, sev, svl, cen, List.cons_append, List.nil_append]; omega) ?_
          refine d_fld 0 (by simp only [cE2, sev, svl, cen, List.cons_append, List.nil_append]; omega) ?_
          rw [supd_f (by decide)]
          rw [g3]
          refine d_set 0 n (L : Int) (by simp only [cE2, sev, svl, cen, List.cons_append, List.nil_append]; omega) (by simp only [cE2, sev, svl, cen, List.cons_append, List.nil_append]; omega) (by omega) (by simp only [cE2, sev, svl, cen, List.cons_append, List.nil_append]; omega) ?_
          refine d_put 0 0 (by simp only [cE2, sev, svl, cen, List.cons_append, List.nil_append]; omega) (by simp only [cE2, sev, svl, cen, List.cons_append, List.nil_append]; omega) ?_
          refine d_put 0 0 (by simp only [cE2, sev, svl, cen, List.cons_append, List.nil_append]; omega) (by simp only [cE2, sev, svl, cen, List.cons_append, List.nil_append]; omega) ?_
          exact d_ret [] rfl (by decide) (by omega)
      · simp only [cCmp, cE2, sev, svl, cen, List.cons_append, List.nil_append] at h
        first
        | omega
        | skip
          refine d_row 0 k (by simp only [cE2, sev, svl, cen, List.cons_append, List.nil_append]; omega) (by simp only [cE2, sev, svl, cen, List.cons_append, List.nil_append]; omega) (by omega) ?_
          rw [eT k]
          refine d_br (fun h => ?_) (fun h => ?_)
          · simp only [cCmp, cE2, sev, svl, cen, List.cons_append, List.nil_append] at h
            first
            | omega
            | skip
              refine d_rng (by simp only [clo, chi, cE2, sev, svl, cen, List.cons_append, List.nil_append]; omega) ?_
              refine d_cut [(n : Int), ((k + 1 : Nat) : Int)] (by simp [cE2, sev, svl, cen] <;> omega) ?_
              exact blank (by omega)
          · simp only [cCmp, cE2, sev, svl, cen, List.cons_append, List.nil_append] at h
            first
            | omega
            | skip
              refine d_br (fun h => ?_) (fun h => ?_)
              · simp only [cCmp, cE2, sev, svl, cen, List.cons_append, List.nil_append] at h
                first
                | omega
                | skip
                  refine d_set 0 n (k : Int) (by simp only [cE2, sev, svl, cen, List.cons_append, List.nil_append]; omega) (by simp only [cE2, sev, svl, cen, List.cons_append, List.nil_append]; omega) (by omega) (by simp only [cE2, sev, svl, cen, List.cons_append, List.nil_append]; omega) ?_
                  refine d_call (m_isLetter hp (x := (T k))) (by simp [cAs, cE2, sev, svl, cen] <;> omega) ?_
                  intro rr M' hq
                  obtain ⟨hM', hq⟩ := hq
                  rw [hM']
                  rcases hq with ⟨rfl, q4⟩ | ⟨rfl, q4⟩
                  · refine ⟨rfl, ?_⟩
                    refine d_br (fun h => ?_) (fun h => ?_)
                    · simp only [cCmp, cE2, sev, svl, cen, List.cons_append, List.nil_append] at h
                      omega
                    · clear h
                      refine d_cut [(n : Int), (k : Int), (k : Int), 0] (by simp [cE2, sev, svl, cen] <;> omega) ?_
                      exact l70 (oIl_iff.mpr q4) (by omega) (oE T L k - k) k 0 (by omega) (Nat.le_refl _) (by rw [Nat.sub_self]; rfl)
                  · refine ⟨rfl, ?_⟩
                    refine d_br (fun h => ?_) (fun h => ?_)
                    · clear h
                      refine d_call (m_isDigit hp (x := (T k))) (by simp [cAs, cE2, sev, svl, cen] <;> omega) ?_
                      intro rr M' hq
                      obtain ⟨hM', hq⟩ := hq
                      rw [hM']
                      rcases hq with ⟨rfl, q5⟩ | ⟨rfl, q5⟩
                      · refine ⟨rfl, ?_⟩
                        refine d_br (fun h => ?_) (fun h => ?_)
                        · simp only [cCmp, cE2, sev, svl, cen, List.cons_append, List.nil_append] at h
                          omega
                        · clear h
                          refine d_cut [(n : Int), (k : Int), (k : Int), 0] (by simp [cE2, sev, svl, cen] <;> omega) ?_
                          exact l159 (Bool.eq_false_iff.mpr (fun z => q4 (oIl_iff.mp z))) (oId_iff.mpr q5) (by omega) (oE T L k - k) k 0 (by omega) (Nat.le_refl _) (by rw [Nat.sub_self]; rfl)
                      · refine ⟨rfl, ?_⟩
                        refine d_br (fun h => ?_) (fun h => ?_)
                        · clear h
                          refine d_call (m_isSignOf hp (x := (T k))) (by simp [cAs, cE2, sev, svl, cen] <;> omega) ?_
                          intro rr M' hq
                          obtain ⟨hM', hq⟩ := hq
                          rw [hM']
                          rcases hq with ⟨rfl, q6⟩ | ⟨rfl, q6⟩
                          · refine ⟨rfl, ?_⟩
                            refine d_br (fun h => ?_) (fun h => ?_)
                            · simp only [cCmp, cE2, sev, svl, cen, List.cons_append, List.nil_append] at h
                              omega
                            · clear h
                              refine d_set 0 n 3 (by simp only [cE2, sev, svl, cen, List.cons_append, List.nil_append]; omega) (by simp only [cE2, sev, svl, cen, List.cons_append, List.nil_append]; omega) (by omega) (by simp only [cE2, sev, svl, cen, List.cons_append, List.nil_append]; omega) ?_
                              refine d_rng (by simp only [clo, chi, cE2, sev, svl, cen, List.cons_append, List.nil_append]; omega) ?_
                              refine d_set 0 n (T k) (by simp only [cE2, sev, svl, cen, List.cons_append, List.nil_append]; omega) (by simp only [cE2, sev, svl, cen, List.cons_append, List.nil_append]; omega) (by omega) (by simp only [cE2, sev, svl, cen, List.cons_append, List.nil_append]; omega) ?_
                              refine d_rng (by simp only [clo, chi, cE2, sev, svl, cen, List.cons_append, List.nil_append]; omega) ?_
                              refine d_cut [((n + 1 : Nat) : Int), ((k + 1 : Nat) : Int)] (by simp [cE2, sev, svl, cen] <;> omega) ?_
                              exact one 3 (Bool.eq_false_iff.mpr (fun z => q4 (oIl_iff.mp z))) (Bool.eq_false_iff.mpr (fun z => q5 (oId_iff.mp z))) (by omega) (Or.inl ⟨q6, rfl⟩)
                          · refine ⟨rfl, ?_⟩
                            refine d_br (fun h => ?_) (fun h => ?_)
                            · clear h
                              refine d_set 0 n 4 (by simp only [cE2, sev, svl, cen, List.cons_append, List.nil_append]; omega) (by simp only [cE2, sev, svl, cen, List.cons_append, List.nil_append]; omega) (by omega) (by simp only [cE2, sev, svl, cen, List.cons_append, List.nil_append]; omega) ?_
                              refine d_rng (by simp only [clo, chi, cE2, sev, svl, cen, List.cons_append, List.nil_append]; omega) ?_
                              refine d_set 0 n (T k) (by simp only [cE2, sev, svl, cen, List.cons_append, List.nil_append]; omega) (by simp only [cE2, sev, svl, cen, List.cons_append, List.nil_append]; omega) (by omega) (by simp only [cE2, sev, svl, cen, List.cons_append, List.nil_append]; omega) ?_
                              refine d_rng (by simp only [clo, chi, cE2, sev, svl, cen, List.cons_append, List.nil_append]; omega) ?_
                              refine d_cut [((n + 1 : Nat) : Int), ((k + 1 : Nat) : Int)] (by simp [cE2, sev, svl, cen] <;> omega) ?_
                              exact one 4 (Bool.eq_false_iff.mpr (fun z => q4 (oIl_iff.mp z))) (Bool.eq_false_iff.mpr (fun z => q5 (oId_iff.mp z))) (by omega) (Or.inr ⟨Classical.byContradiction (fun z => q6 z), rfl⟩)
                            · simp only [cCmp, cE2, sev, svl, cen, List.cons_append, List.nil_append] at h
                              omega
                        · simp only [cCmp, cE2, sev, svl, cen, List.cons_append, List.nil_append] at h
                          omega
                    · simp only [cCmp, cE2, sev, svl, cen, List.cons_append, List.nil_append] at h
                      omega
              · simp only [cCmp, cE2, sev, svl, cen, List.cons_append, List.nil_append] at h
                first
                | omega
                | skip
                  refine d_rng (by simp only [clo, chi, cE2, sev, svl, cen, List.cons_append, List.nil_append]; omega) ?_
                  refine d_cut [(n : Int), ((k + 1 : Nat) : Int)] (by simp [cE2, sev, svl, cen] <;> omega) ?_
                  exact blank (by omega)
  refine cEnds_at gX10_cutAll_m0 rfl ?_
  refine d_fld 0 (by simp only [cE2, sev, svl, cen, List.cons_append, List.nil_append]; omega) ?_
  rw [hL]
  refine d_put 0 (L : Int) (by simp only [cE2, sev, svl, cen, List.cons_append, List.nil_append]; omega) (by simp only [cE2, sev, svl, cen, List.cons_append, List.nil_append]; omega) ?_
  refine d_put 0 0 (by simp only [cE2, sev, svl, cen, List.cons_append, List.nil_append]; omega) (by simp only [cE2, sev, svl, cen, List.cons_append, List.nil_append]; omega) ?_
  refine d_cut [((0 : Nat) : Int), ((0 : Nat) : Int)] (by simp [cE2, sev, svl, cen] <;> omega) ?_
  exact loop L 0 0 _ (by omega) ⟨wI (wI hI (lo := 0) (hi := 1000) rfl ⟨by omega, by omega⟩) (lo := 0) (hi := 1000) rfl ⟨by omega, by omega⟩, oFm_p (Or.inr (Or.inr (Or.inr ⟨rfl, by omega⟩))) (oFm_p (Or.inr (Or.inr (Or.inr ⟨rfl, by omega⟩))) oFm_r), by rw [supd_i (by decide), supd_at], supd_at _ _ _ _ _, Nat.le_refl _, Nat.zero_le _, rfl, fun n' hn => absurd hn (Nat.not_lt_zero n')⟩
end CO8
