/-! the run: the relation of both -/
def Rv (B : Nat → List OLn) (M : SMem) : Prop := Rr M ∧ oWd M ∧ (∀ r, r < 6 → oCl M r (B r) ∧ oMl M r (B r)) ∧ M 45 0 = M 77 0 ∧ M 46 0 = M 78 0 ∧ (M 10 0 13 ≠ 0 → rCh (rZ M) B M)
def Ru (M : SMem) : Prop := ∃ B, Rv B M
def lRv : List Nat := [12, 17, 18, 19, 20, 21, 57, 58, 59, 60, 61, 62, 63, 22, 23, 24, 25, 26, 27, 28, 29, 30, 31, 32, 64, 91, 92, 93, 94, 95, 10, 16, 37, 38, 39, 40, 41, 42, 45, 46, 74, 77, 78, 79, 80, 81, 82, 83, 84, 96, 97, 98, 99, 100, 106]
def lDV : List Nat := [1, 3, 7, 10, 12, 17, 18, 19, 20, 21, 57, 58, 59, 60, 61, 62, 63, 22, 23, 24, 25, 26, 27, 28, 29, 30, 31, 32, 64, 91, 92, 93, 94, 95, 43, 44, 45, 46, 47, 48, 49, 50, 77, 78, 79, 80, 81, 82, 83, 84, 85]
def Rqv (M M2 : SMem) : Prop := sI tg M2 ∧ Ru M2 ∧ sX M2 ∧ M2 3 0 1 = M2 1 0 2 ∧ ∀ f j i, f ∉ lDV → M2 f j i = M f j i
theorem rCh_cg {Z : RZT} {B : Nat → List OLn} {M M' : SMem} (h : ∀ f, f ∈ [79, 80, 81, 82, 83, 84] → M' f = M f) (h10 : M' 10 0 12 = M 10 0 12) (g : rCh Z B M) : rCh Z B M' := by
  obtain ⟨g1, g2, g3, g4⟩ := g
  refine ⟨fun p hp => rLg_cg (by rw [h 79 (by decide)]) (fun f k hf _ => ?_) (g1 p hp), h10.trans g2, fun r p h1 h2 => by rw [h 83 (by decide)]; exact g3 r p h1 h2, fun r h1 => by rw [h 84 (by decide)]; exact g4 r h1⟩
  rcases hf with rfl | rfl | rfl
  · rw [h 80 (by decide)]
  · rw [h 81 (by decide)]
  · rw [h 82 (by decide)]
theorem Ru_congr {M M' : SMem} (h : ∀ f, f ∈ lRv → M' f = M f) (hr : Ru M) : Ru M' := by
  obtain ⟨B, r1, r2, r3, r4, r5, r6⟩ := hr
  refine ⟨B, Rr_congr (fun f hf => h f ?_) r1, oWd_m (fun i => by rw [h 16 (by decide)]) r2, fun r hr => ⟨oCl_cg (fun f i hf => ?_) (r3 r hr).1, oMl_cg (fun f i h1 h2 => ?_) (r3 r hr).2⟩, by rw [h 45 (by decide), h 77 (by decide)]; exact r4, by rw [h 46 (by decide), h 78 (by decide)]; exact r5, fun q => ?_⟩
  · simp only [lRow, lRv, List.mem_cons, List.not_mem_nil, or_false] at hf ⊢
    omega
  · rw [h f]
    simp only [lRv, List.mem_cons, List.not_mem_nil, or_false]
    omega
  · rw [h f]
    simp only [lRv, List.mem_cons, List.not_mem_nil, or_false]
    omega
  · rw [h 10 (by decide)] at q
    rw [show rZ M' = rZ M from rZ_cg (fun f hf => h f (by simp only [lRv, List.mem_cons, List.not_mem_nil, or_false] at hf ⊢; omega))]
    exact rCh_cg (fun f hf => h f (by simp only [lRv, List.mem_cons, List.not_mem_nil, or_false] at hf ⊢; omega)) (by rw [h 10 (by decide)]) (r6 q)
/-- what both were told -/
theorem rZr_of {M : SMem} (hR : Rr M) (h4 : M 45 0 = M 77 0) (h5 : M 46 0 = M 78 0) : rZr (rZ M) M := by
  obtain ⟨⟨g1, g2, g3, g4, g5, g6, g7⟩, w1, w2, -⟩ := hR
  refine ⟨fun p hp => ?_, fun n hn => ?_, g5.symm, g6.symm, fun r _ => ⟨by rw [h4]; rfl, by rw [h5]; rfl⟩⟩
  · obtain ⟨a0, a1, a2, a3, a4, a5⟩ := w1 p hp
    obtain ⟨-, -, b3, -⟩ := w2 p 0 hp (by decide)
    exact ⟨a0.symm, a1.symm, a2.symm, a3.symm, a5.symm, b3.symm⟩
  · have w := g7 n hn
    rw [g5, g6] at w
    exact w.symm
theorem mS5_of {M : SMem} (h : sX M) : mS5 M := fun p => h.2.2 p
theorem rZn {M : SMem} (hI : sI tg M) : ∀ p, -1 ≤ (rZ M).2.1 p 0 ∧ (rZ M).2.1 p 0 ≤ 7 := fun p => wIb (f := 93) (i := 0) (lo := -1) (hi := 7) hI p rfl
/-- told, and what was found out is let go, or nothing is told -/
theorem Ru_fin {M M1 M2 : SMem} (hR : Ru M) (hq : Rq M M2) (e10 : ∀ i, M2 10 0 i = M1 10 0 i) (eX : ∀ f, f ∈ [61, 62, 63, 64, 93] → M2 f = M1 f) (hc : rFl M1 ∨ ∀ f, f ≠ 3 → M1 f = M f) : Rqv M M2 := by
  obtain ⟨i2, q2, x2, l2, fr⟩ := hq
  obtain ⟨B, r1, r2, r3, r4, r5, r6⟩ := hR
  have row : ∀ f, f ∉ lDW → M2 f = M f := fun f hf => by
    funext j i
    exact fr f j i hf
  refine ⟨i2, ⟨B, q2, oWd_m (fun i => fr 16 0 i (by decide)) r2, fun r hr => ⟨oCl_cg (fun f i hf => fr f r i ?_) (r3 r hr).1, oMl_cg (fun f i h1 h2 => fr f 0 i ?_) (r3 r hr).2⟩, by rw [row 45 (by decide), row 77 (by decide)]; exact r4, by rw [row 46 (by decide), row 78 (by decide)]; exact r5, fun q => ?_⟩, x2, l2, fun f j i hf => fr f j i ?_⟩
  · simp only [lDW, List.mem_cons, List.not_mem_nil, or_false, not_or]
    omega
  · simp only [lDW, List.mem_cons, List.not_mem_nil, or_false, not_or]
    omega
  · rcases hc with hc | hc
    · rw [e10 13] at q
      exact absurd hc q
    · rw [e10 13, hc 10 (by decide)] at q
      have eZ : rZ M2 = rZ M := rZ_cg (fun f hf => by
        by_cases z : f ∈ [61, 62, 63, 64, 93]
        · rw [eX f z]
          refine hc f (fun y => ?_)
          rw [y] at hf
          revert hf
          decide
        · refine row f (fun y => ?_)
          simp only [lDW, List.mem_cons, List.not_mem_nil, or_false, not_or] at hf z y
          omega)
      rw [eZ]
      refine rCh_cg (fun f hf => row f (fun y => ?_)) (by rw [e10 12, hc 10 (by decide)]) (r6 q)
      simp only [lDW, List.mem_cons, List.not_mem_nil, or_false] at hf y
      omega
  · simp only [lDW, lDV, List.mem_cons, List.not_mem_nil, or_false, not_or] at hf ⊢
    omega
def xPlX (M : SMem) (a s hh o g r : Int) (MM : SMem) : Prop := wPlX M a s hh o g r MM ∧ (rFl MM ∨ MM = M)
theorem xPlX_of {M MM : SMem} {a s hh o g : Int} {rr : List Int} (h : sI tg MM ∧ ((((0 ≤ a ∧ a < 12) ∧ (1 ≤ s ∧ s ≤ 24) ∧ (0 ≤ hh ∧ hh ≤ 99) ∧ (0 ≤ o ∧ o ≤ 3) ∧ (0 ≤ g ∧ g ≤ 2)) ∧ rr = [1] ∧ (∀ f j i, f ≠ 7 → f ≠ 10 → MM f j i = wTell M a.toNat s hh o g f j i) ∧ rFl MM) ∨ (¬ ((0 ≤ a ∧ a < 12) ∧ (1 ≤ s ∧ s ≤ 24) ∧ (0 ≤ hh ∧ hh ≤ 99) ∧ (0 ≤ o ∧ o ≤ 3) ∧ (0 ≤ g ∧ g ≤ 2)) ∧ rr = [0] ∧ MM = M))) : ∃ r : Int, rr = [r] ∧ xPlX M a s hh o g r MM := by
  obtain ⟨i1, ⟨S, e, f, k⟩ | ⟨S, e, f⟩⟩ := h
  · exact ⟨1, e, ⟨i1, Or.inl ⟨S, rfl, f⟩⟩, Or.inl k⟩
  · exact ⟨0, e, ⟨i1, Or.inr ⟨S, rfl, f⟩⟩, Or.inr f⟩
theorem xPlX_fr {M M1 : SMem} {a s hh o g r : Int} (h : xPlX M a s hh o g r M1) : ∀ f j i, f ∉ lDX → M1 f j i = M f j i := wPlX_fr h.1
theorem rOr {M M1 : SMem} (h : rFl M1 ∨ M1 = M) : rFl M1 ∨ ∀ f, f ≠ 3 → M1 f = M f := h.elim Or.inl (fun e => Or.inr (fun f _ => by rw [e]))
theorem rDM {M1 M2 : SMem} (fr : ∀ f j i, f ∉ lDM → M2 f j i = M1 f j i) : (∀ i, M2 10 0 i = M1 10 0 i) ∧ ∀ f, f ∈ [61, 62, 63, 64, 93] → M2 f = M1 f := ⟨fun i => fr 10 0 i (by decide), fun f hf => by
  funext j i
  refine fr f j i (fun y => ?_)
  simp only [lDM, List.mem_cons, List.not_mem_nil, or_false] at hf y
  omega⟩
theorem Ru_Rr {M : SMem} (h : Ru M) : Rr M := by
  obtain ⟨B, r, -⟩ := h
  exact r
theorem fin_place3 {M M1 M2 : SMem} {a s hh o g r r' : Int} (hR : Ru M) (hX : sX M) (hl : M 3 0 1 = M 1 0 2) (hx : xPlX M a s hh o g r M1) (hm : wPlM M1 a s hh o g r' M2) : r = r' ∧ Rqv M M2 := by
  obtain ⟨er, hq⟩ := fin_place (Ru_Rr hR) hX hl hx.1 hm
  obtain ⟨e1, e2⟩ := rDM (wPlM_fr hm)
  exact ⟨er, Ru_fin hR hq e1 e2 (rOr hx.2)⟩
def xCuX (M : SMem) (a hd dv n : Int) (sz : Nat) (r : Int) (MM : SMem) : Prop := wCuX M a hd dv n sz r MM ∧ (rFl MM ∨ MM = M)
theorem xCuX_of {M MM : SMem} {a hd dv n : Int} {sz : Nat} {rr : List Int} (h : sI tg MM ∧ ((((0 ≤ a ∧ a < 12 ∧ M 64 a.toNat 0 ≠ 0) ∧ (0 ≤ hd ∧ hd < 6) ∧ (0 ≤ dv ∧ dv < 5) ∧ (n = -1 ∨ (¬ (dv = 1 ∨ dv = 2) ∧ 0 ≤ n ∧ n < 8 ∧ M 58 0 n.toNat ≠ 0)) ∧ (sz < 6 ∧ ((sz = 0 ∧ dv = 0) ∨ (sz ≠ 0 ∧ dv ≠ 0 ∧ (((dv = 1 ∨ dv = 2) ∧ ¬ (M 92 a.toNat (sz - 1) = 1 ∨ M 92 a.toNat (sz - 1) = 2)) ∨ (¬ (dv = 1 ∨ dv = 2) ∧ (M 92 a.toNat (sz - 1) = 1 ∨ M 92 a.toNat (sz - 1) = 2) ∧ (dv ≠ 4 ∨ (sz < 2 ∨ n = -1 ∨ M 93 a.toNat (sz - 2) = -1 ∨ n = M 93 a.toNat (sz - 2))))))))) ∧ rr = [(sz : Int)] ∧ (∀ f j i, f ≠ 7 → f ≠ 10 → MM f j i = wAddL M a.toNat sz hd dv n f j i) ∧ rFl MM) ∨ (¬ ((0 ≤ a ∧ a < 12 ∧ M 64 a.toNat 0 ≠ 0) ∧ (0 ≤ hd ∧ hd < 6) ∧ (0 ≤ dv ∧ dv < 5) ∧ (n = -1 ∨ (¬ (dv = 1 ∨ dv = 2) ∧ 0 ≤ n ∧ n < 8 ∧ M 58 0 n.toNat ≠ 0)) ∧ (sz < 6 ∧ ((sz = 0 ∧ dv = 0) ∨ (sz ≠ 0 ∧ dv ≠ 0 ∧ (((dv = 1 ∨ dv = 2) ∧ ¬ (M 92 a.toNat (sz - 1) = 1 ∨ M 92 a.toNat (sz - 1) = 2)) ∨ (¬ (dv = 1 ∨ dv = 2) ∧ (M 92 a.toNat (sz - 1) = 1 ∨ M 92 a.toNat (sz - 1) = 2) ∧ (dv ≠ 4 ∨ (sz < 2 ∨ n = -1 ∨ M 93 a.toNat (sz - 2) = -1 ∨ n = M 93 a.toNat (sz - 2))))))))) ∧ rr = [-1] ∧ MM = M))) : ∃ r : Int, rr = [r] ∧ xCuX M a hd dv n sz r MM := by
  obtain ⟨i1, ⟨S, e, f, k⟩ | ⟨S, e, f⟩⟩ := h
  · exact ⟨(sz : Int), e, ⟨i1, Or.inl ⟨S, rfl, f⟩⟩, Or.inl k⟩
  · exact ⟨-1, e, ⟨i1, Or.inr ⟨S, rfl, f⟩⟩, Or.inr f⟩
theorem xCuX_fr {M M1 : SMem} {a hd dv n r : Int} {sz : Nat} (h : xCuX M a hd dv n sz r M1) : ∀ f j i, f ∉ lDX → M1 f j i = M f j i := wCuX_fr h.1
theorem fin_cut3 {M M1 M2 : SMem} {a hd dv n r r' : Int} (hI : sI tg M) (hR : Ru M) (hX : sX M) (hl : M 3 0 1 = M 1 0 2) (hx : xCuX M a hd dv n (M 64 a.toNat 5).toNat r M1) (hm : wCuM M1 a hd dv n (M 27 0 a.toNat).toNat r' M2) : r = r' ∧ Rqv M M2 := by
  obtain ⟨er, hq⟩ := fin_cut2 hI (Ru_Rr hR) hX hl hx.1 hm
  obtain ⟨e1, e2⟩ := rDM (wCuM_fr hm)
  exact ⟨er, Ru_fin hR hq e1 e2 (rOr hx.2)⟩
def xClX (M : SMem) (a : Int) (sz : Nat) (r : Int) (MM : SMem) : Prop := wClX M a sz r MM ∧ (rFl MM ∨ MM = M)
theorem xClX_of {M MM : SMem} {a : Int} {sz : Nat} {rr : List Int} (h : sI tg MM ∧ (((0 ≤ a ∧ a < 12 ∧ M 64 a.toNat 0 ≠ 0 ∧ sz ≠ 0) ∧ rr = [1] ∧ (∀ f j i, f ≠ 7 → f ≠ 10 → MM f j i = wRem M a.toNat sz f j i) ∧ rFl MM) ∨ (¬ (0 ≤ a ∧ a < 12 ∧ M 64 a.toNat 0 ≠ 0 ∧ sz ≠ 0) ∧ rr = [0] ∧ MM = M))) : ∃ r : Int, rr = [r] ∧ xClX M a sz r MM := by
  obtain ⟨i1, ⟨S, e, f, k⟩ | ⟨S, e, f⟩⟩ := h
  · exact ⟨1, e, ⟨i1, Or.inl ⟨S, rfl, f⟩⟩, Or.inl k⟩
  · exact ⟨0, e, ⟨i1, Or.inr ⟨S, rfl, f⟩⟩, Or.inr f⟩
theorem xClX_fr {M M1 : SMem} {a r : Int} {sz : Nat} (h : xClX M a sz r M1) : ∀ f j i, f ∉ lDX → M1 f j i = M f j i := wClX_fr h.1
theorem fin_clean3 {M M1 M2 : SMem} {a r r' : Int} (hI : sI tg M) (hR : Ru M) (hX : sX M) (hl : M 3 0 1 = M 1 0 2) (hx : xClX M a (M 64 a.toNat 5).toNat r M1) (hm : wClM M1 a (M 27 0 a.toNat).toNat r' M2) : r = r' ∧ Rqv M M2 := by
  obtain ⟨er, hq⟩ := fin_clean2 hI (Ru_Rr hR) hX hl hx.1 hm
  obtain ⟨e1, e2⟩ := rDM (wClM_fr hm)
  exact ⟨er, Ru_fin hR hq e1 e2 (rOr hx.2)⟩
def xTcX (M : SMem) (n : Nat) (a b r : Int) (MM : SMem) : Prop := wTcX M n a b r MM ∧ (r = 0 → rFl MM)
theorem xTcX_of {M MM : SMem} {n : Nat} {a b : Int} {rr : List Int} (h : ∃ r : Int, rr = [r] ∧ sI tg MM ∧ MM 3 0 1 = 0 ∧ ((r = -1 ∧ ¬ (0 ≤ a ∧ a < 12 ∧ M 64 a.toNat 0 ≠ 0 ∧ 0 ≤ b ∧ b + 1 < M 64 a.toNat 5 ∧ ¬ (M 92 a.toNat b.toNat = 1 ∨ M 92 a.toNat b.toNat = 2) ∧ M 92 a.toNat (b.toNat + 1) = 1)) ∨ (r = 1 ∧ (0 ≤ a ∧ a < 12 ∧ M 64 a.toNat 0 ≠ 0 ∧ 0 ≤ b ∧ b + 1 < M 64 a.toNat 5 ∧ ¬ (M 92 a.toNat b.toNat = 1 ∨ M 92 a.toNat b.toNat = 2) ∧ M 92 a.toNat (b.toNat + 1) = 1) ∧ ¬ wTx 1 (M 57 0) (wf (M 57 0) n) (wu (M 57 0) n)) ∨ (r = 0 ∧ (0 ≤ a ∧ a < 12 ∧ M 64 a.toNat 0 ≠ 0 ∧ 0 ≤ b ∧ b + 1 < M 64 a.toNat 5 ∧ ¬ (M 92 a.toNat b.toNat = 1 ∨ M 92 a.toNat b.toNat = 2) ∧ M 92 a.toNat (b.toNat + 1) = 1) ∧ wTx 1 (M 57 0) (wf (M 57 0) n) (wu (M 57 0) n))) ∧ (r ≠ 0 → ∀ f j i, f ≠ 3 → MM f j i = M f j i) ∧ (r = 0 → ∀ f j i, f ≠ 3 → f ≠ 7 → f ≠ 10 → MM f j i = wTr M a.toNat b.toNat (wf (M 57 0) n) (wu (M 57 0) n - wf (M 57 0) n) (wu (M 57 0) n - wf (M 57 0) n) f j i) ∧ (r = 0 → rFl MM)) : ∃ r : Int, rr = [r] ∧ xTcX M n a b r MM := by
  obtain ⟨r, e, c1, c2, c3, c4, c5, c6⟩ := h
  exact ⟨r, e, ⟨c1, c2, c3, c4, c5⟩, c6⟩
theorem xTcX_fr {M M1 : SMem} {n : Nat} {a b r : Int} (h : xTcX M n a b r M1) : ∀ f j i, f ∉ lDX → M1 f j i = M f j i := wTcX_fr h.1
theorem fin_traces3 {M M1 M2 : SMem} {n : Nat} {a b r r' : Int} (hI : sI tg M) (hR : Ru M) (hX : sX M) (hx : xTcX M n a b r M1) (hm : wTcM M1 n a b r' M2) : r = r' ∧ Rqv M M2 := by
  obtain ⟨er, hq⟩ := fin_traces hI (Ru_Rr hR) hX hx.1 hm
  obtain ⟨e1, e2⟩ := rDM (wTcM_fr hm)
  obtain ⟨⟨-, -, -, g1, -⟩, k1⟩ := id hx
  refine ⟨er, Ru_fin hR hq e1 e2 ?_⟩
  by_cases z : r = 0
  · exact Or.inl (k1 z)
  · refine Or.inr (fun f y => ?_)
    funext j i
    exact g1 z f j i y
theorem fin_name3 {M M1 M2 : SMem} {n : Nat} {a g s r : Int} (hR : Ru M) (hX : sX M) (hz : Rz M M2) (hm : wNm M1 n a g s r M2) (k1 : r = 0 → rFl M1) (k2 : r ≠ 0 → ∀ f j i, f ≠ 3 → M1 f j i = M f j i) : Rqv M M2 := by
  refine Ru_fin hR (Rq_of (Ru_Rr hR).2 hX hz) (fun i => hm.2.1 10 0 i (by decide) (by decide)) (fun f hf => ?_) ?_
  · funext j i
    simp only [List.mem_cons, List.not_mem_nil, or_false] at hf
    exact hm.2.1 f j i (by omega) (by omega)
  · by_cases z : r = 0
    · exact Or.inl (k1 z)
    · refine Or.inr (fun f y => ?_)
      funext j i
      exact k2 z f j i y
/-- who works can read, or not, for both -/
theorem fin_works {M M1 M2 : SMem} {a b s : Int} {r1 r2 : List Int} (hI : sI tg M) (hX : sX M) (hl : M 3 0 1 = M 1 0 2) (hR : Ru M) (hs : 0 ≤ s ∧ s ≤ 1) (hx : (((0 ≤ a ∧ a < 6) ∧ 0 ≤ b ∧ b < 100) ∧ r1 = [1] ∧ M1 = supd (supd (supd M 77 0 a.toNat b) 78 0 a.toNat s) 10 0 13 0) ∨ (¬ ((0 ≤ a ∧ a < 6) ∧ 0 ≤ b ∧ b < 100) ∧ r1 = [0] ∧ M1 = M)) (hm : (((0 ≤ a ∧ a ≤ 5) ∧ 0 ≤ b ∧ b ≤ 99) ∧ r2 = [1] ∧ M2 = supd (supd (supd M1 1 0 0 0) 45 0 a.toNat b) 46 0 a.toNat s) ∨ (¬ ((0 ≤ a ∧ a ≤ 5) ∧ 0 ≤ b ∧ b ≤ 99) ∧ r2 = [0] ∧ M2 = supd M1 1 0 0 0)) : r1 = r2 ∧ Rqv M M2 := by
  obtain ⟨B, g1, g2, g3, g4, g5, g6⟩ := hR
  rcases hx with ⟨hs1, rfl, e1⟩ | ⟨hs1, rfl, e1⟩
  · rcases hm with ⟨-, rfl, e2⟩ | ⟨hn, -, -⟩
    · have f1 : ∀ f, f ≠ 77 → f ≠ 78 → f ≠ 10 → M1 f = M f := fun f y1 y2 y3 => by rw [e1, supd_ff y3, supd_ff y2, supd_ff y1]
      have f2 : ∀ f, f ≠ 1 → f ≠ 45 → f ≠ 46 → M2 f = M1 f := fun f y1 y2 y3 => by rw [e2, supd_ff y3, supd_ff y2, supd_ff y1]
      have row : ∀ f, f ∉ [1, 10, 45, 46, 77, 78] → M2 f = M f := fun f y => by
        simp only [List.mem_cons, List.not_mem_nil, or_false, not_or] at y
        rw [f2 f (by omega) (by omega) (by omega), f1 f (by omega) (by omega) (by omega)]
      have i1 : sI tg M1 := by rw [e1]; exact wI (lo := 0) (hi := 1) (wI (lo := 0) (hi := 1) (wI (lo := 0) (hi := 99) hI rfl ⟨by omega, by omega⟩) rfl hs) rfl ⟨by omega, by omega⟩
      have i2 : sI tg M2 := by rw [e2]; exact wI (lo := 0) (hi := 1) (wI (lo := 0) (hi := 99) (wI (lo := 0) (hi := 1) i1 rfl ⟨by omega, by omega⟩) rfl ⟨by omega, by omega⟩) rfl hs
      have a77 : M2 77 0 = wSt (M 77 0) a.toNat b := by rw [f2 77 (by decide) (by decide) (by decide), e1, supd_ff (by decide), supd_ff (by decide), supd_row]
      have a78 : M2 78 0 = wSt (M 78 0) a.toNat s := by rw [f2 78 (by decide) (by decide) (by decide), e1, supd_ff (by decide), supd_row, supd_ff (by decide)]
      have a45 : M2 45 0 = wSt (M 45 0) a.toNat b := by rw [e2, supd_ff (by decide), supd_row, supd_ff (by decide), f1 45 (by decide) (by decide) (by decide)]
      have a46 : M2 46 0 = wSt (M 46 0) a.toNat s := by rw [e2, supd_row, supd_ff (by decide), supd_ff (by decide), f1 46 (by decide) (by decide) (by decide)]
      have a10 : M2 10 0 13 = 0 := by rw [f2 10 (by decide) (by decide) (by decide), e1]; exact supd_at _ _ _ _ _
      have a1 : M2 1 0 2 = M 1 0 2 := by rw [e2, supd_f (by decide), supd_f (by decide), supd_i (by decide), f1 1 (by decide) (by decide) (by decide)]
      refine ⟨rfl, i2, ⟨B, Rr_congr (fun f hf => row f (fun y => ?_)) g1, oWd_m (fun i => by rw [row 16 (by decide)]) g2, fun r hr => ⟨oCl_cg (fun f i hf => by rw [row f (by simp only [List.mem_cons, List.not_mem_nil, or_false, not_or]; omega)]) (g3 r hr).1, oMl_cg (fun f i h1 h2 => by rw [row f (by simp only [List.mem_cons, List.not_mem_nil, or_false, not_or]; omega)]) (g3 r hr).2⟩, by rw [a45, a77, g4], by rw [a46, a78, g5], fun q => absurd a10 q⟩, sX_congr (row 29 (by decide)) (row 27 (by decide)) (row 50 (by decide)) hX, by rw [row 3 (by decide), a1, hl], fun f j i hf => congrFun (congrFun (row f (fun y => ?_)) j) i⟩
      · simp only [lRow, List.mem_cons, List.not_mem_nil, or_false] at hf y
        omega
      · simp only [lDV, List.mem_cons, List.not_mem_nil, or_false, not_or] at hf y
        omega
    · exact absurd (show (0 ≤ a ∧ a ≤ 5) ∧ 0 ≤ b ∧ b ≤ 99 by omega) hn
  · rcases hm with ⟨hn, -, -⟩ | ⟨-, rfl, e2⟩
    · exact absurd (show (0 ≤ a ∧ a < 6) ∧ 0 ≤ b ∧ b < 100 by omega) hs1
    · have row : ∀ f, f ≠ 1 → M2 f = M f := fun f y => by rw [e2, supd_ff y, e1]
      refine ⟨rfl, by rw [e2, e1]; exact wI (lo := 0) (hi := 1) hI rfl ⟨by omega, by omega⟩, Ru_congr (fun f hf => row f (fun y => ?_)) ⟨B, g1, g2, g3, g4, g5, g6⟩, sX_congr (row 29 (by decide)) (row 27 (by decide)) (row 50 (by decide)) hX, by rw [row 3 (by decide), e2, supd_i (by decide), e1, hl], fun f j i hf => congrFun (congrFun (row f (fun y => ?_)) j) i⟩
      · rw [y] at hf
        revert hf
        decide
      · rw [y] at hf
        exact hf (by decide)
theorem worksX_fr {M M1 : SMem} {a b s : Int} {rr : List Int} (h : (((0 ≤ a ∧ a < 6) ∧ 0 ≤ b ∧ b < 100) ∧ rr = [1] ∧ M1 = supd (supd (supd M 77 0 a.toNat b) 78 0 a.toNat s) 10 0 13 0) ∨ (¬ ((0 ≤ a ∧ a < 6) ∧ 0 ≤ b ∧ b < 100) ∧ rr = [0] ∧ M1 = M)) : (∃ r : Int, rr = [r]) ∧ ∀ f j i, f ≠ 77 → f ≠ 78 → f ≠ 10 → M1 f j i = M f j i := by
  rcases h with ⟨-, e1, e⟩ | ⟨-, e1, e⟩
  · exact ⟨⟨1, e1⟩, fun f j i y1 y2 y3 => by rw [e, supd_f y3, supd_f y2, supd_f y1]⟩
  · exact ⟨⟨0, e1⟩, fun f j i _ _ _ => by rw [e]⟩
theorem worksM_fr {M M1 : SMem} {a b s : Int} {rr : List Int} (h : (((0 ≤ a ∧ a ≤ 5) ∧ 0 ≤ b ∧ b ≤ 99) ∧ rr = [1] ∧ M1 = supd (supd (supd M 1 0 0 0) 45 0 a.toNat b) 46 0 a.toNat s) ∨ (¬ ((0 ≤ a ∧ a ≤ 5) ∧ 0 ≤ b ∧ b ≤ 99) ∧ rr = [0] ∧ M1 = supd M 1 0 0 0)) : (∃ r : Int, rr = [r]) ∧ ∀ f j i, f ≠ 1 → f ≠ 45 → f ≠ 46 → M1 f j i = M f j i := by
  rcases h with ⟨-, e1, e⟩ | ⟨-, e1, e⟩
  · exact ⟨⟨1, e1⟩, fun f j i y1 y2 y3 => by rw [e, supd_f y3, supd_f y2, supd_f y1]⟩
  · exact ⟨⟨0, e1⟩, fun f j i y1 _ _ => by rw [e, supd_f y1]⟩
/-- both are asked -/
theorem Ru_ask {B : Nat → List OLn} {M M1 M2 : SMem} (hX : sX M) (hl : M 3 0 1 = M 1 0 2) (hR : Rv B M) (hk : rKX B M M1) (hm : mKX M1 M2) : Rqv M M2 := by
  obtain ⟨g1, g2, g3, g4, g5, g6⟩ := hR
  obtain ⟨i1, f1, c1⟩ := hk
  obtain ⟨i2, f2, s2⟩ := hm
  have row1 : ∀ f, f ∉ [79, 80, 81, 82, 83, 84, 85, 10] → M1 f = M f := fun f y => by
    funext j i
    simp only [List.mem_cons, List.not_mem_nil, or_false, not_or] at y
    exact f1 f j i (by simp only [List.mem_cons, List.not_mem_nil, or_false, not_or]; omega) (by omega)
  have row2 : ∀ f, f ∉ [43, 44, 47, 48, 49, 50, 1] → M2 f = M1 f := fun f y => by
    funext j i
    simp only [List.mem_cons, List.not_mem_nil, or_false, not_or] at y
    exact f2 f j i (by simp only [List.mem_cons, List.not_mem_nil, or_false, not_or]; omega) (by omega)
  have row : ∀ f, f ∉ [79, 80, 81, 82, 83, 84, 85, 10, 43, 44, 47, 48, 49, 50, 1] → M2 f = M f := fun f y => by
    simp only [List.mem_cons, List.not_mem_nil, or_false, not_or] at y
    rw [row2 f (by simp only [List.mem_cons, List.not_mem_nil, or_false, not_or]; omega), row1 f (by simp only [List.mem_cons, List.not_mem_nil, or_false, not_or]; omega)]
  have eZ : rZ M2 = rZ M := rZ_cg (fun f hf => row f (fun y => by
    simp only [List.mem_cons, List.not_mem_nil, or_false] at hf y
    omega))
  refine ⟨i2, ⟨B, Rr_congr (fun f hf => row f (fun y => ?_)) g1, oWd_m (fun i => by rw [row 16 (by decide)]) g2, fun r hr => ⟨oCl_cg (fun f i hf => by rw [row f (by simp only [List.mem_cons, List.not_mem_nil, or_false, not_or]; omega)]) (g3 r hr).1, oMl_cg (fun f i h1 h2 => by rw [row f (by simp only [List.mem_cons, List.not_mem_nil, or_false, not_or]; omega)]) (g3 r hr).2⟩, by rw [row 45 (by decide), row 77 (by decide)]; exact g4, by rw [row 46 (by decide), row 78 (by decide)]; exact g5, fun q => ?_⟩, ⟨fun i => ?_, fun p q h1 h2 h3 => ?_, fun p => s2 p⟩, ?_, fun f j i hf => congrFun (congrFun (row f (fun y => ?_)) j) i⟩
  · simp only [lRow, List.mem_cons, List.not_mem_nil, or_false] at hf y
    omega
  · rw [row2 10 (by decide)] at q
    rw [eZ]
    exact rCh_cg (fun f hf => row2 f (fun y => by
      simp only [List.mem_cons, List.not_mem_nil, or_false] at hf y
      omega)) (by rw [row2 10 (by decide)]) (c1 q)
  · rw [row 29 (by decide)]
    exact hX.1 i
  · rw [row 29 (by decide)]
    rw [row 27 (by decide)] at h3
    exact hX.2.1 p q h1 h2 h3
  · rw [row 3 (by decide), f2 1 0 2 (by decide) (by decide), row1 1 (by decide), hl]
  · simp only [lDV, List.mem_cons, List.not_mem_nil, or_false, not_or] at hf y
    omega
/-- what the reference is asked of, behind the class -/
theorem Ru_mid {B : Nat → List OLn} {M M1 : SMem} (hI : sI tg M) (hX : sX M) (hR : Rv B M) (hk : rKX B M M1) : sI tg M1 ∧ rZr (rZ M) M1 ∧ (∀ r, r < 6 → oMl M1 r (B r)) ∧ mS5 M1 := by
  obtain ⟨g1, g2, g3, g4, g5, g6⟩ := hR
  obtain ⟨i1, f1, c1⟩ := hk
  have row1 : ∀ f, f ∉ [79, 80, 81, 82, 83, 84, 85, 10] → M1 f = M f := fun f y => by
    funext j i
    simp only [List.mem_cons, List.not_mem_nil, or_false, not_or] at y
    exact f1 f j i (by simp only [List.mem_cons, List.not_mem_nil, or_false, not_or]; omega) (by omega)
  refine ⟨i1, rZr_cg (fun f hf => row1 f (fun y => ?_)) (rZr_of g1 g4 g5), fun r hr => oMl_cg (fun f i h1 h2 => by rw [row1 f (by simp only [List.mem_cons, List.not_mem_nil, or_false, not_or]; omega)]) (g3 r hr).2, fun p => by rw [row1 50 (by decide)]; exact hX.2.2 p⟩
  simp only [List.mem_cons, List.not_mem_nil, or_false] at hf y
  omega
theorem rAgr_eq {Z : RZT} {B : Nat → List OLn} {A A' : Nat → List RC → Prop} {w : Int} (h : ∀ p, p < 12 → (A p ((rRun Z B 6).1 p) ↔ A' p ((rRun Z B 6).1 p))) : rAgr Z B A w = rAgr Z B A' w := by
  unfold rAgr
  rw [wBt_cg (b := wDc (fun p => Z.1 p 0 ≠ 0 ∧ A p ((rRun Z B 6).1 p))) (c := wDc (fun p => Z.1 p 0 ≠ 0 ∧ A' p ((rRun Z B 6).1 p))) 12 (fun p hp => wDc_cg (by rw [h p hp]))]
theorem rAgr_both {B : Nat → List OLn} {M M1 : SMem} {w : Int} (hI : sI tg M) (hR : Rv B M) (hB : ∀ p, ((rRun (rZ M) B 6).1 p).length ≤ 6) (hk : rKX B M M1) : rAgr (rZ M) B (fun p st => rAs (M 64 p 5) (M 92 p) (M 93 p) st) w = rAgr (rZ M) B (fun p st => rAs (M1 27 0 p) (fun k => M1 29 0 (6 * p + k)) (fun k => M1 30 0 (6 * p + k)) st) w := by
  obtain ⟨⟨-, w1, w2, -⟩, -⟩ := hR
  have e : ∀ f i, f = 27 ∨ f = 29 ∨ f = 30 → M1 f 0 i = M f 0 i := fun f i hf => hk.2.1 f 0 i (by simp only [List.mem_cons, List.not_mem_nil, or_false, not_or]; omega) (by omega)
  refine rAgr_eq (fun p hp => ?_)
  refine (rAs_cg ?_ (fun k hk9 => ?_))
  · rw [e 27 p (by omega)]
    exact (w1 p hp).2.2.2.2.2
  · have b6 := hB p
    obtain ⟨-, c2, c3, -⟩ := w2 p k hp (by omega)
    rw [e 29 _ (by omega), e 30 _ (by omega)]
    exact ⟨c2, c3⟩
