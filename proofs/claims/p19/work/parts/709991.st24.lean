/-! stories: the tellers, for both, with what was found out -/
theorem Rs_fin {M M1 M2 : SMem} (hR : Rs M) (hq : Rq M M2) (fx : ∀ i, M1 1 0 i = M 1 0 i) (hc : (sFl M1 ∧ (∀ i, M2 7 0 i = M1 7 0 i) ∧ M2 1 0 28 = 1 ∧ M2 1 0 34 = M1 1 0 34) ∨ ((∀ f, f ≠ 3 → M1 f = M f) ∧ (∀ f, f ≠ 1 → ¬ (17 ≤ f ∧ f ≤ 32) → M2 f = M1 f) ∧ ∀ i, i ∈ [28, 32, 34] → M2 1 0 i = M1 1 0 i)) : Rqs M M2 := by
  rcases hc with ⟨c1, c2, c3, c4⟩ | ⟨c1, c2, c3⟩
  · exact Rs_reset hR hq (sFl_cg c2 c1) c3 (c4.trans (fx 34))
  · refine Rs_keep hR hq (fun f hf => ?_) (fun i => ?_) (fun i hi => (c3 i hi).trans (fx i))
    · simp only [lSZ, List.mem_cons, List.not_mem_nil, or_false] at hf
      rw [c2 f (by omega) (by omega), c1 f (by omega)]
    · rw [c2 7 (by decide) (by decide), c1 7 (by decide)]
def xPlX (M : SMem) (a s hh o g r : Int) (MM : SMem) : Prop := wPlX M a s hh o g r MM ∧ ((sFl MM ∧ r = 1) ∨ (MM = M ∧ r = 0))
theorem xPlX_of {M MM : SMem} {a s hh o g : Int} {rr : List Int} (h : sI tg MM ∧ ((((0 ≤ a ∧ a < 12) ∧ (1 ≤ s ∧ s ≤ 24) ∧ (0 ≤ hh ∧ hh ≤ 99) ∧ (0 ≤ o ∧ o ≤ 3) ∧ (0 ≤ g ∧ g ≤ 2)) ∧ rr = [1] ∧ (∀ f j i, f ≠ 7 → f ≠ 10 → MM f j i = wTell M a.toNat s hh o g f j i) ∧ sFl MM) ∨ (¬ ((0 ≤ a ∧ a < 12) ∧ (1 ≤ s ∧ s ≤ 24) ∧ (0 ≤ hh ∧ hh ≤ 99) ∧ (0 ≤ o ∧ o ≤ 3) ∧ (0 ≤ g ∧ g ≤ 2)) ∧ rr = [0] ∧ MM = M))) : ∃ r : Int, rr = [r] ∧ xPlX M a s hh o g r MM := by
  obtain ⟨i1, ⟨S, e, f, k⟩ | ⟨S, e, f⟩⟩ := h
  · exact ⟨1, e, ⟨i1, Or.inl ⟨S, rfl, f⟩⟩, Or.inl ⟨k, rfl⟩⟩
  · exact ⟨0, e, ⟨i1, Or.inr ⟨S, rfl, f⟩⟩, Or.inr ⟨f, rfl⟩⟩
theorem xPlX_fr {M M1 : SMem} {a s hh o g r : Int} (h : xPlX M a s hh o g r M1) : ∀ f j i, f ∉ lDX → M1 f j i = M f j i := wPlX_fr h.1
theorem fin_place3 {M M1 M2 : SMem} {a s hh o g r r' : Int} (hR : Rs M) (hX : sX M) (hl : M 3 0 1 = M 1 0 2) (hx : xPlX M a s hh o g r M1) (hm : wPlM M1 a s hh o g r' M2) : r = r' ∧ Rqs M M2 := by
  obtain ⟨er, hq⟩ := fin_place hR.1 hX hl hx.1 hm
  have fr := wPlM_fr hm
  refine ⟨er, Rs_fin hR hq (fun i => wPlX_fr hx.1 1 0 i (by decide)) ?_⟩
  rcases hx.2 with ⟨k, e⟩ | ⟨k, e⟩
  · rcases hm with ⟨-, e1, e2⟩ | ⟨-, e1, e2⟩
    · refine Or.inl ⟨k, fun i => fr 7 0 i (by decide), by rw [e2]; exact supd_at _ _ _ _ _, ?_⟩
      rw [e2, supd_i (by decide)]
      simp [wTellM, supd]
    · omega
  · rcases hm with ⟨-, e1, e2⟩ | ⟨-, e1, e2⟩
    · omega
    · exact Or.inr ⟨fun f _ => by rw [k], fun f y _ => by rw [e2]; exact supd_ff y, fun i hi => by rw [e2]; exact supd_i (fun z => by rw [z] at hi; revert hi; decide)⟩
def xCuX (M : SMem) (a hd dv n : Int) (sz : Nat) (r : Int) (MM : SMem) : Prop := wCuX M a hd dv n sz r MM ∧ ((sFl MM ∧ r = (sz : Int)) ∨ (MM = M ∧ r = -1))
theorem xCuX_of {M MM : SMem} {a hd dv n : Int} {sz : Nat} {rr : List Int} (h : sI tg MM ∧ ((((0 ≤ a ∧ a < 12 ∧ M 64 a.toNat 0 ≠ 0) ∧ (0 ≤ hd ∧ hd < 6) ∧ (0 ≤ dv ∧ dv < 5) ∧ (n = -1 ∨ (¬ (dv = 1 ∨ dv = 2) ∧ 0 ≤ n ∧ n < 8 ∧ M 58 0 n.toNat ≠ 0)) ∧ (sz < 6 ∧ ((sz = 0 ∧ dv = 0) ∨ (sz ≠ 0 ∧ dv ≠ 0 ∧ (((dv = 1 ∨ dv = 2) ∧ ¬ (M 92 a.toNat (sz - 1) = 1 ∨ M 92 a.toNat (sz - 1) = 2)) ∨ (¬ (dv = 1 ∨ dv = 2) ∧ (M 92 a.toNat (sz - 1) = 1 ∨ M 92 a.toNat (sz - 1) = 2) ∧ (dv ≠ 4 ∨ (sz < 2 ∨ n = -1 ∨ M 93 a.toNat (sz - 2) = -1 ∨ n = M 93 a.toNat (sz - 2))))))))) ∧ rr = [(sz : Int)] ∧ (∀ f j i, f ≠ 7 → f ≠ 10 → MM f j i = wAddL M a.toNat sz hd dv n f j i) ∧ sFl MM) ∨ (¬ ((0 ≤ a ∧ a < 12 ∧ M 64 a.toNat 0 ≠ 0) ∧ (0 ≤ hd ∧ hd < 6) ∧ (0 ≤ dv ∧ dv < 5) ∧ (n = -1 ∨ (¬ (dv = 1 ∨ dv = 2) ∧ 0 ≤ n ∧ n < 8 ∧ M 58 0 n.toNat ≠ 0)) ∧ (sz < 6 ∧ ((sz = 0 ∧ dv = 0) ∨ (sz ≠ 0 ∧ dv ≠ 0 ∧ (((dv = 1 ∨ dv = 2) ∧ ¬ (M 92 a.toNat (sz - 1) = 1 ∨ M 92 a.toNat (sz - 1) = 2)) ∨ (¬ (dv = 1 ∨ dv = 2) ∧ (M 92 a.toNat (sz - 1) = 1 ∨ M 92 a.toNat (sz - 1) = 2) ∧ (dv ≠ 4 ∨ (sz < 2 ∨ n = -1 ∨ M 93 a.toNat (sz - 2) = -1 ∨ n = M 93 a.toNat (sz - 2))))))))) ∧ rr = [-1] ∧ MM = M))) : ∃ r : Int, rr = [r] ∧ xCuX M a hd dv n sz r MM := by
  obtain ⟨i1, ⟨S, e, f, k⟩ | ⟨S, e, f⟩⟩ := h
  · exact ⟨(sz : Int), e, ⟨i1, Or.inl ⟨S, rfl, f⟩⟩, Or.inl ⟨k, rfl⟩⟩
  · exact ⟨-1, e, ⟨i1, Or.inr ⟨S, rfl, f⟩⟩, Or.inr ⟨f, rfl⟩⟩
theorem xCuX_fr {M M1 : SMem} {a hd dv n r : Int} {sz : Nat} (h : xCuX M a hd dv n sz r M1) : ∀ f j i, f ∉ lDX → M1 f j i = M f j i := wCuX_fr h.1
theorem fin_cut3 {M M1 M2 : SMem} {a hd dv n r r' : Int} (hI : sI tg M) (hR : Rs M) (hX : sX M) (hl : M 3 0 1 = M 1 0 2) (hx : xCuX M a hd dv n (M 64 a.toNat 5).toNat r M1) (hm : wCuM M1 a hd dv n (M 27 0 a.toNat).toNat r' M2) : r = r' ∧ Rqs M M2 := by
  obtain ⟨er, hq⟩ := fin_cut2 hI hR.1 hX hl hx.1 hm
  have fr := wCuM_fr hm
  refine ⟨er, Rs_fin hR hq (fun i => wCuX_fr hx.1 1 0 i (by decide)) ?_⟩
  rcases hx.2 with ⟨k, e⟩ | ⟨k, e⟩
  · rcases hm with ⟨-, e1, e2⟩ | ⟨-, e1, e2⟩
    · refine Or.inl ⟨k, fun i => fr 7 0 i (by decide), by rw [e2]; exact supd_at _ _ _ _ _, ?_⟩
      rw [e2, supd_i (by decide)]
      simp [wAddM, supd]
    · omega
  · rcases hm with ⟨-, e1, e2⟩ | ⟨-, e1, e2⟩
    · omega
    · exact Or.inr ⟨fun f _ => by rw [k], fun f y _ => by rw [e2]; exact supd_ff y, fun i hi => by rw [e2]; exact supd_i (fun z => by rw [z] at hi; revert hi; decide)⟩
def xClX (M : SMem) (a : Int) (sz : Nat) (r : Int) (MM : SMem) : Prop := wClX M a sz r MM ∧ ((sFl MM ∧ r = 1) ∨ (MM = M ∧ r = 0))
theorem xClX_of {M MM : SMem} {a : Int} {sz : Nat} {rr : List Int} (h : sI tg MM ∧ (((0 ≤ a ∧ a < 12 ∧ M 64 a.toNat 0 ≠ 0 ∧ sz ≠ 0) ∧ rr = [1] ∧ (∀ f j i, f ≠ 7 → f ≠ 10 → MM f j i = wRem M a.toNat sz f j i) ∧ sFl MM) ∨ (¬ (0 ≤ a ∧ a < 12 ∧ M 64 a.toNat 0 ≠ 0 ∧ sz ≠ 0) ∧ rr = [0] ∧ MM = M))) : ∃ r : Int, rr = [r] ∧ xClX M a sz r MM := by
  obtain ⟨i1, ⟨S, e, f, k⟩ | ⟨S, e, f⟩⟩ := h
  · exact ⟨1, e, ⟨i1, Or.inl ⟨S, rfl, f⟩⟩, Or.inl ⟨k, rfl⟩⟩
  · exact ⟨0, e, ⟨i1, Or.inr ⟨S, rfl, f⟩⟩, Or.inr ⟨f, rfl⟩⟩
theorem xClX_fr {M M1 : SMem} {a r : Int} {sz : Nat} (h : xClX M a sz r M1) : ∀ f j i, f ∉ lDX → M1 f j i = M f j i := wClX_fr h.1
theorem fin_clean3 {M M1 M2 : SMem} {a r r' : Int} (hI : sI tg M) (hR : Rs M) (hX : sX M) (hl : M 3 0 1 = M 1 0 2) (hx : xClX M a (M 64 a.toNat 5).toNat r M1) (hm : wClM M1 a (M 27 0 a.toNat).toNat r' M2) : r = r' ∧ Rqs M M2 := by
  obtain ⟨er, hq⟩ := fin_clean2 hI hR.1 hX hl hx.1 hm
  have fr := wClM_fr hm
  refine ⟨er, Rs_fin hR hq (fun i => wClX_fr hx.1 1 0 i (by decide)) ?_⟩
  rcases hx.2 with ⟨k, e⟩ | ⟨k, e⟩
  · rcases hm with ⟨-, e1, e2⟩ | ⟨-, e1, e2⟩
    · refine Or.inl ⟨k, fun i => fr 7 0 i (by decide), by rw [e2]; exact supd_at _ _ _ _ _, ?_⟩
      rw [e2, supd_i (by decide), remM_f1, supd_i (by decide)]
    · omega
  · rcases hm with ⟨-, e1, e2⟩ | ⟨-, e1, e2⟩
    · omega
    · exact Or.inr ⟨fun f _ => by rw [k], fun f y _ => by rw [e2]; exact supd_ff y, fun i hi => by rw [e2]; exact supd_i (fun z => by rw [z] at hi; revert hi; decide)⟩
def xTcX (M : SMem) (n : Nat) (a b r : Int) (MM : SMem) : Prop := wTcX M n a b r MM ∧ (r = 0 → sFl MM)
def xTcM (M : SMem) (n : Nat) (a b r : Int) (MM : SMem) : Prop := wTcM M n a b r MM ∧ sFm M r MM
theorem xTcX_of {M MM : SMem} {n : Nat} {a b : Int} {rr : List Int} (h : ∃ r : Int, rr = [r] ∧ sI tg MM ∧ MM 3 0 1 = 0 ∧ ((r = -1 ∧ ¬ (0 ≤ a ∧ a < 12 ∧ M 64 a.toNat 0 ≠ 0 ∧ 0 ≤ b ∧ b + 1 < M 64 a.toNat 5 ∧ ¬ (M 92 a.toNat b.toNat = 1 ∨ M 92 a.toNat b.toNat = 2) ∧ M 92 a.toNat (b.toNat + 1) = 1)) ∨ (r = 1 ∧ (0 ≤ a ∧ a < 12 ∧ M 64 a.toNat 0 ≠ 0 ∧ 0 ≤ b ∧ b + 1 < M 64 a.toNat 5 ∧ ¬ (M 92 a.toNat b.toNat = 1 ∨ M 92 a.toNat b.toNat = 2) ∧ M 92 a.toNat (b.toNat + 1) = 1) ∧ ¬ wTx 1 (M 57 0) (wf (M 57 0) n) (wu (M 57 0) n)) ∨ (r = 0 ∧ (0 ≤ a ∧ a < 12 ∧ M 64 a.toNat 0 ≠ 0 ∧ 0 ≤ b ∧ b + 1 < M 64 a.toNat 5 ∧ ¬ (M 92 a.toNat b.toNat = 1 ∨ M 92 a.toNat b.toNat = 2) ∧ M 92 a.toNat (b.toNat + 1) = 1) ∧ wTx 1 (M 57 0) (wf (M 57 0) n) (wu (M 57 0) n))) ∧ (r ≠ 0 → ∀ f j i, f ≠ 3 → MM f j i = M f j i) ∧ (r = 0 → ∀ f j i, f ≠ 3 → f ≠ 7 → f ≠ 10 → MM f j i = wTr M a.toNat b.toNat (wf (M 57 0) n) (wu (M 57 0) n - wf (M 57 0) n) (wu (M 57 0) n - wf (M 57 0) n) f j i) ∧ (r = 0 → sFl MM)) : ∃ r : Int, rr = [r] ∧ xTcX M n a b r MM := by
  obtain ⟨r, e, c1, c2, c3, c4, c5, c6⟩ := h
  exact ⟨r, e, ⟨c1, c2, c3, c4, c5⟩, c6⟩
theorem xTcM_of {M MM : SMem} {n : Nat} {a b : Int} {rr : List Int} (h : ∃ r : Int, rr = [r] ∧ sI tg MM ∧ MM 1 0 2 = 0 ∧ ((r = -1 ∧ ¬ (0 ≤ a ∧ a < 12 ∧ M 22 0 a.toNat ≠ 0 ∧ 0 ≤ b ∧ b + 1 < M 27 0 a.toNat ∧ (M 29 0 (6 * a.toNat + b.toNat) = 0 ∨ M 29 0 (6 * a.toNat + b.toNat) = 3 ∨ M 29 0 (6 * a.toNat + b.toNat) = 4) ∧ M 29 0 (6 * a.toNat + b.toNat + 1) = 1)) ∨ (r = 1 ∧ (0 ≤ a ∧ a < 12 ∧ M 22 0 a.toNat ≠ 0 ∧ 0 ≤ b ∧ b + 1 < M 27 0 a.toNat ∧ (M 29 0 (6 * a.toNat + b.toNat) = 0 ∨ M 29 0 (6 * a.toNat + b.toNat) = 3 ∨ M 29 0 (6 * a.toNat + b.toNat) = 4) ∧ M 29 0 (6 * a.toNat + b.toNat + 1) = 1) ∧ ¬ wTx 1 (M 12 0) (wf (M 12 0) n) (wu (M 12 0) n)) ∨ (r = 0 ∧ (0 ≤ a ∧ a < 12 ∧ M 22 0 a.toNat ≠ 0 ∧ 0 ≤ b ∧ b + 1 < M 27 0 a.toNat ∧ (M 29 0 (6 * a.toNat + b.toNat) = 0 ∨ M 29 0 (6 * a.toNat + b.toNat) = 3 ∨ M 29 0 (6 * a.toNat + b.toNat) = 4) ∧ M 29 0 (6 * a.toNat + b.toNat + 1) = 1) ∧ wTx 1 (M 12 0) (wf (M 12 0) n) (wu (M 12 0) n))) ∧ (r ≠ 0 → ∀ f j i, f ≠ 1 → MM f j i = M f j i) ∧ (r = 0 → ∀ f j i, f ≠ 1 → MM f j i = wTrM M (6 * a.toNat + b.toNat) (wf (M 12 0) n) (wu (M 12 0) n - wf (M 12 0) n) (wu (M 12 0) n - wf (M 12 0) n) f j i) ∧ sFm M r MM) : ∃ r : Int, rr = [r] ∧ xTcM M n a b r MM := by
  obtain ⟨r, e, c1, c2, c3, c4, c5, c6⟩ := h
  exact ⟨r, e, ⟨c1, c2, c3, c4, c5⟩, c6⟩
theorem xTcX_fr {M M1 : SMem} {n : Nat} {a b r : Int} (h : xTcX M n a b r M1) : ∀ f j i, f ∉ lDX → M1 f j i = M f j i := wTcX_fr h.1
theorem xTcM_fr {M M1 : SMem} {n : Nat} {a b r : Int} (h : xTcM M n a b r M1) : ∀ f j i, f ∉ lDM → M1 f j i = M f j i := wTcM_fr h.1
theorem fin_traces3 {M M1 M2 : SMem} {n : Nat} {a b r r' : Int} (hI : sI tg M) (hR : Rs M) (hX : sX M) (hx : xTcX M n a b r M1) (hm : xTcM M1 n a b r' M2) : r = r' ∧ Rqs M M2 := by
  obtain ⟨er, hq⟩ := fin_traces hI hR.1 hX hx.1 hm.1
  have fr := wTcM_fr hm.1
  obtain ⟨⟨-, -, -, g1, -⟩, k1⟩ := id hx
  obtain ⟨⟨-, -, -, g2, -⟩, k2, k3⟩ := id hm
  subst er
  refine ⟨rfl, Rs_fin hR hq (fun i => wTcX_fr hx.1 1 0 i (by decide)) ?_⟩
  by_cases z : r = 0
  · exact Or.inl ⟨k1 z, fun i => fr 7 0 i (by decide), (k2 z).1, (k2 z).2⟩
  · refine Or.inr ⟨fun f y => ?_, fun f y _ => ?_, fun i hi => k3 z i (fun w => by rw [w] at hi; revert hi; decide) (fun w => by rw [w] at hi; revert hi; decide) (fun w => by rw [w] at hi; revert hi; decide) (fun w => by rw [w] at hi; revert hi; decide)⟩
    · funext j i
      exact g1 z f j i y
    · funext j i
      exact g2 z f j i y
/-- a name is told, for both: the rest of it -/
theorem fin_name3 {M M1 M2 : SMem} {n : Nat} {a g s r : Int} (hR : Rs M) (hX : sX M) (hz : Rz M M2) (hx : wNx M n a g s r M1) (hm : wNm M1 n a g s r M2) (k1 : r = 0 → sFl M1) (k2 : r ≠ 0 → ∀ f j i, f ≠ 3 → M1 f j i = M f j i) (k3 : sFm M1 r M2) : Rqs M M2 := by
  refine Rs_fin hR (Rq_of hR.1.2 hX hz) (fun i => hx.2.1 1 0 i (by decide) (by decide) (by decide) (by decide)) ?_
  by_cases z : r = 0
  · exact Or.inl ⟨k1 z, fun i => hm.2.1 7 0 i (by decide) (by decide), (k3.1 z).1, (k3.1 z).2⟩
  · refine Or.inr ⟨fun f y => ?_, fun f y1 y2 => ?_, fun i hi => k3.2 z i (fun w => by rw [w] at hi; revert hi; decide) (fun w => by rw [w] at hi; revert hi; decide) (fun w => by rw [w] at hi; revert hi; decide) (fun w => by rw [w] at hi; revert hi; decide)⟩
    · funext j i
      exact k2 z f j i y
    · funext j i
      exact hm.2.1 f j i y1 (fun q => y2 ⟨q.1, by omega⟩)
theorem datX_fr {M M1 : SMem} {a x : Int} {rr : List Int} (h : (((0 ≤ a ∧ a < 6) ∧ -1 ≤ x ∧ x < 6) ∧ rr = [1] ∧ M1 = supd (supd (supd (supd M 6 0 a.toNat x) 7 0 15 0) 7 0 16 0) 7 0 17 (-1)) ∨ (¬ ((0 ≤ a ∧ a < 6) ∧ -1 ≤ x ∧ x < 6) ∧ rr = [0] ∧ M1 = M)) : (∃ r : Int, rr = [r]) ∧ ∀ f j i, f ≠ 6 → f ≠ 7 → M1 f j i = M f j i := by
  rcases h with ⟨-, e1, e⟩ | ⟨-, e1, e⟩
  · exact ⟨⟨1, e1⟩, fun f j i y1 y2 => by rw [e, supd_f y2, supd_f y2, supd_f y2, supd_f y1]⟩
  · exact ⟨⟨0, e1⟩, fun f j i _ _ => by rw [e]⟩
theorem datM_fr {M M1 : SMem} {a x : Int} {rr : List Int} (h : (((0 ≤ a ∧ a < 6) ∧ -1 ≤ x ∧ x < 6) ∧ rr = [1] ∧ M1 = supd (supd (supd M 1 0 0 0) 33 0 a.toNat x) 1 0 28 1) ∨ (¬ ((0 ≤ a ∧ a < 6) ∧ -1 ≤ x ∧ x < 6) ∧ rr = [0] ∧ M1 = supd M 1 0 0 0)) : (∃ r : Int, rr = [r]) ∧ ∀ f j i, f ≠ 1 → f ≠ 33 → M1 f j i = M f j i := by
  rcases h with ⟨-, e1, e⟩ | ⟨-, e1, e⟩
  · exact ⟨⟨1, e1⟩, fun f j i y1 y2 => by rw [e, supd_f y1, supd_f y2, supd_f y1]⟩
  · exact ⟨⟨0, e1⟩, fun f j i y1 _ => by rw [e, supd_f y1]⟩
/-- what doubt asks of the methods that are not told by function -/
def sBu (EX : SEx) (l : Launch) (dC : Nat → ClassId) (dI : Nat → Nat → Nat) (cA : Nat → ClassId) (ad : SAd) : Prop := ∀ d : Nat, (∀ M, sI tg M → sX M → cBG tm tf EX l dC dI cA ad 0 (d + 20) kX6_doubtfulOne [(2, 7, 0)] M (fun rr MM => sI tg MM ∧ (∀ f j i, f ≠ 65 → f ≠ 66 → f ≠ 67 → f ≠ 70 → ¬ (f = 7 ∧ (i = 3 ∨ i = 4)) → MM f j i = M f j i) ∧ ∃ r : Int, rr = [r] ∧ -2147483648 ≤ r ∧ r ≤ 2147483647)) ∧ (∀ M, sI tg M → sX M → cBG tm tf EX l dC dI cA ad 0 (d + 20) kX6_doubtfulTwo [(2, 7, 0)] M (fun rr MM => sI tg MM ∧ (∀ f j i, f ≠ 65 → f ≠ 66 → f ≠ 67 → f ≠ 70 → ¬ (f = 7 ∧ (i = 3 ∨ i = 4)) → MM f j i = M f j i) ∧ ∃ r : Int, rr = [r] ∧ -2147483648 ≤ r ∧ r ≤ 2147483647)) ∧ ∀ (M : SMem) (x : Int), sI tg M → sX M → (-2147483648 ≤ x ∧ x ≤ 2147483647) → cBG tm tf EX l dC dI cA ad 0 (d + 20) kX10_hasStory [(2, 1, 0), (0, 0, x)] M (fun rr MM => sI tg MM ∧ sX MM ∧ (∀ f j i, f ≠ 34 → f ≠ 35 → f ≠ 36 → ¬ (f = 1 ∧ (i = 32 ∨ i = 34)) → MM f j i = M f j i) ∧ (rr = [0] ∨ rr = [1]))
