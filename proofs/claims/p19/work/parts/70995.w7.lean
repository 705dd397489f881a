/-! names, tapes and walls of both alike: kept by the calls that tell walls -/
/-- the names and the tapes of both are alike -/
def Rn (M : SMem) : Prop := M 57 0 = M 12 0 ∧ M 58 0 = M 17 0 ∧ M 59 0 = M 19 0 ∧ M 60 0 = M 18 0 ∧ M 61 0 = M 20 0 ∧ M 63 0 = M 21 0 ∧ ∀ i, i < 8 → M 62 0 i = wSm (M 63 0) (8 * i) (M 61 0 i).toNat
theorem Rn_congr {M M' : SMem} (h : ∀ f, f ∈ [12, 17, 18, 19, 20, 21, 57, 58, 59, 60, 61, 62, 63] → M' f 0 = M f 0) (hr : Rn M) : Rn M' := by
  unfold Rn
  rw [h 57 (by decide), h 12 (by decide), h 58 (by decide), h 17 (by decide), h 59 (by decide), h 19 (by decide), h 60 (by decide), h 18 (by decide), h 61 (by decide), h 20 (by decide), h 63 (by decide), h 21 (by decide), h 62 (by decide)]
  exact hr
/-- what a case told by function leaves as it was -/
def lDL : List Nat := [1, 3, 7, 10, 12, 17, 18, 19, 20, 21, 57, 58, 59, 60, 61, 62, 63]
def Rz (M M2 : SMem) : Prop := sI tg M2 ∧ Rn M2 ∧ M2 3 0 1 = M2 1 0 2 ∧ ∀ f j i, f ∉ lDL → M2 f j i = M f j i
def Rr (M : SMem) : Prop := Rn M ∧ Rw M
def lRow : List Nat := [12, 17, 18, 19, 20, 21, 57, 58, 59, 60, 61, 62, 63, 22, 23, 24, 25, 26, 27, 28, 29, 30, 31, 32, 64, 91, 92, 93, 94, 95]
theorem Rr_congr {M M' : SMem} (h : ∀ f, f ∈ lRow → M' f = M f) (hr : Rr M) : Rr M' := by
  refine ⟨Rn_congr (fun f hf => ?_) hr.1, Rw_congr (fun f hf => ?_) hr.2⟩
  · rw [h f]
    simp only [List.mem_cons, List.not_mem_nil, or_false] at hf
    simp only [lRow, List.mem_cons, List.not_mem_nil, or_false]
    omega
  · rw [h f]
    simp only [lWr, List.mem_cons, List.not_mem_nil, or_false] at hf
    simp only [lRow, List.mem_cons, List.not_mem_nil, or_false]
    omega
def lDW : List Nat := [1, 3, 7, 10, 12, 17, 18, 19, 20, 21, 57, 58, 59, 60, 61, 62, 63, 22, 23, 24, 25, 26, 27, 28, 29, 30, 31, 32, 64, 91, 92, 93, 94, 95]
def Rq (M M2 : SMem) : Prop := sI tg M2 ∧ Rr M2 ∧ sX M2 ∧ M2 3 0 1 = M2 1 0 2 ∧ ∀ f j i, f ∉ lDW → M2 f j i = M f j i
theorem Rq_of {M M2 : SMem} (hw : Rw M) (hx : sX M) (h : Rz M M2) : Rq M M2 := by
  obtain ⟨h1, h2, h3, h4⟩ := h
  have e : ∀ f, f ∉ lDL → M2 f = M f := fun f hf => by
    funext j i
    exact h4 f j i hf
  refine ⟨h1, ⟨h2, Rw_congr (fun f hf => e f (fun z => ?_)) hw⟩, sX_congr (e 29 (by decide)) (e 27 (by decide)) (e 50 (by decide)) hx, h3, fun f j i hf => h4 f j i (fun z => hf ?_)⟩
  · simp only [lWr, List.mem_cons, List.not_mem_nil, or_false] at hf
    simp only [lDL, List.mem_cons, List.not_mem_nil, or_false] at z
    omega
  · simp only [lDL, List.mem_cons, List.not_mem_nil, or_false] at z
    simp only [lDW, List.mem_cons, List.not_mem_nil, or_false]
    omega
/-- what the class's call may write, and the reference's -/
def lDX : List Nat := [3, 7, 10, 64, 91, 92, 93, 94, 95]
def lDM : List Nat := [1, 22, 23, 24, 25, 26, 27, 28, 29, 30, 31, 32]
theorem tell_fr {M : SMem} {p : Nat} {s hh o g : Int} : ∀ f j i, f ∉ lDX → wTell M p s hh o g f j i = M f j i := by
  intro f j i hf
  simp only [lDX, List.mem_cons, List.not_mem_nil, or_false, not_or] at hf
  unfold wTell
  rw [supd_f (by omega), supd_f (by omega), supd_f (by omega), supd_f (by omega), supd_f (by omega), supd_f (by omega)]
theorem tellM_fr {M : SMem} {p : Nat} {s hh o g : Int} : ∀ f j i, f ∉ lDM → wTellM M p s hh o g f j i = M f j i := by
  intro f j i hf
  simp only [lDM, List.mem_cons, List.not_mem_nil, or_false, not_or] at hf
  unfold wTellM
  rw [supd_f (by omega), supd_f (by omega), supd_f (by omega), supd_f (by omega), supd_f (by omega), supd_f (by omega)]
theorem addL_fr {M : SMem} {p sz : Nat} {hd dv n : Int} : ∀ f j i, f ∉ lDX → wAddL M p sz hd dv n f j i = M f j i := by
  intro f j i hf
  simp only [lDX, List.mem_cons, List.not_mem_nil, or_false, not_or] at hf
  unfold wAddL
  rw [supd_f (by omega), supd_f (by omega), supd_f (by omega), supd_f (by omega), supd_f (by omega)]
theorem addM_fr {M : SMem} {p sz : Nat} {hd dv n : Int} : ∀ f j i, f ∉ lDM → wAddM M p sz hd dv n f j i = M f j i := by
  intro f j i hf
  simp only [lDM, List.mem_cons, List.not_mem_nil, or_false, not_or] at hf
  unfold wAddM
  rw [supd_f (by omega), supd_f (by omega), supd_f (by omega), supd_f (by omega), supd_f (by omega)]
theorem rem_fr {M : SMem} {p sz : Nat} : ∀ f j i, f ∉ lDX → wRem M p sz f j i = M f j i := by
  intro f j i hf
  simp only [lDX, List.mem_cons, List.not_mem_nil, or_false, not_or] at hf
  unfold wRem
  split
  · rw [supd_f (by omega)]
  · rw [supd_f (by omega), supd_f (by omega)]
theorem remM_fr {M : SMem} {p sz : Nat} : ∀ f j i, f ∉ lDM → wRemM M p sz f j i = M f j i := by
  intro f j i hf
  simp only [lDM, List.mem_cons, List.not_mem_nil, or_false, not_or] at hf
  unfold wRemM
  split
  · rw [supd_f (by omega)]
  · rw [supd_f (by omega), supd_f (by omega)]
theorem tr_fr {M : SMem} {p l fr len m : Nat} : ∀ f j i, f ∉ lDX → wTr M p l fr len m f j i = M f j i := by
  intro f j i hf
  simp only [lDX, List.mem_cons, List.not_mem_nil, or_false, not_or] at hf
  unfold wTr
  rw [if_neg (by omega), if_neg (by omega)]
theorem trM_fr {M : SMem} {q fr len m : Nat} : ∀ f j i, f ∉ lDM → wTrM M q fr len m f j i = M f j i := by
  intro f j i hf
  simp only [lDM, List.mem_cons, List.not_mem_nil, or_false, not_or] at hf
  unfold wTrM
  rw [if_neg (by omega), if_neg (by omega)]
/-- the walls' half of it: all else is as it was -/
theorem Rq_mk {M M1 M2 N1 N2 : SMem} (hR : Rr M) (hl : M2 3 0 1 = M2 1 0 2) (i2 : sI tg M2) (g1 : ∀ f j i, f ≠ 3 → f ≠ 7 → f ≠ 10 → M1 f j i = N1 f j i) (g2 : ∀ f j i, f ≠ 1 → M2 f j i = N2 f j i) (k1 : ∀ f j i, f ∉ lDX → N1 f j i = M f j i) (k2 : ∀ f j i, f ∉ lDM → N2 f j i = M1 f j i) (N : SMem) (hN : ∀ f, f ∈ lWr → N2 f = N f) (hN29 : N2 50 = N 50) (hw : Rw N) (hx : sX N) : Rq M M2 := by
  have fr : ∀ f j i, f ∉ lDX → f ∉ lDM → M2 f j i = M f j i := fun f j i z1 z2 => by
    have w1 := z1
    have w2 := z2
    simp only [lDX, lDM, List.mem_cons, List.not_mem_nil, or_false, not_or] at w1 w2
    rw [g2 f j i (by omega), k2 f j i z2, g1 f j i (by omega) (by omega) (by omega), k1 f j i z1]
  have e : ∀ f, f ≠ 1 → M2 f = N2 f := fun f z => by
    funext j i
    exact g2 f j i z
  refine ⟨i2, ⟨Rn_congr (fun f hf => ?_) hR.1, Rw_congr (fun f hf => ?_) hw⟩, sX_congr ?_ ?_ ?_ hx, hl, fun f j i z => fr f j i (fun q => z ?_) (fun q => z ?_)⟩
  · funext i
    refine fr f 0 i (fun z => ?_) (fun z => ?_) <;> simp only [lDX, lDM, List.mem_cons, List.not_mem_nil, or_false] at hf z <;> omega
  · rw [e f (fun z => by rw [z] at hf; revert hf; decide), hN f hf]
  · rw [e 29 (by decide), hN 29 (by decide)]
  · rw [e 27 (by decide), hN 27 (by decide)]
  · rw [e 50 (by decide), hN29]
  · simp only [lDX, List.mem_cons, List.not_mem_nil, or_false] at q
    simp only [lDW, List.mem_cons, List.not_mem_nil, or_false]
    omega
  · simp only [lDM, List.mem_cons, List.not_mem_nil, or_false] at q
    simp only [lDW, List.mem_cons, List.not_mem_nil, or_false]
    omega
theorem tellM_cg {M M' : SMem} {p : Nat} {s hh o g : Int} {f j i : Nat} (h : M' f j i = M f j i) : wTellM M' p s hh o g f j i = wTellM M p s hh o g f j i := by
  simp only [wTellM, supd, h]
theorem addM_cg {M M' : SMem} {p sz : Nat} {hd dv n : Int} {f j i : Nat} (h : M' f j i = M f j i) : wAddM M' p sz hd dv n f j i = wAddM M p sz hd dv n f j i := by
  simp only [wAddM, supd, h]
theorem remM_cg {M M' : SMem} {p sz : Nat} {f j i : Nat} (h : M' f j i = M f j i) : wRemM M' p sz f j i = wRemM M p sz f j i := by
  unfold wRemM
  split <;> simp only [supd, h]
theorem trM_cg {M M' : SMem} {q fr len m : Nat} {f j i : Nat} (h1 : M' 12 0 = M 12 0) (h : M' f j i = M f j i) : wTrM M' q fr len m f j i = wTrM M q fr len m f j i := by
  unfold wTrM
  rw [h1, h]
theorem rem_fr3 {M : SMem} {p sz : Nat} : wRem M p sz 3 0 1 = M 3 0 1 := by
  unfold wRem
  split
  · rw [supd_f (by decide)]
  · rw [supd_f (by decide), supd_f (by decide)]
theorem remM_f1 {M : SMem} {p sz i : Nat} : wRemM M p sz 1 0 i = M 1 0 i := by
  unfold wRemM
  split
  · rw [supd_f (by decide)]
  · rw [supd_f (by decide), supd_f (by decide)]
theorem s11 {M : SMem} {f j i : Nat} (h : f ≠ 1) : supd M 1 0 0 0 f j i = M f j i := supd_f h
/-- refused by both -/
theorem Rq_no {M M1 M2 : SMem} (hR : Rr M) (hX : sX M) (hl : M2 3 0 1 = M2 1 0 2) (i2 : sI tg M2) (g1 : ∀ f j i, f ≠ 3 → f ≠ 7 → f ≠ 10 → M1 f j i = M f j i) (g2 : ∀ f j i, f ≠ 1 → M2 f j i = M1 f j i) : Rq M M2 := by
  have e : ∀ f, f ≠ 3 → f ≠ 7 → f ≠ 10 → M1 f = M f := fun f z1 z2 z3 => by
    funext j i
    exact g1 f j i z1 z2 z3
  refine Rq_mk hR hl i2 g1 g2 (fun _ _ _ _ => rfl) (fun _ _ _ _ => rfl) M (fun f hf => ?_) (e 50 (by decide) (by decide) (by decide)) hR.2 hX
  refine e f ?_ ?_ ?_ <;> (intro z; rw [z] at hf; revert hf; decide)
def wPlX (M : SMem) (a s hh o g r : Int) (M1 : SMem) : Prop := sI tg M1 ∧ ((((0 ≤ a ∧ a < 12) ∧ (1 ≤ s ∧ s ≤ 24) ∧ (0 ≤ hh ∧ hh ≤ 99) ∧ (0 ≤ o ∧ o ≤ 3) ∧ (0 ≤ g ∧ g ≤ 2)) ∧ r = 1 ∧ ∀ f j i, f ≠ 7 → f ≠ 10 → M1 f j i = wTell M a.toNat s hh o g f j i) ∨ (¬ ((0 ≤ a ∧ a < 12) ∧ (1 ≤ s ∧ s ≤ 24) ∧ (0 ≤ hh ∧ hh ≤ 99) ∧ (0 ≤ o ∧ o ≤ 3) ∧ (0 ≤ g ∧ g ≤ 2)) ∧ r = 0 ∧ M1 = M))
def wPlM (M : SMem) (a s hh o g r : Int) (M2 : SMem) : Prop := (((0 ≤ a ∧ a < 12) ∧ (1 ≤ s ∧ s ≤ 24) ∧ (0 ≤ hh ∧ hh ≤ 99) ∧ (0 ≤ o ∧ o ≤ 3) ∧ (0 ≤ g ∧ g ≤ 2)) ∧ r = 1 ∧ M2 = supd (wTellM (supd M 1 0 0 0) a.toNat s hh o g) 1 0 28 1) ∨ (¬ ((0 ≤ a ∧ a < 12) ∧ (1 ≤ s ∧ s ≤ 24) ∧ (0 ≤ hh ∧ hh ≤ 99) ∧ (0 ≤ o ∧ o ≤ 3) ∧ (0 ≤ g ∧ g ≤ 2)) ∧ r = 0 ∧ M2 = supd M 1 0 0 0)
theorem wPlX_fr {M M1 : SMem} {a s hh o g r : Int} (h : wPlX M a s hh o g r M1) : ∀ f j i, f ∉ lDX → M1 f j i = M f j i := by
  intro f j i hf
  obtain ⟨-, ⟨-, -, h⟩ | ⟨-, -, rfl⟩⟩ := h
  · rw [h f j i (fun z => hf (by rw [z]; decide)) (fun z => hf (by rw [z]; decide)), tell_fr f j i hf]
  · rfl
theorem wPlM_fr {M M2 : SMem} {a s hh o g r : Int} (h : wPlM M a s hh o g r M2) : ∀ f j i, f ∉ lDM → M2 f j i = M f j i := by
  intro f j i hf
  have hf1 : f ≠ 1 := fun z => hf (by rw [z]; decide)
  obtain ⟨-, -, rfl⟩ | ⟨-, -, rfl⟩ := h
  · rw [supd_f hf1, tellM_fr f j i hf, supd_f hf1]
  · rw [supd_f hf1]
theorem fin_place {M M1 M2 : SMem} {a s hh o g r r' : Int} (hR : Rr M) (hX : sX M) (hl : M 3 0 1 = M 1 0 2) (hx : wPlX M a s hh o g r M1) (hm : wPlM M1 a s hh o g r' M2) : r = r' ∧ Rq M M2 := by
  have e1 := wPlX_fr hx 1 0 2 (by decide)
  obtain ⟨i1, ⟨S, rfl, g1⟩ | ⟨S, rfl, rfl⟩⟩ := hx
  · obtain ⟨-, rfl, rfl⟩ | ⟨S', -, -⟩ := hm
    · refine ⟨rfl, Rq_mk hR ?_ ?_ (fun f j i _ => g1 f j i) (N2 := wTellM M1 a.toNat s hh o g) (fun f j i z => ?_) tell_fr tellM_fr _ (fun f hf => ?_) ?_ (Rw_tell (p := a.toNat) (s := s) (hh := hh) (o := o) (g := g) hR.2) (sX_tell hX)⟩
      · have e3 := g1 3 0 1 (by decide) (by decide)
        simp [wTell, supd] at e3
        simp [wTellM, supd]
        rw [e3, e1, hl]
      · exact wI (lo := 0) (hi := 1) (sI_tellM (wI (lo := 0) (hi := 1) i1 rfl ⟨by omega, by omega⟩) S.2.1 S.2.2.1 S.2.2.2.1 S.2.2.2.2) rfl ⟨by omega, by omega⟩
      · rw [supd_f z]
        exact tellM_cg (s11 z)
      · funext j i
        refine tellM_cg (g1 f j i ?_ ?_) <;> (intro z; rw [z] at hf; revert hf; decide)
      · funext j i
        exact tellM_cg (g1 50 j i (by decide) (by decide))
    · exact absurd S S'
  · obtain ⟨S', -, -⟩ | ⟨-, rfl, rfl⟩ := hm
    · exact absurd S' S
    · exact ⟨rfl, Rq_no hR hX (by rw [supd_f (by decide), supd_i (by decide), hl]) (wI (lo := 0) (hi := 1) i1 rfl ⟨by omega, by omega⟩) (fun _ _ _ _ _ _ => rfl) (fun f j i z => s11 z)⟩
def wCuX (M : SMem) (a hd dv n : Int) (sz : Nat) (r : Int) (M1 : SMem) : Prop := sI tg M1 ∧ ((((0 ≤ a ∧ a < 12 ∧ M 64 a.toNat 0 ≠ 0) ∧ (0 ≤ hd ∧ hd < 6) ∧ (0 ≤ dv ∧ dv < 5) ∧ (n = -1 ∨ (¬ (dv = 1 ∨ dv = 2) ∧ 0 ≤ n ∧ n < 8 ∧ M 58 0 n.toNat ≠ 0)) ∧ (sz < 6 ∧ ((sz = 0 ∧ dv = 0) ∨ (sz ≠ 0 ∧ dv ≠ 0 ∧ (((dv = 1 ∨ dv = 2) ∧ ¬ (M 92 a.toNat (sz - 1) = 1 ∨ M 92 a.toNat (sz - 1) = 2)) ∨ (¬ (dv = 1 ∨ dv = 2) ∧ (M 92 a.toNat (sz - 1) = 1 ∨ M 92 a.toNat (sz - 1) = 2) ∧ (dv ≠ 4 ∨ (sz < 2 ∨ n = -1 ∨ M 93 a.toNat (sz - 2) = -1 ∨ n = M 93 a.toNat (sz - 2))))))))) ∧ r = (sz : Int) ∧ ∀ f j i, f ≠ 7 → f ≠ 10 → M1 f j i = wAddL M a.toNat sz hd dv n f j i) ∨ (¬ ((0 ≤ a ∧ a < 12 ∧ M 64 a.toNat 0 ≠ 0) ∧ (0 ≤ hd ∧ hd < 6) ∧ (0 ≤ dv ∧ dv < 5) ∧ (n = -1 ∨ (¬ (dv = 1 ∨ dv = 2) ∧ 0 ≤ n ∧ n < 8 ∧ M 58 0 n.toNat ≠ 0)) ∧ (sz < 6 ∧ ((sz = 0 ∧ dv = 0) ∨ (sz ≠ 0 ∧ dv ≠ 0 ∧ (((dv = 1 ∨ dv = 2) ∧ ¬ (M 92 a.toNat (sz - 1) = 1 ∨ M 92 a.toNat (sz - 1) = 2)) ∨ (¬ (dv = 1 ∨ dv = 2) ∧ (M 92 a.toNat (sz - 1) = 1 ∨ M 92 a.toNat (sz - 1) = 2) ∧ (dv ≠ 4 ∨ (sz < 2 ∨ n = -1 ∨ M 93 a.toNat (sz - 2) = -1 ∨ n = M 93 a.toNat (sz - 2))))))))) ∧ r = -1 ∧ M1 = M))
def wCuM (M : SMem) (a hd dv n : Int) (sz : Nat) (r : Int) (M2 : SMem) : Prop := ((((0 ≤ a ∧ a < 12 ∧ M 22 0 a.toNat ≠ 0) ∧ (0 ≤ hd ∧ hd ≤ 5) ∧ (0 ≤ dv ∧ dv ≤ 4) ∧ (n = -1 ∨ (0 ≤ n ∧ n < 8 ∧ M 17 0 n.toNat ≠ 0))) ∧ ((dv = 0 ∨ dv = 3 ∨ dv = 4) ∨ n = -1) ∧ sz ≠ 6 ∧ ((sz = 0 ∧ dv = 0) ∨ (sz ≠ 0 ∧ dv ≠ 0 ∧ (((dv = 1 ∨ dv = 2) ∧ (M 29 0 (6 * a.toNat + sz - 1) = 0 ∨ M 29 0 (6 * a.toNat + sz - 1) = 3 ∨ M 29 0 (6 * a.toNat + sz - 1) = 4)) ∨ (¬ (dv = 1 ∨ dv = 2) ∧ (M 29 0 (6 * a.toNat + sz - 1) = 1 ∨ M 29 0 (6 * a.toNat + sz - 1) = 2))))) ∧ ¬ (dv = 4 ∧ n ≠ -1 ∧ M 30 0 (6 * a.toNat + sz - 2) ≠ -1 ∧ M 30 0 (6 * a.toNat + sz - 2) ≠ n)) ∧ r = (sz : Int) ∧ M2 = supd (wAddM (supd M 1 0 0 0) a.toNat sz hd dv n) 1 0 28 1) ∨ (¬ (((0 ≤ a ∧ a < 12 ∧ M 22 0 a.toNat ≠ 0) ∧ (0 ≤ hd ∧ hd ≤ 5) ∧ (0 ≤ dv ∧ dv ≤ 4) ∧ (n = -1 ∨ (0 ≤ n ∧ n < 8 ∧ M 17 0 n.toNat ≠ 0))) ∧ ((dv = 0 ∨ dv = 3 ∨ dv = 4) ∨ n = -1) ∧ sz ≠ 6 ∧ ((sz = 0 ∧ dv = 0) ∨ (sz ≠ 0 ∧ dv ≠ 0 ∧ (((dv = 1 ∨ dv = 2) ∧ (M 29 0 (6 * a.toNat + sz - 1) = 0 ∨ M 29 0 (6 * a.toNat + sz - 1) = 3 ∨ M 29 0 (6 * a.toNat + sz - 1) = 4)) ∨ (¬ (dv = 1 ∨ dv = 2) ∧ (M 29 0 (6 * a.toNat + sz - 1) = 1 ∨ M 29 0 (6 * a.toNat + sz - 1) = 2))))) ∧ ¬ (dv = 4 ∧ n ≠ -1 ∧ M 30 0 (6 * a.toNat + sz - 2) ≠ -1 ∧ M 30 0 (6 * a.toNat + sz - 2) ≠ n)) ∧ r = -1 ∧ M2 = supd M 1 0 0 0)
theorem wCuX_fr {M M1 : SMem} {a hd dv n r : Int} {sz : Nat} (h : wCuX M a hd dv n sz r M1) : ∀ f j i, f ∉ lDX → M1 f j i = M f j i := by
  intro f j i hf
  obtain ⟨-, ⟨-, -, h⟩ | ⟨-, -, rfl⟩⟩ := h
  · rw [h f j i (fun z => hf (by rw [z]; decide)) (fun z => hf (by rw [z]; decide)), addL_fr f j i hf]
  · rfl
theorem wCuM_fr {M M2 : SMem} {a hd dv n r : Int} {sz : Nat} (h : wCuM M a hd dv n sz r M2) : ∀ f j i, f ∉ lDM → M2 f j i = M f j i := by
  intro f j i hf
  have hf1 : f ≠ 1 := fun z => hf (by rw [z]; decide)
  obtain ⟨-, -, rfl⟩ | ⟨-, -, rfl⟩ := h
  · rw [supd_f hf1, addM_fr f j i hf, supd_f hf1]
  · rw [supd_f hf1]
/-- both let it, or neither does -/
theorem cut_iff {M : SMem} {a hd dv n : Int} {sz : Nat} (hR : Rr M) (hX : sX M) (h6 : sz ≤ 6) (hs : M 27 0 a.toNat = (sz : Int)) (hI : sI tg M) : ((0 ≤ a ∧ a < 12 ∧ M 64 a.toNat 0 ≠ 0) ∧ (0 ≤ hd ∧ hd < 6) ∧ (0 ≤ dv ∧ dv < 5) ∧ (n = -1 ∨ (¬ (dv = 1 ∨ dv = 2) ∧ 0 ≤ n ∧ n < 8 ∧ M 58 0 n.toNat ≠ 0)) ∧ (sz < 6 ∧ ((sz = 0 ∧ dv = 0) ∨ (sz ≠ 0 ∧ dv ≠ 0 ∧ (((dv = 1 ∨ dv = 2) ∧ ¬ (M 92 a.toNat (sz - 1) = 1 ∨ M 92 a.toNat (sz - 1) = 2)) ∨ (¬ (dv = 1 ∨ dv = 2) ∧ (M 92 a.toNat (sz - 1) = 1 ∨ M 92 a.toNat (sz - 1) = 2) ∧ (dv ≠ 4 ∨ (sz < 2 ∨ n = -1 ∨ M 93 a.toNat (sz - 2) = -1 ∨ n = M 93 a.toNat (sz - 2))))))))) ↔ (((0 ≤ a ∧ a < 12 ∧ M 22 0 a.toNat ≠ 0) ∧ (0 ≤ hd ∧ hd ≤ 5) ∧ (0 ≤ dv ∧ dv ≤ 4) ∧ (n = -1 ∨ (0 ≤ n ∧ n < 8 ∧ M 17 0 n.toNat ≠ 0))) ∧ ((dv = 0 ∨ dv = 3 ∨ dv = 4) ∨ n = -1) ∧ sz ≠ 6 ∧ ((sz = 0 ∧ dv = 0) ∨ (sz ≠ 0 ∧ dv ≠ 0 ∧ (((dv = 1 ∨ dv = 2) ∧ (M 29 0 (6 * a.toNat + sz - 1) = 0 ∨ M 29 0 (6 * a.toNat + sz - 1) = 3 ∨ M 29 0 (6 * a.toNat + sz - 1) = 4)) ∨ (¬ (dv = 1 ∨ dv = 2) ∧ (M 29 0 (6 * a.toNat + sz - 1) = 1 ∨ M 29 0 (6 * a.toNat + sz - 1) = 2))))) ∧ ¬ (dv = 4 ∧ n ≠ -1 ∧ M 30 0 (6 * a.toNat + sz - 2) ≠ -1 ∧ M 30 0 (6 * a.toNat + sz - 2) ≠ n)) := by
  obtain ⟨hRn, r1, r2, r3, r4, r5, r6⟩ := hR
  by_cases ha : 0 ≤ a ∧ a < 12
  · obtain ⟨p, rfl⟩ : ∃ p : Nat, a = (p : Int) := ⟨a.toNat, by omega⟩
    rw [show ((p : Int)).toNat = p by omega] at *
    have a1 := (r1 p (by omega)).1
    have e58 : M 58 0 n.toNat = M 17 0 n.toNat := by rw [hRn.2.1]
    rw [a1, e58]
    by_cases h0 : sz = 0
    · subst h0
      constructor
      · intro h
        refine ⟨⟨h.1, by omega, by omega, by omega⟩, by omega, by omega, by omega, by omega⟩
      · intro h
        refine ⟨h.1.1, by omega, by omega, by omega, by omega, by omega⟩
    · have t1 := (r2 p (sz - 1) (by omega) (by omega)).2.1
      rw [show 6 * p + (sz - 1) = 6 * p + sz - 1 by omega] at t1
      have b1 := wIb (f := 29) (i := 6 * p + sz - 1) (lo := 0) (hi := 4) hI 0 rfl
      rw [t1]
      by_cases h1 : sz = 1
      · subst h1
        have d0 := hX.1 (6 * p + 1 - 1)
        rw [show (6 * p + 1 - 1) % 6 = 0 by omega] at d0
        have d1 : M 29 0 (6 * p + 1 - 1) = 0 := by
          unfold sD1 at d0
          omega
        rw [d1]
        constructor
        · intro h
          refine ⟨⟨h.1, by omega, by omega, by omega⟩, by omega, by omega, by omega, by omega⟩
        · intro h
          refine ⟨h.1.1, by omega, by omega, by omega, by omega, by omega⟩
      · have t2 := (r2 p (sz - 2) (by omega) (by omega)).2.2.1
        rw [show 6 * p + (sz - 2) = 6 * p + sz - 2 by omega] at t2
        rw [t2]
        constructor
        · intro h
          refine ⟨⟨h.1, by omega, by omega, by omega⟩, by omega, by omega, by omega, by omega⟩
        · intro h
          refine ⟨h.1.1, by omega, by omega, by omega, by omega, by omega⟩
  · constructor
    · intro h
      exact absurd ⟨h.1.1, h.1.2.1⟩ ha
    · intro h
      exact absurd ⟨h.1.1.1, h.1.1.2.1⟩ ha
theorem fin_cut {M M1 M2 : SMem} {a hd dv n r r' : Int} {sz : Nat} (hI : sI tg M) (hR : Rr M) (hX : sX M) (hl : M 3 0 1 = M 1 0 2) (hs : M 27 0 a.toNat = (sz : Int)) (hx : wCuX M a hd dv n sz r M1) (hm : wCuM M1 a hd dv n sz r' M2) : r = r' ∧ Rq M M2 := by
  have b6 := wIb (f := 27) (i := a.toNat) (lo := 0) (hi := 6) hI 0 rfl
  have e1 := wCuX_fr hx 1 0 2 (by decide)
  have fr := wCuX_fr hx
  have hiff := cut_iff (hd := hd) (dv := dv) (n := n) hR hX (by omega) hs hI
  unfold wCuM at hm
  rw [fr 22 0 a.toNat (by decide), fr 17 0 n.toNat (by decide), fr 29 0 (6 * a.toNat + sz - 1) (by decide), fr 30 0 (6 * a.toNat + sz - 2) (by decide), ← hiff] at hm
  obtain ⟨i1, ⟨S, rfl, g1⟩ | ⟨S, rfl, rfl⟩⟩ := hx
  · obtain ⟨-, rfl, rfl⟩ | ⟨S', -, -⟩ := hm
    · have A := hiff.mp S
      have hp9 : a.toNat < 12 := by omega
      have c6 : sz < 6 := by omega
      have top : 1 ≤ sz → sD1 (sz - 1) (M 29 0 (6 * a.toNat + sz - 1)) := fun z => by
        have := hX.1 (6 * a.toNat + sz - 1)
        rw [show (6 * a.toNat + sz - 1) % 6 = sz - 1 by omega] at this
        exact this
      have top0 : 2 ≤ sz → M 29 0 (6 * a.toNat + sz - 1) ≠ 0 := fun z => by
        have := hX.2.1 a.toNat (sz - 1) (by omega) (by omega) (by omega)
        rw [show 6 * a.toNat + (sz - 1) = 6 * a.toNat + sz - 1 by omega] at this
        exact this
      have dsz : sD1 sz dv ∧ (1 ≤ sz → dv ≠ 0) := by
        have q1 := A.2.2.2.1
        have q2 := A.1.2.2.1
        unfold sD1 at top ⊢
        by_cases z : sz = 0
        · omega
        · have w1 := top (by omega)
          by_cases z1 : sz = 1
          · omega
          · have w2 := top0 (by omega)
            omega
      have hodd : sz % 2 = 1 → n = -1 := fun z => by
        have q1 := dsz.1
        have q2 := dsz.2 (by omega)
        have q3 := A.2.1
        unfold sD1 at q1
        omega
      refine ⟨rfl, Rq_mk hR ?_ ?_ (fun f j i _ => g1 f j i) (N2 := wAddM M1 a.toNat sz hd dv n) (fun f j i z => ?_) addL_fr addM_fr _ (fun f hf => ?_) ?_ (Rw_add (hd := hd) (dv := dv) (n := n) hp9 c6 A.1.1.2.2 hs hodd hR.2) (sX_add c6 hs dsz.1 dsz.2 hX)⟩
      · have e3 := g1 3 0 1 (by decide) (by decide)
        simp [wAddL, supd] at e3
        simp [wAddM, supd]
        rw [e3, e1, hl]
      · exact wI (lo := 0) (hi := 1) (sI_addM (wI (lo := 0) (hi := 1) i1 rfl ⟨by omega, by omega⟩) c6 A.1.2.1 A.1.2.2.1 (by omega)) rfl ⟨by omega, by omega⟩
      · rw [supd_f z]
        exact addM_cg (s11 z)
      · funext j i
        refine addM_cg (g1 f j i ?_ ?_) <;> (intro z; rw [z] at hf; revert hf; decide)
      · funext j i
        exact addM_cg (g1 50 j i (by decide) (by decide))
    · exact absurd S S'
  · obtain ⟨S', -, -⟩ | ⟨-, rfl, rfl⟩ := hm
    · exact absurd S' S
    · exact ⟨rfl, Rq_no hR hX (by rw [supd_f (by decide), supd_i (by decide), hl]) (wI (lo := 0) (hi := 1) i1 rfl ⟨by omega, by omega⟩) (fun _ _ _ _ _ _ => rfl) (fun f j i z => s11 z)⟩
def wClX (M : SMem) (a : Int) (sz : Nat) (r : Int) (M1 : SMem) : Prop := sI tg M1 ∧ (((0 ≤ a ∧ a < 12 ∧ M 64 a.toNat 0 ≠ 0 ∧ sz ≠ 0) ∧ r = 1 ∧ ∀ f j i, f ≠ 7 → f ≠ 10 → M1 f j i = wRem M a.toNat sz f j i) ∨ (¬ (0 ≤ a ∧ a < 12 ∧ M 64 a.toNat 0 ≠ 0 ∧ sz ≠ 0) ∧ r = 0 ∧ M1 = M))
def wClM (M : SMem) (a : Int) (sz : Nat) (r : Int) (M2 : SMem) : Prop := ((0 ≤ a ∧ a < 12 ∧ M 22 0 a.toNat ≠ 0 ∧ sz ≠ 0) ∧ r = 1 ∧ M2 = supd (wRemM (supd M 1 0 0 0) a.toNat sz) 1 0 28 1) ∨ (¬ (0 ≤ a ∧ a < 12 ∧ M 22 0 a.toNat ≠ 0 ∧ sz ≠ 0) ∧ r = 0 ∧ M2 = supd M 1 0 0 0)
theorem wClX_fr {M M1 : SMem} {a r : Int} {sz : Nat} (h : wClX M a sz r M1) : ∀ f j i, f ∉ lDX → M1 f j i = M f j i := by
  intro f j i hf
  obtain ⟨-, ⟨-, -, h⟩ | ⟨-, -, rfl⟩⟩ := h
  · rw [h f j i (fun z => hf (by rw [z]; decide)) (fun z => hf (by rw [z]; decide)), rem_fr f j i hf]
  · rfl
theorem wClM_fr {M M2 : SMem} {a r : Int} {sz : Nat} (h : wClM M a sz r M2) : ∀ f j i, f ∉ lDM → M2 f j i = M f j i := by
  intro f j i hf
  have hf1 : f ≠ 1 := fun z => hf (by rw [z]; decide)
  obtain ⟨-, -, rfl⟩ | ⟨-, -, rfl⟩ := h
  · rw [supd_f hf1, remM_fr f j i hf, supd_f hf1]
  · rw [supd_f hf1]
theorem fin_clean {M M1 M2 : SMem} {a r r' : Int} {sz : Nat} (hI : sI tg M) (hR : Rr M) (hX : sX M) (hl : M 3 0 1 = M 1 0 2) (hs : M 27 0 a.toNat = (sz : Int)) (hx : wClX M a sz r M1) (hm : wClM M1 a sz r' M2) : r = r' ∧ Rq M M2 := by
  have b6 := wIb (f := 27) (i := a.toNat) (lo := 0) (hi := 6) hI 0 rfl
  have e1 := wClX_fr hx 1 0 2 (by decide)
  have fr := wClX_fr hx
  have e22 := fr 22 0 a.toNat (by decide)
  have a1 : 0 ≤ a → a < 12 → M 64 a.toNat 0 = M 22 0 a.toNat := fun z1 z2 => (hR.2.1 a.toNat (by omega)).1
  unfold wClM at hm
  rw [e22] at hm
  obtain ⟨i1, ⟨S, rfl, g1⟩ | ⟨S, rfl, rfl⟩⟩ := hx
  · have a2 := a1 S.1 S.2.1
    obtain ⟨-, rfl, rfl⟩ | ⟨S', -, -⟩ := hm
    · refine ⟨rfl, Rq_mk hR ?_ ?_ (fun f j i _ => g1 f j i) (N2 := wRemM M1 a.toNat sz) (fun f j i z => ?_) rem_fr remM_fr _ (fun f hf => ?_) ?_ (Rw_rem (p := a.toNat) (by omega) (by omega) (by omega) hs hR.2) (sX_rem (by omega) hs hX)⟩
      · have e3 := g1 3 0 1 (by decide) (by decide)
        rw [rem_fr3] at e3
        rw [supd_f (by decide), supd_i (by decide), remM_cg (s11 (by decide)), remM_fr _ _ _ (by decide), remM_f1, supd_i (by decide), e3, e1, hl]
      · exact wI (lo := 0) (hi := 1) (sI_remM (wI (lo := 0) (hi := 1) i1 rfl ⟨by omega, by omega⟩) (by omega) (by omega)) rfl ⟨by omega, by omega⟩
      · rw [supd_f z]
        exact remM_cg (s11 z)
      · funext j i
        refine remM_cg (g1 f j i ?_ ?_) <;> (intro z; rw [z] at hf; revert hf; decide)
      · funext j i
        exact remM_cg (g1 50 j i (by decide) (by decide))
    · exact absurd ⟨S.1, S.2.1, by rw [← a2]; exact S.2.2.1, S.2.2.2⟩ S'
  · obtain ⟨S', -, -⟩ | ⟨-, rfl, rfl⟩ := hm
    · exact absurd ⟨S'.1, S'.2.1, by rw [a1 S'.1 S'.2.1]; exact S'.2.2.1, S'.2.2.2⟩ S
    · exact ⟨rfl, Rq_no hR hX (by rw [supd_f (by decide), supd_i (by decide), hl]) (wI (lo := 0) (hi := 1) i1 rfl ⟨by omega, by omega⟩) (fun _ _ _ _ _ _ => rfl) (fun f j i z => s11 z)⟩
def wTcX (M : SMem) (n : Nat) (a b r : Int) (MM : SMem) : Prop := sI tg MM ∧ MM 3 0 1 = 0 ∧ ((r = -1 ∧ ¬ (0 ≤ a ∧ a < 12 ∧ M 64 a.toNat 0 ≠ 0 ∧ 0 ≤ b ∧ b + 1 < M 64 a.toNat 5 ∧ ¬ (M 92 a.toNat b.toNat = 1 ∨ M 92 a.toNat b.toNat = 2) ∧ M 92 a.toNat (b.toNat + 1) = 1)) ∨ (r = 1 ∧ (0 ≤ a ∧ a < 12 ∧ M 64 a.toNat 0 ≠ 0 ∧ 0 ≤ b ∧ b + 1 < M 64 a.toNat 5 ∧ ¬ (M 92 a.toNat b.toNat = 1 ∨ M 92 a.toNat b.toNat = 2) ∧ M 92 a.toNat (b.toNat + 1) = 1) ∧ ¬ wTx 1 (M 57 0) (wf (M 57 0) n) (wu (M 57 0) n)) ∨ (r = 0 ∧ (0 ≤ a ∧ a < 12 ∧ M 64 a.toNat 0 ≠ 0 ∧ 0 ≤ b ∧ b + 1 < M 64 a.toNat 5 ∧ ¬ (M 92 a.toNat b.toNat = 1 ∨ M 92 a.toNat b.toNat = 2) ∧ M 92 a.toNat (b.toNat + 1) = 1) ∧ wTx 1 (M 57 0) (wf (M 57 0) n) (wu (M 57 0) n))) ∧ (r ≠ 0 → ∀ f j i, f ≠ 3 → MM f j i = M f j i) ∧ (r = 0 → ∀ f j i, f ≠ 3 → f ≠ 7 → f ≠ 10 → MM f j i = wTr M a.toNat b.toNat (wf (M 57 0) n) (wu (M 57 0) n - wf (M 57 0) n) (wu (M 57 0) n - wf (M 57 0) n) f j i)
def wTcM (M : SMem) (n : Nat) (a b r : Int) (MM : SMem) : Prop := sI tg MM ∧ MM 1 0 2 = 0 ∧ ((r = -1 ∧ ¬ (0 ≤ a ∧ a < 12 ∧ M 22 0 a.toNat ≠ 0 ∧ 0 ≤ b ∧ b + 1 < M 27 0 a.toNat ∧ (M 29 0 (6 * a.toNat + b.toNat) = 0 ∨ M 29 0 (6 * a.toNat + b.toNat) = 3 ∨ M 29 0 (6 * a.toNat + b.toNat) = 4) ∧ M 29 0 (6 * a.toNat + b.toNat + 1) = 1)) ∨ (r = 1 ∧ (0 ≤ a ∧ a < 12 ∧ M 22 0 a.toNat ≠ 0 ∧ 0 ≤ b ∧ b + 1 < M 27 0 a.toNat ∧ (M 29 0 (6 * a.toNat + b.toNat) = 0 ∨ M 29 0 (6 * a.toNat + b.toNat) = 3 ∨ M 29 0 (6 * a.toNat + b.toNat) = 4) ∧ M 29 0 (6 * a.toNat + b.toNat + 1) = 1) ∧ ¬ wTx 1 (M 12 0) (wf (M 12 0) n) (wu (M 12 0) n)) ∨ (r = 0 ∧ (0 ≤ a ∧ a < 12 ∧ M 22 0 a.toNat ≠ 0 ∧ 0 ≤ b ∧ b + 1 < M 27 0 a.toNat ∧ (M 29 0 (6 * a.toNat + b.toNat) = 0 ∨ M 29 0 (6 * a.toNat + b.toNat) = 3 ∨ M 29 0 (6 * a.toNat + b.toNat) = 4) ∧ M 29 0 (6 * a.toNat + b.toNat + 1) = 1) ∧ wTx 1 (M 12 0) (wf (M 12 0) n) (wu (M 12 0) n))) ∧ (r ≠ 0 → ∀ f j i, f ≠ 1 → MM f j i = M f j i) ∧ (r = 0 → ∀ f j i, f ≠ 1 → MM f j i = wTrM M (6 * a.toNat + b.toNat) (wf (M 12 0) n) (wu (M 12 0) n - wf (M 12 0) n) (wu (M 12 0) n - wf (M 12 0) n) f j i)
theorem wTcX_fr {M M1 : SMem} {n : Nat} {a b r : Int} (h : wTcX M n a b r M1) : ∀ f j i, f ∉ lDX → M1 f j i = M f j i := by
  intro f j i hf
  obtain ⟨-, -, -, h1, h2⟩ := h
  have z1 : f ≠ 3 := fun z => hf (by rw [z]; decide)
  have z2 : f ≠ 7 := fun z => hf (by rw [z]; decide)
  have z3 : f ≠ 10 := fun z => hf (by rw [z]; decide)
  by_cases hr : r = 0
  · rw [h2 hr f j i z1 z2 z3, tr_fr f j i hf]
  · exact h1 hr f j i z1
theorem wTcM_fr {M M2 : SMem} {n : Nat} {a b r : Int} (h : wTcM M n a b r M2) : ∀ f j i, f ∉ lDM → M2 f j i = M f j i := by
  intro f j i hf
  obtain ⟨-, -, -, h1, h2⟩ := h
  have z1 : f ≠ 1 := fun z => hf (by rw [z]; decide)
  by_cases hr : r = 0
  · rw [h2 hr f j i z1, trM_fr f j i hf]
  · exact h1 hr f j i z1
theorem tr_iff {M : SMem} {a b : Int} (hI : sI tg M) (hR : Rr M) : (0 ≤ a ∧ a < 12 ∧ M 64 a.toNat 0 ≠ 0 ∧ 0 ≤ b ∧ b + 1 < M 64 a.toNat 5 ∧ ¬ (M 92 a.toNat b.toNat = 1 ∨ M 92 a.toNat b.toNat = 2) ∧ M 92 a.toNat (b.toNat + 1) = 1) ↔ (0 ≤ a ∧ a < 12 ∧ M 22 0 a.toNat ≠ 0 ∧ 0 ≤ b ∧ b + 1 < M 27 0 a.toNat ∧ (M 29 0 (6 * a.toNat + b.toNat) = 0 ∨ M 29 0 (6 * a.toNat + b.toNat) = 3 ∨ M 29 0 (6 * a.toNat + b.toNat) = 4) ∧ M 29 0 (6 * a.toNat + b.toNat + 1) = 1) := by
  obtain ⟨hRn, r1, r2, r3, r4, r5, r6⟩ := hR
  by_cases ha : 0 ≤ a ∧ a < 12 ∧ 0 ≤ b ∧ b + 1 < M 27 0 a.toNat
  · have b6 := wIb (f := 27) (i := a.toNat) (lo := 0) (hi := 6) hI 0 rfl
    obtain ⟨c1, -, -, -, -, c6⟩ := r1 a.toNat (by omega)
    have d1 := (r2 a.toNat b.toNat (by omega) (by omega)).2.1
    have d2 := (r2 a.toNat (b.toNat + 1) (by omega) (by omega)).2.1
    rw [← Nat.add_assoc] at d2
    have b1 := wIb (f := 29) (i := 6 * a.toNat + b.toNat) (lo := 0) (hi := 4) hI 0 rfl
    rw [c1, c6, d1, d2]
    constructor
    · intro h
      omega
    · intro h
      omega
  · by_cases hb : 0 ≤ a ∧ a < 12
    · obtain ⟨c1, -, -, -, -, c6⟩ := r1 a.toNat (by omega)
      rw [c1, c6]
      constructor
      · intro h
        omega
      · intro h
        omega
    · constructor
      · intro h
        omega
      · intro h
        omega
theorem fin_traces {M M1 M2 : SMem} {n : Nat} {a b r r' : Int} (hI : sI tg M) (hR : Rr M) (hX : sX M) (hx : wTcX M n a b r M1) (hm : wTcM M1 n a b r' M2) : r = r' ∧ Rq M M2 := by
  have b6 := wIb (f := 27) (i := a.toNat) (lo := 0) (hi := 6) hI 0 rfl
  have fr := wTcX_fr hx
  have hiff := tr_iff (a := a) (b := b) hI hR
  have e12 : M1 12 0 = M 57 0 := by
    rw [hR.1.1]
    funext k
    exact fr 12 0 k (by decide)
  have frm := wTcM_fr hm
  obtain ⟨i1, l1, c1, k1, q1⟩ := hx
  obtain ⟨i2, l2, c2, k2, q2⟩ := hm
  rw [fr 22 0 a.toNat (by decide), fr 27 0 a.toNat (by decide), fr 29 0 (6 * a.toNat + b.toNat) (by decide), fr 29 0 (6 * a.toNat + b.toNat + 1) (by decide), e12, ← hiff] at c2
  rw [e12] at q2
  have hl : M2 3 0 1 = M2 1 0 2 := by rw [frm 3 0 1 (by decide), l1, l2]
  have er : r = r' := by
    rcases c1 with ⟨rfl, z⟩ | ⟨rfl, z, y⟩ | ⟨rfl, z, y⟩ <;> rcases c2 with ⟨rfl, z'⟩ | ⟨rfl, z', y'⟩ | ⟨rfl, z', y'⟩ <;> first | rfl | exact absurd z' z | exact absurd z z' | exact absurd y y' | exact absurd y' y
  refine ⟨er, ?_⟩
  subst er
  by_cases hr : r = 0
  · have g1 := q1 hr
    have g2 := q2 hr
    obtain ⟨hN, hT⟩ : (0 ≤ a ∧ a < 12 ∧ M 64 a.toNat 0 ≠ 0 ∧ 0 ≤ b ∧ b + 1 < M 64 a.toNat 5 ∧ ¬ (M 92 a.toNat b.toNat = 1 ∨ M 92 a.toNat b.toNat = 2) ∧ M 92 a.toNat (b.toNat + 1) = 1) ∧ wTx 1 (M 57 0) (wf (M 57 0) n) (wu (M 57 0) n) := by
      rcases c1 with ⟨z, -⟩ | ⟨z, -⟩ | ⟨-, z, y⟩
      · omega
      · omega
      · exact ⟨z, y⟩
    have hM := hiff.mp hN
    generalize wf (M 57 0) n = fr' at *
    generalize wu (M 57 0) n = up at *
    have t1 := hT.1
    have t2 := hT.2.1
    refine Rq_mk hR hl i2 g1 g2 tr_fr trM_fr _ (fun f hf => ?_) ?_ (Rw_tr (p := a.toNat) (l := b.toNat) (fr := fr') (len := up - fr') (by omega) (by omega) (by omega) hR.1.1 (fun k hk => ?_) hR.2) (sX_tr hX)
    · funext j i
      refine trM_cg ?_ ?_
      · funext k
        exact g1 12 0 k (by decide) (by decide) (by decide)
      · refine g1 f j i ?_ ?_ ?_ <;> (intro z; rw [z] at hf; revert hf; decide)
    · funext j i
      refine trM_cg ?_ (g1 50 j i (by decide) (by decide) (by decide))
      funext k
      exact g1 12 0 k (by decide) (by decide) (by decide)
    · rcases hT.2.2 (fr' + k) (by omega) (by omega) with z | z
      · exact Or.inl z
      · exact Or.inr z.2
  · exact Rq_no hR hX hl i2 (fun f j i z1 _ _ => k1 hr f j i z1) (fun f j i z => k2 hr f j i z)
theorem wPlX_of {M MM : SMem} {a s hh o g : Int} {rr : List Int} (h : sI tg MM ∧ ((((0 ≤ a ∧ a < 12) ∧ (1 ≤ s ∧ s ≤ 24) ∧ (0 ≤ hh ∧ hh ≤ 99) ∧ (0 ≤ o ∧ o ≤ 3) ∧ (0 ≤ g ∧ g ≤ 2)) ∧ rr = [1] ∧ ∀ f j i, f ≠ 7 → f ≠ 10 → MM f j i = wTell M a.toNat s hh o g f j i) ∨ (¬ ((0 ≤ a ∧ a < 12) ∧ (1 ≤ s ∧ s ≤ 24) ∧ (0 ≤ hh ∧ hh ≤ 99) ∧ (0 ≤ o ∧ o ≤ 3) ∧ (0 ≤ g ∧ g ≤ 2)) ∧ rr = [0] ∧ MM = M))) : ∃ r : Int, rr = [r] ∧ wPlX M a s hh o g r MM := by
  obtain ⟨i1, ⟨S, e, f⟩ | ⟨S, e, f⟩⟩ := h
  · exact ⟨1, e, i1, Or.inl ⟨S, rfl, f⟩⟩
  · exact ⟨0, e, i1, Or.inr ⟨S, rfl, f⟩⟩
theorem wPlM_of {M MM : SMem} {a s hh o g : Int} {rr : List Int} (h : (((0 ≤ a ∧ a < 12) ∧ (1 ≤ s ∧ s ≤ 24) ∧ (0 ≤ hh ∧ hh ≤ 99) ∧ (0 ≤ o ∧ o ≤ 3) ∧ (0 ≤ g ∧ g ≤ 2)) ∧ rr = [1] ∧ MM = supd (wTellM (supd M 1 0 0 0) a.toNat s hh o g) 1 0 28 1) ∨ (¬ ((0 ≤ a ∧ a < 12) ∧ (1 ≤ s ∧ s ≤ 24) ∧ (0 ≤ hh ∧ hh ≤ 99) ∧ (0 ≤ o ∧ o ≤ 3) ∧ (0 ≤ g ∧ g ≤ 2)) ∧ rr = [0] ∧ MM = supd M 1 0 0 0)) : ∃ r : Int, rr = [r] ∧ wPlM M a s hh o g r MM := by
  obtain ⟨S, e, f⟩ | ⟨S, e, f⟩ := h
  · exact ⟨1, e, Or.inl ⟨S, rfl, f⟩⟩
  · exact ⟨0, e, Or.inr ⟨S, rfl, f⟩⟩
theorem wCuX_of {M MM : SMem} {a hd dv n : Int} {sz : Nat} {rr : List Int} (h : sI tg MM ∧ ((((0 ≤ a ∧ a < 12 ∧ M 64 a.toNat 0 ≠ 0) ∧ (0 ≤ hd ∧ hd < 6) ∧ (0 ≤ dv ∧ dv < 5) ∧ (n = -1 ∨ (¬ (dv = 1 ∨ dv = 2) ∧ 0 ≤ n ∧ n < 8 ∧ M 58 0 n.toNat ≠ 0)) ∧ (sz < 6 ∧ ((sz = 0 ∧ dv = 0) ∨ (sz ≠ 0 ∧ dv ≠ 0 ∧ (((dv = 1 ∨ dv = 2) ∧ ¬ (M 92 a.toNat (sz - 1) = 1 ∨ M 92 a.toNat (sz - 1) = 2)) ∨ (¬ (dv = 1 ∨ dv = 2) ∧ (M 92 a.toNat (sz - 1) = 1 ∨ M 92 a.toNat (sz - 1) = 2) ∧ (dv ≠ 4 ∨ (sz < 2 ∨ n = -1 ∨ M 93 a.toNat (sz - 2) = -1 ∨ n = M 93 a.toNat (sz - 2))))))))) ∧ rr = [(sz : Int)] ∧ ∀ f j i, f ≠ 7 → f ≠ 10 → MM f j i = wAddL M a.toNat sz hd dv n f j i) ∨ (¬ ((0 ≤ a ∧ a < 12 ∧ M 64 a.toNat 0 ≠ 0) ∧ (0 ≤ hd ∧ hd < 6) ∧ (0 ≤ dv ∧ dv < 5) ∧ (n = -1 ∨ (¬ (dv = 1 ∨ dv = 2) ∧ 0 ≤ n ∧ n < 8 ∧ M 58 0 n.toNat ≠ 0)) ∧ (sz < 6 ∧ ((sz = 0 ∧ dv = 0) ∨ (sz ≠ 0 ∧ dv ≠ 0 ∧ (((dv = 1 ∨ dv = 2) ∧ ¬ (M 92 a.toNat (sz - 1) = 1 ∨ M 92 a.toNat (sz - 1) = 2)) ∨ (¬ (dv = 1 ∨ dv = 2) ∧ (M 92 a.toNat (sz - 1) = 1 ∨ M 92 a.toNat (sz - 1) = 2) ∧ (dv ≠ 4 ∨ (sz < 2 ∨ n = -1 ∨ M 93 a.toNat (sz - 2) = -1 ∨ n = M 93 a.toNat (sz - 2))))))))) ∧ rr = [-1] ∧ MM = M))) : ∃ r : Int, rr = [r] ∧ wCuX M a hd dv n sz r MM := by
  obtain ⟨i1, ⟨S, e, f⟩ | ⟨S, e, f⟩⟩ := h
  · exact ⟨(sz : Int), e, i1, Or.inl ⟨S, rfl, f⟩⟩
  · exact ⟨-1, e, i1, Or.inr ⟨S, rfl, f⟩⟩
theorem wCuM_of {M MM : SMem} {a hd dv n : Int} {sz : Nat} {rr : List Int} (h : ((((0 ≤ a ∧ a < 12 ∧ M 22 0 a.toNat ≠ 0) ∧ (0 ≤ hd ∧ hd ≤ 5) ∧ (0 ≤ dv ∧ dv ≤ 4) ∧ (n = -1 ∨ (0 ≤ n ∧ n < 8 ∧ M 17 0 n.toNat ≠ 0))) ∧ ((dv = 0 ∨ dv = 3 ∨ dv = 4) ∨ n = -1) ∧ sz ≠ 6 ∧ ((sz = 0 ∧ dv = 0) ∨ (sz ≠ 0 ∧ dv ≠ 0 ∧ (((dv = 1 ∨ dv = 2) ∧ (M 29 0 (6 * a.toNat + sz - 1) = 0 ∨ M 29 0 (6 * a.toNat + sz - 1) = 3 ∨ M 29 0 (6 * a.toNat + sz - 1) = 4)) ∨ (¬ (dv = 1 ∨ dv = 2) ∧ (M 29 0 (6 * a.toNat + sz - 1) = 1 ∨ M 29 0 (6 * a.toNat + sz - 1) = 2))))) ∧ ¬ (dv = 4 ∧ n ≠ -1 ∧ M 30 0 (6 * a.toNat + sz - 2) ≠ -1 ∧ M 30 0 (6 * a.toNat + sz - 2) ≠ n)) ∧ rr = [(sz : Int)] ∧ MM = supd (wAddM (supd M 1 0 0 0) a.toNat sz hd dv n) 1 0 28 1) ∨ (¬ (((0 ≤ a ∧ a < 12 ∧ M 22 0 a.toNat ≠ 0) ∧ (0 ≤ hd ∧ hd ≤ 5) ∧ (0 ≤ dv ∧ dv ≤ 4) ∧ (n = -1 ∨ (0 ≤ n ∧ n < 8 ∧ M 17 0 n.toNat ≠ 0))) ∧ ((dv = 0 ∨ dv = 3 ∨ dv = 4) ∨ n = -1) ∧ sz ≠ 6 ∧ ((sz = 0 ∧ dv = 0) ∨ (sz ≠ 0 ∧ dv ≠ 0 ∧ (((dv = 1 ∨ dv = 2) ∧ (M 29 0 (6 * a.toNat + sz - 1) = 0 ∨ M 29 0 (6 * a.toNat + sz - 1) = 3 ∨ M 29 0 (6 * a.toNat + sz - 1) = 4)) ∨ (¬ (dv = 1 ∨ dv = 2) ∧ (M 29 0 (6 * a.toNat + sz - 1) = 1 ∨ M 29 0 (6 * a.toNat + sz - 1) = 2))))) ∧ ¬ (dv = 4 ∧ n ≠ -1 ∧ M 30 0 (6 * a.toNat + sz - 2) ≠ -1 ∧ M 30 0 (6 * a.toNat + sz - 2) ≠ n)) ∧ rr = [-1] ∧ MM = supd M 1 0 0 0)) : ∃ r : Int, rr = [r] ∧ wCuM M a hd dv n sz r MM := by
  obtain ⟨S, e, f⟩ | ⟨S, e, f⟩ := h
  · exact ⟨(sz : Int), e, Or.inl ⟨S, rfl, f⟩⟩
  · exact ⟨-1, e, Or.inr ⟨S, rfl, f⟩⟩
theorem wClX_of {M MM : SMem} {a : Int} {sz : Nat} {rr : List Int} (h : sI tg MM ∧ (((0 ≤ a ∧ a < 12 ∧ M 64 a.toNat 0 ≠ 0 ∧ sz ≠ 0) ∧ rr = [1] ∧ ∀ f j i, f ≠ 7 → f ≠ 10 → MM f j i = wRem M a.toNat sz f j i) ∨ (¬ (0 ≤ a ∧ a < 12 ∧ M 64 a.toNat 0 ≠ 0 ∧ sz ≠ 0) ∧ rr = [0] ∧ MM = M))) : ∃ r : Int, rr = [r] ∧ wClX M a sz r MM := by
  obtain ⟨i1, ⟨S, e, f⟩ | ⟨S, e, f⟩⟩ := h
  · exact ⟨1, e, i1, Or.inl ⟨S, rfl, f⟩⟩
  · exact ⟨0, e, i1, Or.inr ⟨S, rfl, f⟩⟩
theorem wClM_of {M MM : SMem} {a : Int} {sz : Nat} {rr : List Int} (h : ((0 ≤ a ∧ a < 12 ∧ M 22 0 a.toNat ≠ 0 ∧ sz ≠ 0) ∧ rr = [1] ∧ MM = supd (wRemM (supd M 1 0 0 0) a.toNat sz) 1 0 28 1) ∨ (¬ (0 ≤ a ∧ a < 12 ∧ M 22 0 a.toNat ≠ 0 ∧ sz ≠ 0) ∧ rr = [0] ∧ MM = supd M 1 0 0 0)) : ∃ r : Int, rr = [r] ∧ wClM M a sz r MM := by
  obtain ⟨S, e, f⟩ | ⟨S, e, f⟩ := h
  · exact ⟨1, e, Or.inl ⟨S, rfl, f⟩⟩
  · exact ⟨0, e, Or.inr ⟨S, rfl, f⟩⟩
/-- the size of a wall, for both -/
theorem wSz {M : SMem} (hI : sI tg M) (p : Nat) : M 27 0 p = ((M 27 0 p).toNat : Int) := by
  have := wIb (f := 27) (i := p) (lo := 0) (hi := 6) hI 0 rfl
  omega
theorem wSzX {M : SMem} (hI : sI tg M) (p : Nat) : M 64 p 5 = ((M 64 p 5).toNat : Int) := by
  have := wIb (f := 64) (i := 5) (lo := 0) (hi := 6) hI p rfl
  omega
theorem fin_cut2 {M M1 M2 : SMem} {a hd dv n r r' : Int} (hI : sI tg M) (hR : Rr M) (hX : sX M) (hl : M 3 0 1 = M 1 0 2) (hx : wCuX M a hd dv n (M 64 a.toNat 5).toNat r M1) (hm : wCuM M1 a hd dv n (M 27 0 a.toNat).toNat r' M2) : r = r' ∧ Rq M M2 := by
  by_cases ha : a.toNat < 12
  · rw [(hR.2.1 a.toNat ha).2.2.2.2.2] at hx
    exact fin_cut hI hR hX hl (wSz hI _) hx hm
  · obtain ⟨i1, ⟨S, -, -⟩ | ⟨-, rfl, rfl⟩⟩ := hx
    · omega
    · obtain ⟨S, -, -⟩ | ⟨-, rfl, rfl⟩ := hm
      · omega
      · exact ⟨rfl, Rq_no hR hX (by rw [supd_f (by decide), supd_i (by decide), hl]) (wI (lo := 0) (hi := 1) i1 rfl ⟨by omega, by omega⟩) (fun _ _ _ _ _ _ => rfl) (fun f j i z => s11 z)⟩
theorem fin_clean2 {M M1 M2 : SMem} {a r r' : Int} (hI : sI tg M) (hR : Rr M) (hX : sX M) (hl : M 3 0 1 = M 1 0 2) (hx : wClX M a (M 64 a.toNat 5).toNat r M1) (hm : wClM M1 a (M 27 0 a.toNat).toNat r' M2) : r = r' ∧ Rq M M2 := by
  by_cases ha : a.toNat < 12
  · rw [(hR.2.1 a.toNat ha).2.2.2.2.2] at hx
    exact fin_clean hI hR hX hl (wSz hI _) hx hm
  · obtain ⟨i1, ⟨S, -, -⟩ | ⟨-, rfl, rfl⟩⟩ := hx
    · omega
    · obtain ⟨S, -, -⟩ | ⟨-, rfl, rfl⟩ := hm
      · omega
      · exact ⟨rfl, Rq_no hR hX (by rw [supd_f (by decide), supd_i (by decide), hl]) (wI (lo := 0) (hi := 1) i1 rfl ⟨by omega, by omega⟩) (fun _ _ _ _ _ _ => rfl) (fun f j i z => s11 z)⟩
