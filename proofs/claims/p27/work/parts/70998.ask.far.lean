/-! far: both alike -/
theorem er_iff {M : SMem} {hd nm : Int} {p : Nat} (hI : sI tg M) (hR : Rr M) (hp9 : p < 12) : wEr M hd nm p ↔ vEr M hd nm p := by
  obtain ⟨w1, w2, w3, w4, w5, w6⟩ := hR.2
  obtain ⟨c1, c2, c3, c4, c5, c6⟩ := w1 p hp9
  have b6 := wIb (f := 27) (i := p) (lo := 0) (hi := 6) hI 0 rfl
  have key : ∀ i : Nat, 1 ≤ i → (i : Int) < M 27 0 p → (((M 92 p i = 1 ∨ M 92 p i = 2) ∧ M 91 p i = hd ∧ M 93 p (i - 1) = nm) ↔ (¬ (M 29 0 (6 * p + i) = 0 ∨ M 29 0 (6 * p + i) = 3 ∨ M 29 0 (6 * p + i) = 4) ∧ M 28 0 (6 * p + i) = hd ∧ M 30 0 (6 * p + i - 1) = nm)) := by
    intro i z1 z2
    obtain ⟨d1, d2, -, -⟩ := w2 p i hp9 (by omega)
    have d3 := (w2 p (i - 1) hp9 (by omega)).2.2.1
    rw [show 6 * p + (i - 1) = 6 * p + i - 1 by omega] at d3
    have b1 := wIb (f := 29) (i := 6 * p + i) (lo := 0) (hi := 4) hI 0 rfl
    rw [d1, d2, d3]
    constructor <;> intro h <;> omega
  unfold wEr vEr
  rw [c6]
  constructor
  · rintro ⟨i, z1, z2, z3⟩
    exact ⟨fun z => by have := w4 p hp9 z; omega, i, z1, z2, (key i z1 z2).mp z3⟩
  · rintro ⟨-, i, z1, z2, z3⟩
    exact ⟨i, z1, z2, (key i z1 z2).mpr z3⟩
theorem be_iff {M : SMem} {nm : Int} {p : Nat} (hI : sI tg M) (hR : Rr M) (hX : sX M) (hp9 : p < 12) (hn : 0 ≤ nm) : wBe M nm p ↔ vBe M nm p := by
  obtain ⟨w1, w2, w3, w4, w5, w6⟩ := hR.2
  obtain ⟨c1, c2, c3, c4, c5, c6⟩ := w1 p hp9
  have b6 := wIb (f := 27) (i := p) (lo := 0) (hi := 6) hI 0 rfl
  unfold wBe vBe
  rw [c6]
  obtain ⟨sz, hsz⟩ : ∃ sz : Nat, M 27 0 p = (sz : Int) := ⟨(M 27 0 p).toNat, by omega⟩
  by_cases h0 : sz = 0
  · rw [hsz, h0]
    constructor <;> intro h <;> omega
  · have e1 : (M 27 0 p).toNat = sz := by omega
    rw [e1]
    obtain ⟨-, d2, d3, -⟩ := w2 p (sz - 1) hp9 (by omega)
    rw [show 6 * p + (sz - 1) = 6 * p + sz - 1 by omega] at d2 d3
    rw [d2, d3]
    constructor
    · rintro ⟨z1, z2, z3⟩
      exact ⟨fun z => by have := w4 p hp9 z; omega, z1, z3⟩
    · rintro ⟨-, z1, z3⟩
      refine ⟨z1, fun z => ?_, z3⟩
      have x := hX.1 (6 * p + sz - 1)
      rw [show (6 * p + sz - 1) % 6 = sz - 1 by omega] at x
      unfold sD1 at x
      have y := w5 p (sz - 1) hp9 (by omega) (by omega) (by omega)
      rw [show 6 * p + (sz - 1) = 6 * p + sz - 1 by omega] at y
      omega
theorem fin_far {M : SMem} {hd nm w r r' : Int} (hI : sI tg M) (hR : Rr M) (hX : sX M) (hx : ((¬ ((0 ≤ hd ∧ hd < 6) ∧ (0 ≤ nm ∧ nm < 8 ∧ M 58 0 nm.toNat ≠ 0) ∧ (0 ≤ w ∧ w ≤ 3)) ∧ r = -1) ∨ (((0 ≤ hd ∧ hd < 6) ∧ (0 ≤ nm ∧ nm < 8 ∧ M 58 0 nm.toNat ≠ 0) ∧ (0 ≤ w ∧ w ≤ 3)) ∧ ((w = 0 ∧ r = wHi (wDc (wEr M hd nm)) (fun k => M 64 k 2) 12) ∨ (w = 1 ∧ r = wLo (wDc (wBe M nm)) (fun k => M 64 k 2) 12) ∨ (w = 2 ∧ r = wSo (wDc (wEr M hd nm)) (fun k => M 64 k 3) 12) ∨ (w = 3 ∧ r = wSo (wDc (wBe M nm)) (fun k => M 64 k 3) 12))))) (hm : ((¬ ((0 ≤ hd ∧ hd ≤ 5) ∧ (0 ≤ nm ∧ nm < 8 ∧ M 17 0 nm.toNat ≠ 0) ∧ (0 ≤ w ∧ w ≤ 3)) ∧ r' = -1) ∨ (((0 ≤ hd ∧ hd ≤ 5) ∧ (0 ≤ nm ∧ nm < 8 ∧ M 17 0 nm.toNat ≠ 0) ∧ (0 ≤ w ∧ w ≤ 3)) ∧ ((w = 0 ∧ r' = wHi (wDc (vEr M hd nm)) (M 24 0) 12) ∨ (w = 1 ∧ r' = wLo (wDc (vBe M nm)) (M 24 0) 12) ∨ (w = 2 ∧ r' = wSo (wDc (vEr M hd nm)) (M 25 0) 12) ∨ (w = 3 ∧ r' = wSo (wDc (vBe M nm)) (M 25 0) 12))))) : r = r' := by
  have e58 : M 58 0 nm.toNat = M 17 0 nm.toNat := by rw [hR.1.2.1]
  rw [e58] at hx
  by_cases hn : 0 ≤ nm
  · have e1 : wHi (wDc (wEr M hd nm)) (fun k => M 64 k 2) 12 = wHi (wDc (vEr M hd nm)) (M 24 0) 12 := wHi_cg 12 (fun i hi => ⟨wDc_cg (er_iff hI hR hi), (hR.2.1 i hi).2.2.1⟩)
    have e2 : wLo (wDc (wBe M nm)) (fun k => M 64 k 2) 12 = wLo (wDc (vBe M nm)) (M 24 0) 12 := wLo_cg 12 (fun i hi => ⟨wDc_cg (be_iff hI hR hX hi hn), (hR.2.1 i hi).2.2.1⟩)
    have e3 : wSo (wDc (wEr M hd nm)) (fun k => M 64 k 3) 12 = wSo (wDc (vEr M hd nm)) (M 25 0) 12 := wSo_cg 12 (fun i hi => ⟨wDc_cg (er_iff hI hR hi), (hR.2.1 i hi).2.2.2.1⟩)
    have e4 : wSo (wDc (wBe M nm)) (fun k => M 64 k 3) 12 = wSo (wDc (vBe M nm)) (M 25 0) 12 := wSo_cg 12 (fun i hi => ⟨wDc_cg (be_iff hI hR hX hi hn), (hR.2.1 i hi).2.2.2.1⟩)
    rw [e1, e2, e3, e4] at hx
    omega
  · omega
