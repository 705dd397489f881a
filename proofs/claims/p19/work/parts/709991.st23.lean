/-! stories: the relation of both, and what the calls keep of it -/
def Rs (M : SMem) : Prop := Rr M ∧ M 33 0 = M 6 0 ∧ sKx M ∧ sKm (sZ M) (M 6 0) M
def lSZ : List Nat := [58, 59, 60, 61, 62, 63, 64, 91, 92, 93, 94, 95]
def lSR : List Nat := [6, 12, 17, 18, 19, 20, 21, 57, 58, 59, 60, 61, 62, 63, 22, 23, 24, 25, 26, 27, 28, 29, 30, 31, 32, 33, 35, 36, 64, 65, 66, 67, 68, 72, 73, 91, 92, 93, 94, 95]
def lDS : List Nat := [1, 3, 7, 10, 12, 17, 18, 19, 20, 21, 57, 58, 59, 60, 61, 62, 63, 22, 23, 24, 25, 26, 27, 28, 29, 30, 31, 32, 64, 91, 92, 93, 94, 95, 6, 33, 34, 35, 36, 65, 66, 67, 68, 69, 70, 71, 72, 73]
def Rqs (M M2 : SMem) : Prop := sI tg M2 ∧ Rs M2 ∧ sX M2 ∧ M2 3 0 1 = M2 1 0 2 ∧ ∀ f j i, f ∉ lDS → M2 f j i = M f j i
theorem sKm_cg {Z : STZ} {dt : Nat → Int} {M M1 : SMem} (h1 : ∀ i, i ∈ [28, 32, 34] → M1 1 0 i = M 1 0 i) (h5 : M1 35 0 = M 35 0) (h6 : M1 36 0 = M 36 0) (hk : sKm Z dt M) : sKm Z dt M1 := by
  unfold sKm
  rw [h1 28 (by decide), h1 32 (by decide), h1 34 (by decide), h5, h6]
  exact hk
theorem Rs_congr {M M' : SMem} (h : ∀ f, f ∈ lSR → M' f = M f) (h7 : ∀ i, i ∈ [3, 4, 14, 15, 16, 17] → M' 7 0 i = M 7 0 i) (h1 : ∀ i, i ∈ [28, 32, 34] → M' 1 0 i = M 1 0 i) (hr : Rs M) : Rs M' := by
  obtain ⟨r1, r2, r3, r4⟩ := hr
  have eZ : sZ M' = sZ M := sZ_cg (fun f hf => h f (by simp only [lSR, List.mem_cons, List.not_mem_nil, or_false] at hf ⊢; omega))
  refine ⟨Rr_congr (fun f hf => h f (by simp only [lRow, lSR, List.mem_cons, List.not_mem_nil, or_false] at hf ⊢; omega)) r1, by rw [h 33 (by decide), h 6 (by decide)]; exact r2, sKx_cg (fun f hf => h f (by simp only [lSR, List.mem_cons, List.not_mem_nil, or_false] at hf ⊢; omega)) (fun f hf => by rw [h f (by simp only [lSR, List.mem_cons, List.not_mem_nil, or_false] at hf ⊢; omega)]) h7 r3, ?_⟩
  rw [eZ, h 6 (by decide)]
  exact sKm_cg h1 (by rw [h 35 (by decide)]) (by rw [h 36 (by decide)]) r4
theorem sWf_of {M : SMem} (hI : sI tg M) (hR : Rr M) (hX : sX M) : sWf (sZ M) := by
  obtain ⟨-, w1, w2, -⟩ := hR
  refine ⟨fun p ly => ?_, fun n => ?_, fun p ly hp hl => ?_⟩
  · have b5 := wIb (f := 91) (i := ly) (lo := 0) (hi := 5) hI p rfl
    show (M 91 p ly).toNat < 6
    omega
  · exact wIb (f := 60) (i := n) (lo := 0) (hi := 5) hI 0 rfl
  · have hl : ly < (M 64 p 5).toNat := hl
    have b6 := wIb (f := 27) (i := p) (lo := 0) (hi := 6) hI 0 rfl
    have e5 := (w1 p hp).2.2.2.2.2
    have e92 := (w2 p ly hp (by omega)).2.1
    have d := hX.1 (6 * p + ly)
    rw [show (6 * p + ly) % 6 = ly by omega] at d
    have d0 := hX.2.1 p ly
    unfold sD1 at d
    show (ly = 0 ∧ M 92 p ly = 0) ∨ (ly % 2 = 1 ∧ (M 92 p ly = 1 ∨ M 92 p ly = 2)) ∨ (ly % 2 = 0 ∧ 0 < ly ∧ (M 92 p ly = 3 ∨ M 92 p ly = 4))
    rw [e92]
    by_cases z : ly = 0
    · omega
    · have := d0 (by omega) (by omega) (by omega)
      omega
theorem sMz_of {M : SMem} (hI : sI tg M) (hR : Rr M) : sMz (sZ M) M := by
  have hR' := hR
  obtain ⟨g, w1, w2, w3, w4, -⟩ := hR
  have sz : ∀ p, p < 12 → ((M 64 p 5).toNat : Int) = M 27 0 p ∧ (M 64 p 5).toNat ≤ 6 := fun p hp => by
    have b6 := wIb (f := 27) (i := p) (lo := 0) (hi := 6) hI 0 rfl
    have e5 := (w1 p hp).2.2.2.2.2
    omega
  refine ⟨fun p hp => ⟨fun z => ?_, (sz p hp).1.symm, (sz p hp).2⟩, fun p ly hp hl => ?_, fun p ly n hp hl hn => ?_, fun n hn => ?_⟩
  · have y := w4 p hp z
    have x := sz p hp
    show (M 64 p 5).toNat = 0
    omega
  · have hl : ly < (M 64 p 5).toNat := hl
    have x := sz p hp
    obtain ⟨a1, a2, -⟩ := w2 p ly hp (by omega)
    have b5 := wIb (f := 91) (i := ly) (lo := 0) (hi := 5) hI p rfl
    refine ⟨?_, a2.symm⟩
    show M 28 0 (6 * p + ly) = ((M 91 p ly).toNat : Int)
    omega
  · have hl : ly < (M 64 p 5).toNat := hl
    have x := sz p hp
    exact (fit_iff hI hR' hp hn ly (by omega)).symm
  · show M 18 0 n = M 60 0 n
    rw [g.2.2.2.1]
theorem bits_eq {M : SMem} {L : List (Nat → Int)} {p ly : Nat} : stBits M L p ly = wBt (wDc (stSZ (sZ M) L p ly)) 8 := by
  unfold stBits
  refine wBt_cg 8 (fun i hi => wDc_cg ?_)
  constructor
  · rintro ⟨q1, s, q2, q3, q4⟩
    refine ⟨q1, s, q2, q3, fun z => q4 ?_⟩
    have z : ly + 1 < (M 64 p 5).toNat := z
    omega
  · rintro ⟨q1, s, q2, q3, q4⟩
    refine ⟨q1, s, q2, q3, fun z => q4 ?_⟩
    show ly + 1 < (M 64 p 5).toNat
    omega
theorem nam_iffS {M : SMem} {a b : Int} (hI : sI tg M) (hR : Rr M) : (0 ≤ a ∧ a < 12 ∧ M 64 a.toNat 0 ≠ 0 ∧ 0 ≤ b ∧ b < M 64 a.toNat 5 ∧ ¬ (M 92 a.toNat b.toNat = 1 ∨ M 92 a.toNat b.toNat = 2)) ↔ (0 ≤ a ∧ a < 12 ∧ M 22 0 a.toNat ≠ 0 ∧ 0 ≤ b ∧ b < M 27 0 a.toNat ∧ (M 29 0 (6 * a.toNat + b.toNat) = 0 ∨ M 29 0 (6 * a.toNat + b.toNat) = 3 ∨ M 29 0 (6 * a.toNat + b.toNat) = 4)) := by
  obtain ⟨-, r1, r2, -⟩ := hR
  by_cases ha : 0 ≤ a ∧ a < 12 ∧ 0 ≤ b ∧ b < M 27 0 a.toNat
  · have b6 := wIb (f := 27) (i := a.toNat) (lo := 0) (hi := 6) hI 0 rfl
    obtain ⟨c1, -, -, -, -, c6⟩ := r1 a.toNat (by omega)
    have d1 := (r2 a.toNat b.toNat (by omega) (by omega)).2.1
    have b1 := wIb (f := 29) (i := 6 * a.toNat + b.toNat) (lo := 0) (hi := 4) hI 0 rfl
    rw [c1, c6, d1]
    constructor
    · intro z
      omega
    · intro z
      omega
  · by_cases hb : 0 ≤ a ∧ a < 12
    · obtain ⟨c1, -, -, -, -, c6⟩ := r1 a.toNat (by omega)
      rw [c1, c6]
      constructor
      · intro z
        omega
      · intro z
        omega
    · constructor
      · intro z
        omega
      · intro z
        omega
theorem lDWS {f : Nat} (h : f ∉ lDS) : f ∉ lDW := by
  simp only [lDS, lDW, List.mem_cons, List.not_mem_nil, or_false, not_or] at h ⊢
  omega
/-- told, and what was found out is let go -/
theorem Rs_reset {M M2 : SMem} (hR : Rs M) (hq : Rq M M2) (hf : sFl M2) (h28 : M2 1 0 28 = 1) (h34 : M2 1 0 34 = M 1 0 34) : Rqs M M2 := by
  obtain ⟨i2, q2, x2, l2, fr⟩ := hq
  obtain ⟨r1, r2, r3, r4⟩ := hR
  have row : ∀ f, f ∉ lDW → M2 f = M f := fun f hf => by
    funext j i
    exact fr f j i hf
  refine ⟨i2, ⟨q2, by rw [row 33 (by decide), row 6 (by decide)]; exact r2, sKx_fl hf, h34.trans r4.1, fun z => ?_⟩, x2, l2, fun f j i hf => fr f j i (lDWS hf)⟩
  rw [h28] at z
  omega
/-- nothing is told that matters to it -/
theorem Rs_keep {M M2 : SMem} (hR : Rs M) (hq : Rq M M2) (hn : ∀ f, f ∈ lSZ → M2 f = M f) (h7 : ∀ i, M2 7 0 i = M 7 0 i) (h1 : ∀ i, i ∈ [28, 32, 34] → M2 1 0 i = M 1 0 i) : Rqs M M2 := by
  obtain ⟨i2, q2, x2, l2, fr⟩ := hq
  obtain ⟨r1, r2, r3, r4⟩ := hR
  have row : ∀ f, f ∉ lDW → M2 f = M f := fun f hf => by
    funext j i
    exact fr f j i hf
  have eZ : sZ M2 = sZ M := sZ_cg hn
  refine ⟨i2, ⟨q2, by rw [row 33 (by decide), row 6 (by decide)]; exact r2, sKx_cg hn (fun f hf => by rw [row f (fun z => by simp only [lDW, List.mem_cons, List.not_mem_nil, or_false] at hf z; omega)]) (fun i _ => h7 i) r3, ?_⟩, x2, l2, fun f j i hf => fr f j i (lDWS hf)⟩
  rw [eZ, row 6 (by decide)]
  exact sKm_cg h1 (by rw [row 35 (by decide)]) (by rw [row 36 (by decide)]) r4
/-- the class is asked: what the reference finds there -/
theorem Rs_mid {M M1 : SMem} (hI : sI tg M) (hX : sX M) (hR : Rs M) (hk : sKX M1 M) : sI tg M1 ∧ sX M1 ∧ sWf (sZ M) ∧ sMz (sZ M) M1 ∧ M1 33 0 = M 6 0 ∧ sKm (sZ M) (M 6 0) M1 := by
  obtain ⟨r1, r2, r3, r4⟩ := hR
  obtain ⟨i1, k1, e1, fr⟩ := hk
  have row : ∀ f, f ∉ [65, 66, 67, 68, 69, 70, 71, 72, 73] → f ≠ 7 → M1 f = M f := fun f y1 y2 => by
    funext j i
    exact fr f j i y1 y2
  refine ⟨i1, sX_congr (row 29 (by decide) (by decide)) (row 27 (by decide) (by decide)) (row 50 (by decide) (by decide)) hX, sWf_of hI r1 hX, sMz_cg (fun f hf => row f (fun z => ?_) (fun z => ?_)) (sMz_of hI r1), by rw [row 33 (by decide) (by decide)]; exact r2, sKm_cg (fun i _ => fr 1 0 i (by decide) (by decide)) (by rw [row 35 (by decide) (by decide)]) (by rw [row 36 (by decide) (by decide)]) r4⟩
  · simp only [lVF, List.mem_cons, List.not_mem_nil, or_false] at hf z
    omega
  · rw [z] at hf
    revert hf
    decide
/-- both are asked -/
theorem Rs_ask {M M1 M2 : SMem} (hX : sX M) (hl : M 3 0 1 = M 1 0 2) (hR : Rs M) (hk : sKX M1 M) (hm : sRD (sZ M) (M 6 0) M2 M1) : Rqs M M2 := by
  obtain ⟨r1, r2, r3, r4⟩ := hR
  obtain ⟨i1, k1, e1, fr⟩ := hk
  obtain ⟨i2, f2, k2⟩ := hm
  have row2 : ∀ f, f ≠ 34 → f ≠ 35 → f ≠ 36 → f ≠ 1 → M2 f = M1 f := fun f y1 y2 y3 y4 => by
    funext j i
    exact f2 f j i y1 y2 y3 (fun z => y4 z.1)
  have row : ∀ f, f ∉ [1, 7, 34, 35, 36, 65, 66, 67, 68, 69, 70, 71, 72, 73] → M2 f = M f := fun f y => by
    simp only [List.mem_cons, List.not_mem_nil, or_false, not_or] at y
    rw [row2 f (by omega) (by omega) (by omega) (by omega)]
    funext j i
    exact fr f j i (by simp only [List.mem_cons, List.not_mem_nil, or_false, not_or]; omega) (by omega)
  have eZ : sZ M2 = sZ M1 := sZ_cg (fun f hf => row2 f (fun z => by rw [z] at hf; revert hf; decide) (fun z => by rw [z] at hf; revert hf; decide) (fun z => by rw [z] at hf; revert hf; decide) (fun z => by rw [z] at hf; revert hf; decide))
  have e6 : M2 6 = M 6 := row 6 (by decide)
  refine ⟨i2, ⟨Rr_congr (fun f hf => row f (fun z => ?_)) r1, by rw [row 33 (by decide), e6]; exact r2, sKx_cg (fun f hf => row2 f (fun z => ?_) (fun z => ?_) (fun z => ?_) (fun z => ?_)) (fun f hf => by rw [row2 f (fun z => by rw [z] at hf; revert hf; decide) (fun z => by rw [z] at hf; revert hf; decide) (fun z => by rw [z] at hf; revert hf; decide) (fun z => by rw [z] at hf; revert hf; decide)]) (fun i _ => f2 7 0 i (by decide) (by decide) (by decide) (by omega)) k1, by rw [eZ, e1, e6]; exact k2⟩, sX_congr (row 29 (by decide)) (row 27 (by decide)) (row 50 (by decide)) hX, ?_, fun f j i hf => congrFun (congrFun (row f (fun z => ?_)) j) i⟩
  · simp only [lRow, List.mem_cons, List.not_mem_nil, or_false] at hf z
    omega
  · rw [z] at hf
    revert hf
    decide
  · rw [z] at hf
    revert hf
    decide
  · rw [z] at hf
    revert hf
    decide
  · rw [z] at hf
    revert hf
    decide
  · rw [row 3 (by decide), f2 1 0 2 (by decide) (by decide) (by decide) (by decide), fr 1 0 2 (by decide) (by decide), hl]
  · simp only [lDS, List.mem_cons, List.not_mem_nil, or_false, not_or] at hf
    simp only [List.mem_cons, List.not_mem_nil, or_false] at z
    omega
theorem sRD_of {Z : STZ} {dt : Nat → Int} {A M : SMem} (h : sRF Z dt A M) : sRD Z dt A M := ⟨h.1, h.2.1, h.2.2.2⟩
/-- both refuse -/
theorem Rs_no {M : SMem} (hX : sX M) (hl : M 3 0 1 = M 1 0 2) (hI : sI tg M) (hR : Rs M) : Rqs M (supd M 1 0 0 0) :=
  ⟨wI (lo := 0) (hi := 1) hI rfl ⟨by omega, by omega⟩, Rs_congr (fun f hf => supd_ff (fun z => by rw [z] at hf; revert hf; decide)) (fun i _ => supd_f (by decide)) (fun i hi => supd_i (fun z => by rw [z] at hi; revert hi; decide)) hR, sX_congr (supd_ff (by decide)) (supd_ff (by decide)) (supd_ff (by decide)) hX, by rw [supd_f (by decide), supd_i (by decide), hl], fun f j i hf => supd_f (fun z => hf (by rw [z]; decide))⟩
/-- a reign is dated, for both -/
theorem fin_dated {M M1 M2 : SMem} {a x : Int} {r1 r2 : List Int} (hI : sI tg M) (hX : sX M) (hl : M 3 0 1 = M 1 0 2) (hR : Rs M) (hx : (((0 ≤ a ∧ a < 6) ∧ -1 ≤ x ∧ x < 6) ∧ r1 = [1] ∧ M1 = supd (supd (supd (supd M 6 0 a.toNat x) 7 0 15 0) 7 0 16 0) 7 0 17 (-1)) ∨ (¬ ((0 ≤ a ∧ a < 6) ∧ -1 ≤ x ∧ x < 6) ∧ r1 = [0] ∧ M1 = M)) (hm : (((0 ≤ a ∧ a < 6) ∧ -1 ≤ x ∧ x < 6) ∧ r2 = [1] ∧ M2 = supd (supd (supd M1 1 0 0 0) 33 0 a.toNat x) 1 0 28 1) ∨ (¬ ((0 ≤ a ∧ a < 6) ∧ -1 ≤ x ∧ x < 6) ∧ r2 = [0] ∧ M2 = supd M1 1 0 0 0)) : r1 = r2 ∧ Rqs M M2 := by
  rcases hx with ⟨hs, rfl, rfl⟩ | ⟨hs, rfl, rfl⟩
  · rcases hm with ⟨-, rfl, rfl⟩ | ⟨hn, -, -⟩
    · obtain ⟨r1, r2, r3, r4⟩ := hR
      refine ⟨rfl, ?_⟩
      have i2 : sI tg (supd (supd (supd (supd (supd (supd (supd M 6 0 a.toNat x) 7 0 15 0) 7 0 16 0) 7 0 17 (-1)) 1 0 0 0) 33 0 a.toNat x) 1 0 28 1) := wI (lo := 0) (hi := 1) (wI (lo := -1) (hi := 5) (wI (lo := 0) (hi := 1) (wI (lo := -1) (hi := 2147483646) (wI (lo := 0) (hi := 1) (wI (lo := 0) (hi := 1) (wI (lo := -1) (hi := 5) hI rfl ⟨by omega, by omega⟩) rfl ⟨by omega, by omega⟩) rfl ⟨by omega, by omega⟩) rfl ⟨by omega, by omega⟩) rfl ⟨by omega, by omega⟩) rfl ⟨by omega, by omega⟩) rfl ⟨by omega, by omega⟩
      have row : ∀ f, f ≠ 6 → f ≠ 7 → f ≠ 1 → f ≠ 33 → (supd (supd (supd (supd (supd (supd (supd M 6 0 a.toNat x) 7 0 15 0) 7 0 16 0) 7 0 17 (-1)) 1 0 0 0) 33 0 a.toNat x) 1 0 28 1) f = M f := fun f y1 y2 y3 y4 => by
        rw [supd_ff y3, supd_ff y4, supd_ff y3, supd_ff y2, supd_ff y2, supd_ff y2, supd_ff y1]
      have e33 : (supd (supd (supd (supd (supd (supd (supd M 6 0 a.toNat x) 7 0 15 0) 7 0 16 0) 7 0 17 (-1)) 1 0 0 0) 33 0 a.toNat x) 1 0 28 1) 33 0 = (supd (supd (supd (supd (supd (supd (supd M 6 0 a.toNat x) 7 0 15 0) 7 0 16 0) 7 0 17 (-1)) 1 0 0 0) 33 0 a.toNat x) 1 0 28 1) 6 0 := by
        rw [supd_ff (by decide), supd_row, supd_ff (by decide), supd_ff (by decide), supd_ff (by decide), supd_ff (by decide), supd_ff (by decide), r2, supd_ff (by decide), supd_ff (by decide), supd_ff (by decide), supd_ff (by decide), supd_ff (by decide), supd_ff (by decide), supd_row]
      have e28 : (supd (supd (supd (supd (supd (supd (supd M 6 0 a.toNat x) 7 0 15 0) 7 0 16 0) 7 0 17 (-1)) 1 0 0 0) 33 0 a.toNat x) 1 0 28 1) 1 0 28 = 1 := supd_at _ _ _ _ _
      have e34 : (supd (supd (supd (supd (supd (supd (supd M 6 0 a.toNat x) 7 0 15 0) 7 0 16 0) 7 0 17 (-1)) 1 0 0 0) 33 0 a.toNat x) 1 0 28 1) 1 0 34 = M 1 0 34 := by
        rw [supd_i (by decide), supd_f (by decide), supd_i (by decide), supd_f (by decide), supd_f (by decide), supd_f (by decide), supd_f (by decide)]
      have e2 : (supd (supd (supd (supd (supd (supd (supd M 6 0 a.toNat x) 7 0 15 0) 7 0 16 0) 7 0 17 (-1)) 1 0 0 0) 33 0 a.toNat x) 1 0 28 1) 1 0 2 = M 1 0 2 := by
        rw [supd_i (by decide), supd_f (by decide), supd_i (by decide), supd_f (by decide), supd_f (by decide), supd_f (by decide), supd_f (by decide)]
      have e7 : sFl (supd (supd (supd (supd (supd (supd (supd M 6 0 a.toNat x) 7 0 15 0) 7 0 16 0) 7 0 17 (-1)) 1 0 0 0) 33 0 a.toNat x) 1 0 28 1) := sFl_cg (fun i => by rw [supd_f (by decide), supd_f (by decide), supd_f (by decide)]) sFl_x
      generalize (supd (supd (supd (supd (supd (supd (supd M 6 0 a.toNat x) 7 0 15 0) 7 0 16 0) 7 0 17 (-1)) 1 0 0 0) 33 0 a.toNat x) 1 0 28 1) = N at i2 row e33 e28 e34 e2 e7 ⊢
      refine ⟨i2, ⟨Rr_congr (fun f hf => row f ?_ ?_ ?_ ?_) r1, e33, sKx_fl e7, e34.trans r4.1, fun z => ?_⟩, sX_congr (row 29 (by decide) (by decide) (by decide) (by decide)) (row 27 (by decide) (by decide) (by decide) (by decide)) (row 50 (by decide) (by decide) (by decide) (by decide)) hX, by rw [e2, row 3 (by decide) (by decide) (by decide) (by decide), hl], fun f j i hf => congrFun (congrFun (row f ?_ ?_ ?_ ?_) j) i⟩
      · intro z; rw [z] at hf; revert hf; decide
      · intro z; rw [z] at hf; revert hf; decide
      · intro z; rw [z] at hf; revert hf; decide
      · intro z; rw [z] at hf; revert hf; decide
      · rw [e28] at z
        omega
      · intro z; rw [z] at hf; exact hf (by decide)
      · intro z; rw [z] at hf; exact hf (by decide)
      · intro z; rw [z] at hf; exact hf (by decide)
      · intro z; rw [z] at hf; exact hf (by decide)
    · exact absurd hs hn
  · rcases hm with ⟨hn, -, -⟩ | ⟨-, rfl, rfl⟩
    · exact absurd hn hs
    · exact ⟨rfl, Rs_no hX hl hI hR⟩
