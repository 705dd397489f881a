/-! stories: the class is asked of two hands, of names that stood, of doubt -/
theorem sRul_st {fl ce st r : Nat → Int} {a b : Nat} {y : Int} (ha : a < 6) (hb : b < 6) : sRul fl ce (wSt st (6 * a + b) (cfn 11 (st (6 * a + b)) y)) r ↔ (sRul fl ce st r ∧ (0 ≤ y → r a + y ≤ r b)) := by
  have m := @cfn11 (st (6 * a + b)) y
  constructor
  · rintro ⟨h1, h2⟩
    have w := h2 a b ha hb
    rw [wSt_at] at w
    refine ⟨⟨h1, fun x z hx hz hs => ?_⟩, fun hy => ?_⟩
    · by_cases e : x = a ∧ z = b
      · obtain ⟨rfl, rfl⟩ := e
        have := w (by omega)
        omega
      · have := h2 x z hx hz
        rw [wSt_ne (by omega)] at this
        exact this hs
    · have := w (by omega)
      omega
  · rintro ⟨⟨h1, h2⟩, h3⟩
    refine ⟨h1, fun x z hx hz hs => ?_⟩
    by_cases e : x = a ∧ z = b
    · obtain ⟨rfl, rfl⟩ := e
      rw [wSt_at] at hs ⊢
      have := h2 x z hx hz
      omega
    · rw [wSt_ne (by omega)] at hs ⊢
      exact h2 x z hx hz hs
theorem sRul_fl {fl ce st r : Nat → Int} {a : Nat} {y : Int} (ha : a < 6) : sRul (wSt fl a (cfn 11 (fl a) y)) ce st r ↔ (sRul fl ce st r ∧ y ≤ r a) := by
  have m := @cfn11 (fl a) y
  constructor
  · rintro ⟨h1, h2⟩
    have w := h1 a ha
    rw [wSt_at] at w
    refine ⟨⟨fun x hx => ?_, h2⟩, by omega⟩
    have := h1 x hx
    by_cases e : x = a
    · subst e
      omega
    · rw [wSt_ne e] at this
      exact this
  · rintro ⟨⟨h1, h2⟩, h3⟩
    refine ⟨fun x hx => ?_, h2⟩
    have := h1 x hx
    by_cases e : x = a
    · subst e
      rw [wSt_at]
      omega
    · rw [wSt_ne e]
      exact this
/-- bits 1, 2, 4 -/
def r3 (b0 b1 b2 : Bool) : Int := cond b2 (cfn 1 (cond b1 (cfn 1 (cond b0 (cfn 1 0 1) 0) 2) (cond b0 (cfn 1 0 1) 0)) 4) (cond b1 (cfn 1 (cond b0 (cfn 1 0 1) 0) 2) (cond b0 (cfn 1 0 1) 0))
noncomputable def stR3 (L : List (Nat → Int)) (a b : Nat) : Int := r3 (wDc (stRl L a b) 0) (wDc (stRl L a b) 1) (wDc (stRl L a b) 2)
/-- may have stood -/
def stSt (M : SMem) (L : List (Nat → Int)) (p ly : Nat) (x : Int) : Prop := ∃ s, s ∈ L ∧ (M 92 p ly ≠ 4 → x ≤ s (M 91 p ly).toNat) ∧ ((ly : Int) + 1 < M 64 p 5 → x + 1 ≤ s (M 91 p (ly + 1)).toNat)
section CS15
variable {EX : SEx} {l : Launch} {dC : Nat → ClassId} {dI : Nat → Nat → Nat} {cA : Nat → ClassId} {ad : SAd} {scrS d : Nat}
set_option maxHeartbeats 4000000 in
theorem b_possWith (hp : cPl tm tc tf EX) {a b : Nat} {th he : Int} {M : SMem} (hI : sI tg M) (hZ : sWf (sZ M)) (hK : sKx M) (h15 : M 7 0 15 ≠ 0) (ha : a < 6) (hb : b < 6) (ba : sBz (sZ M) a) (bb : sBz (sZ M) b) (hth : -1 ≤ th ∧ th ≤ 1) (hhe : -1 ≤ he ∧ he ≤ 1) : cBG tm tf EX l dC dI cA ad scrS (d + 3) kX6_isPossibleWith [(2, 7, 0), (0, 0, (a : Int)), (0, 0, (b : Int)), (0, 0, th), (0, 0, he)] M (fun rr MM => sKX MM M ∧ MM 7 0 15 = M 7 0 15 ∧ ((rr = [1] ∧ (∃ s, s ∈ (stS (sZ M) (M 6 0)) ∧ (0 ≤ th → s a + th ≤ s b) ∧ (0 ≤ he → s b + he ≤ s a))) ∨ (rr = [0] ∧ ¬ (∃ s, s ∈ (stS (sZ M) (M 6 0)) ∧ (0 ≤ th → s a + th ≤ s b) ∧ (0 ≤ he → s b + he ≤ s a))))) := by
  refine cMeth (v := [(a : Int), (b : Int), th, he]) (Fd := 90) hp (by decide) gX6_isPossibleWith_ok gX6_isPossibleWith_m0 (by simp [cAs, cE2, sev, svl, cen]) ?_
  obtain ⟨okl, ok7, bu, ob, og⟩ := hK.1 h15
  have hdt := hdt_I hI
  have q1 := wIb (f := 67) (i := 6 * a + b) (lo := -1) (hi := 1) hI 0 rfl
  have q2 := wIb (f := 67) (i := a + 6 * b) (lo := -1) (hi := 1) hI 0 rfl
  refine cEnds_at gX6_isPossibleWith_m0 rfl ?_
  refine d_rng (by simp only [clo, chi, cE2, sev, svl, cen, List.cons_append, List.nil_append]; omega) ?_
  refine d_rng (by simp only [clo, chi, cE2, sev, svl, cen, List.cons_append, List.nil_append]; omega) ?_
  refine d_row 0 (6 * a + b) (by simp only [cE2, sev, svl, cen, List.cons_append, List.nil_append]; omega) (by simp only [cE2, sev, svl, cen, List.cons_append, List.nil_append]; omega) (by omega) ?_
  refine d_rng (by simp only [clo, chi, cE2, sev, svl, cen, List.cons_append, List.nil_append]; omega) ?_
  refine d_rng (by simp only [clo, chi, cE2, sev, svl, cen, List.cons_append, List.nil_append]; omega) ?_
  refine d_row 0 (a + 6 * b) (by simp only [cE2, sev, svl, cen, List.cons_append, List.nil_append]; omega) (by simp only [cE2, sev, svl, cen, List.cons_append, List.nil_append]; omega) (by omega) ?_
  refine d_call (b_addStep hp (a := a) (b := b) (x := th) ha hb) (by simp [cAs, cE2, sev, svl, cen]) ?_
  rintro rr M1 ⟨rfl, e1⟩
  refine ⟨rfl, ?_⟩
  refine d_call (b_addStep hp (a := b) (b := a) (x := he) hb ha) (by simp [cAs, cE2, sev, svl, cen]) ?_
  rintro rr M2 ⟨rfl, e2⟩
  refine ⟨rfl, ?_⟩
  have m1 := @cfn11 (M 67 0 (6 * a + b)) th
  have i1 : sI tg M1 := by rw [e1]; exact wI (lo := -1) (hi := 1) hI rfl (by omega)
  have q3 := wIb (f := 67) (i := 6 * b + a) (lo := -1) (hi := 1) i1 0 rfl
  have m2 := @cfn11 (M1 67 0 (6 * b + a)) he
  have i2 : sI tg M2 := by rw [e2]; exact wI (lo := -1) (hi := 1) i1 rfl (by omega)
  have f2 : ∀ f, f ≠ 67 → M2 f = M f := fun f y => by rw [e2, supd_ff y, e1, supd_ff y]
  have r1 : M1 67 0 = wSt (M 67 0) (6 * a + b) (cfn 11 (M 67 0 (6 * a + b)) th) := by rw [e1, supd_row]
  have r2 : M2 67 0 = wSt (M1 67 0) (6 * b + a) (cfn 11 (M1 67 0 (6 * b + a)) he) := by rw [e2, supd_row]
  have rul : ∀ r, sRul (M2 65 0) (M2 66 0) (M2 67 0) r ↔ (sRul (M 65 0) (M 66 0) (M 67 0) r ∧ (0 ≤ th → r a + th ≤ r b) ∧ (0 ≤ he → r b + he ≤ r a)) := fun r => by
    rw [f2 65 (by decide), f2 66 (by decide), r2, sRul_st hb ha, r1, sRul_st ha hb, and_assoc]
  have ex := stS_ex hZ hdt okl (hls_I hI) og (Q := fun s => (0 ≤ th → s a + th ≤ s b) ∧ (0 ≤ he → s b + he ≤ s a)) (fun r s h q => by rw [← h a ha ba, ← h b hb bb]; exact q)
  refine d_call (b_isPossible (d := d) hp i2 (fun h hh => by rw [f2 65 (by decide)]; have := ok7 h hh; omega)) (by simp [cAs, cE2, sev, svl, cen]) ?_
  rintro rr M3 ⟨i3, f3, hr⟩
  rw [f2 7 (by decide)] at hr
  have fin : ∀ N : SMem, N = supd (supd M3 67 0 (a + 6 * b) (M 67 0 (a + 6 * b))) 67 0 (6 * a + b) (M 67 0 (6 * a + b)) → sKX N M ∧ N 7 0 15 = M 7 0 15 := by
    intro N hN
    have fN : ∀ f j i, f ≠ 70 → N f j i = M f j i := fun f j i y => by
      rw [hN]
      by_cases e : f = 67
      · subst e
        by_cases e3 : j = 0
        · subst e3
          by_cases e4 : i = 6 * a + b
          · rw [e4, supd_at]
          · rw [supd_i e4]
            by_cases e5 : i = a + 6 * b
            · rw [e5, supd_at]
            · rw [supd_i e5, f3 67 0 i (by decide), r2, wSt_ne (by omega), r1, wSt_ne e4]
        · rw [show supd (supd M3 67 0 (a + 6 * b) (M 67 0 (a + 6 * b))) 67 0 (6 * a + b) (M 67 0 (6 * a + b)) 67 j i = supd M3 67 0 (a + 6 * b) (M 67 0 (a + 6 * b)) 67 j i from if_neg (fun q => e3 q.2.1), show supd M3 67 0 (a + 6 * b) (M 67 0 (a + 6 * b)) 67 j i = M3 67 j i from if_neg (fun q => e3 q.2.1), f3 67 j i (by decide), e2, show supd M1 67 0 (6 * b + a) (cfn 11 (M1 67 0 (6 * b + a)) he) 67 j i = M1 67 j i from if_neg (fun q => e3 q.2.1), e1]
          exact if_neg (fun q => e3 q.2.1)
      · rw [supd_f e, supd_f e, f3 f j i y, f2 f e]
    have iN : sI tg N := by rw [hN]; exact wI (lo := -1) (hi := 1) (wI (lo := -1) (hi := 1) i3 rfl q2) rfl q1
    have row : ∀ f, f ≠ 70 → N f = M f := fun f y => by
      funext j i
      exact fN f j i y
    refine ⟨⟨iN, sKx_cg (fun f hf => row f (fun z => by rw [z] at hf; revert hf; decide)) (fun f hf => by rw [row f (fun z => by rw [z] at hf; revert hf; decide)]) (fun i _ => fN 7 0 i (by decide)) hK, sZ_cg (fun f hf => row f (fun z => by rw [z] at hf; revert hf; decide)), fun f j i y1 _ => fN f j i (fun z => y1 (by rw [z]; decide))⟩, fN 7 0 15 (by decide)⟩
  rcases hr with ⟨rfl, hb0, hE1, hE2⟩ | ⟨rfl, hno⟩
  · refine ⟨rfl, ?_⟩
    refine d_rng (by simp only [clo, chi, cE2, sev, svl, cen, List.cons_append, List.nil_append]; omega) ?_
    refine d_rng (by simp only [clo, chi, cE2, sev, svl, cen, List.cons_append, List.nil_append]; omega) ?_
    refine d_set 0 (a + 6 * b) (M 67 0 (a + 6 * b)) (by simp only [cE2, sev, svl, cen, List.cons_append, List.nil_append]; omega) (by simp only [cE2, sev, svl, cen, List.cons_append, List.nil_append]; omega) (by omega) (by simp only [cE2, sev, svl, cen, List.cons_append, List.nil_append]; omega) ?_
    refine d_rng (by simp only [clo, chi, cE2, sev, svl, cen, List.cons_append, List.nil_append]; omega) ?_
    refine d_rng (by simp only [clo, chi, cE2, sev, svl, cen, List.cons_append, List.nil_append]; omega) ?_
    refine d_set 0 (6 * a + b) (M 67 0 (6 * a + b)) (by simp only [cE2, sev, svl, cen, List.cons_append, List.nil_append]; omega) (by simp only [cE2, sev, svl, cen, List.cons_append, List.nil_append]; omega) (by omega) (by simp only [cE2, sev, svl, cen, List.cons_append, List.nil_append]; omega) ?_
    obtain ⟨k1, k2⟩ := fin _ rfl
    refine d_ret [1] rfl (by decide) ⟨k1, k2, Or.inl ⟨rfl, ex.mp ⟨fun q => q hb0, M3 70 0, ?_⟩⟩⟩
    exact (rul _).mp hE1
  · refine ⟨rfl, ?_⟩
    refine d_rng (by simp only [clo, chi, cE2, sev, svl, cen, List.cons_append, List.nil_append]; omega) ?_
    refine d_rng (by simp only [clo, chi, cE2, sev, svl, cen, List.cons_append, List.nil_append]; omega) ?_
    refine d_set 0 (a + 6 * b) (M 67 0 (a + 6 * b)) (by simp only [cE2, sev, svl, cen, List.cons_append, List.nil_append]; omega) (by simp only [cE2, sev, svl, cen, List.cons_append, List.nil_append]; omega) (by omega) (by simp only [cE2, sev, svl, cen, List.cons_append, List.nil_append]; omega) ?_
    refine d_rng (by simp only [clo, chi, cE2, sev, svl, cen, List.cons_append, List.nil_append]; omega) ?_
    refine d_rng (by simp only [clo, chi, cE2, sev, svl, cen, List.cons_append, List.nil_append]; omega) ?_
    refine d_set 0 (6 * a + b) (M 67 0 (6 * a + b)) (by simp only [cE2, sev, svl, cen, List.cons_append, List.nil_append]; omega) (by simp only [cE2, sev, svl, cen, List.cons_append, List.nil_append]; omega) (by omega) (by simp only [cE2, sev, svl, cen, List.cons_append, List.nil_append]; omega) ?_
    obtain ⟨k1, k2⟩ := fin _ rfl
    refine d_ret [0] rfl (by decide) ⟨k1, k2, Or.inr ⟨rfl, fun z => ?_⟩⟩
    obtain ⟨w1, r, w2, w3⟩ := ex.mpr z
    rcases hno with y | y
    · exact w1 y
    · exact y r ((rul r).mpr ⟨w2, w3⟩)
theorem stRl_0 {L : List (Nat → Int)} {a b : Nat} : (∃ s, s ∈ L ∧ (0 ≤ (1 : Int) → s a + 1 ≤ s b) ∧ (0 ≤ (-1 : Int) → s b + -1 ≤ s a)) ↔ stRl L a b 0 := ⟨fun ⟨s, h1, h2, _⟩ => ⟨s, h1, h2 (by decide)⟩, fun ⟨s, h1, h2⟩ => ⟨s, h1, fun _ => h2, fun z => absurd z (by decide)⟩⟩
theorem stRl_1 {L : List (Nat → Int)} {a b : Nat} : (∃ s, s ∈ L ∧ (0 ≤ (0 : Int) → s a + 0 ≤ s b) ∧ (0 ≤ (0 : Int) → s b + 0 ≤ s a)) ↔ stRl L a b 1 := ⟨fun ⟨s, h1, h2, h3⟩ => ⟨s, h1, by have := h2 (by decide); have := h3 (by decide); omega⟩, fun ⟨s, h1, h2⟩ => ⟨s, h1, fun _ => by omega, fun _ => by omega⟩⟩
theorem stRl_2 {L : List (Nat → Int)} {a b : Nat} : (∃ s, s ∈ L ∧ (0 ≤ (-1 : Int) → s a + -1 ≤ s b) ∧ (0 ≤ (1 : Int) → s b + 1 ≤ s a)) ↔ stRl L a b 2 := ⟨fun ⟨s, h1, _, h3⟩ => ⟨s, h1, h3 (by decide)⟩, fun ⟨s, h1, h2⟩ => ⟨s, h1, fun z => absurd z (by decide), fun _ => h2⟩⟩
theorem r3_rng : ∀ b0 b1 b2 : Bool, 0 ≤ r3 b0 b1 b2 ∧ r3 b0 b1 b2 ≤ 7 := by decide +kernel
set_option maxHeartbeats 4000000 in
theorem b_relations (hp : cPl tm tc tf EX) {a b : Nat} {M : SMem} (hI : sI tg M) (hZ : sWf (sZ M)) (hK : sKx M) (ha : a < 6) (hb : b < 6) (ba : sBz (sZ M) a) (bb : sBz (sZ M) b) : cBG tm tf EX l dC dI cA ad scrS (d + 6) kX6_relations [(2, 7, 0), (0, 0, (a : Int)), (0, 0, (b : Int))] M (fun rr MM => sKX MM M ∧ rr = [stR3 (stS (sZ M) (M 6 0)) a b]) := by
  refine cMeth (v := [(a : Int), (b : Int)]) (Fd := 90) hp (by decide) gX6_relations_ok gX6_relations_m0 (by simp [cAs, cE2, sev, svl, cen]) ?_
  suffices H : ∀ Po : List Int → SMem → Prop, (∀ rr MM, (sKX MM M ∧ rr = [stR3 (stS (sZ M) (M 6 0)) a b]) → Po rr MM) → cEnds (cBG tm tf EX l dC dI cA ad scrS (d + 5)) Po 90 gX6_relations 0 [(a : Int), (b : Int)] M from H _ (fun _ _ h => h)
  intro Po hPo
  refine cEnds_at gX6_relations_m0 rfl ?_
  refine d_call (b_gatherAll2 (d := d) hp hI hZ hK) (by simp [cAs, cE2, sev, svl, cen]) ?_
  rintro rr M1 ⟨rfl, i1, f1, g1, ok1, k1, eZ1⟩
  refine ⟨rfl, ?_⟩
  have x1 : sKX M1 M := ⟨i1, k1, eZ1, fun f j i y1 y2 => f1 f j i (fun z => y1 (by simp only [List.mem_cons, List.not_mem_nil, or_false] at z ⊢; omega)) (fun z => y2 z.1)⟩
  have eL1 : (stS (sZ M1) (M1 6 0)) = (stS (sZ M) (M 6 0)) := by rw [eZ1, sKX_6 x1]
  have P : ∀ (N : SMem) (th he : Int), sKX N M → N 7 0 15 ≠ 0 → (-1 ≤ th ∧ th ≤ 1) → (-1 ≤ he ∧ he ≤ 1) → cBG tm tf EX l dC dI cA ad scrS (d + 5) kX6_isPossibleWith [(2, 7, 0), (0, 0, (a : Int)), (0, 0, (b : Int)), (0, 0, th), (0, 0, he)] N (fun rr MM => (sKX MM M ∧ MM 7 0 15 ≠ 0) ∧ ((rr = [1] ∧ (∃ s, s ∈ (stS (sZ M) (M 6 0)) ∧ (0 ≤ th → s a + th ≤ s b) ∧ (0 ≤ he → s b + he ≤ s a))) ∨ (rr = [0] ∧ ¬ (∃ s, s ∈ (stS (sZ M) (M 6 0)) ∧ (0 ≤ th → s a + th ≤ s b) ∧ (0 ≤ he → s b + he ≤ s a))))) := fun N th he hx h15 h1 h2 => by
    have eZ : sZ N = sZ M := hx.2.2.1
    have e6 := sKX_6 hx
    refine cBG_post (b_possWith (d := d + 2) hp (th := th) (he := he) hx.1 (by rw [eZ]; exact hZ) hx.2.1 h15 ha hb (by rw [eZ]; exact ba) (by rw [eZ]; exact bb) h1 h2) (fun rr MM q => ?_)
    rw [eZ, e6] at q
    exact ⟨⟨sKX_tr q.1 hx, by rw [q.2.1]; exact h15⟩, q.2.2⟩
  generalize hL : stS (sZ M) (M 6 0) = L at P hPo
  refine d_call (P M1 1 (-1) x1 (by omega) (by omega) (by omega)) (by simp [cAs, cE2, sev, svl, cen]) ?_
  rintro rr M2 ⟨⟨x2, h2⟩, hq⟩
  rw [stRl_0] at hq
  have hr : ∀ b0 b1 b2 : Bool, stR3 L a b = r3 b0 b1 b2 → ∀ (v : Int) (MM : SMem), sKX MM M → v = r3 b0 b1 b2 → Po [v] MM := fun b0 b1 b2 e v MM hx hv => hPo _ _ ⟨hx, by rw [e, hv]⟩
  rcases hq with ⟨rfl, p0⟩ | ⟨rfl, p0⟩
  · refine ⟨rfl, ?_⟩
    refine d_br (fun h => ?_) (fun h => ?_)
    · simp only [cCmp, cE2, sev, svl, cen, List.cons_append, List.nil_append] at h
      omega
    · clear h
      refine d_opw 0 1 (by simp [cE2, sev, svl, cen]) (by simp [cE2, sev, svl, cen]) ?_
      refine d_call (P M2 0 0 x2 h2 (by omega) (by omega)) (by simp [cAs, cE2, sev, svl, cen]) ?_
      rintro rr M3 ⟨⟨x3, h3⟩, hq⟩
      rw [stRl_1] at hq
      rcases hq with ⟨rfl, p1⟩ | ⟨rfl, p1⟩
      · refine ⟨rfl, ?_⟩
        refine d_br (fun h => ?_) (fun h => ?_)
        · simp only [cCmp, cE2, sev, svl, cen, List.cons_append, List.nil_append] at h
          omega
        · clear h
          refine d_opw (cfn 1 0 1) 2 (by simp [cE2, sev, svl, cen]) (by simp [cE2, sev, svl, cen]) ?_
          refine d_call (P M3 (-1) 1 x3 h3 (by omega) (by omega)) (by simp [cAs, cE2, sev, svl, cen]) ?_
          rintro rr M4 ⟨⟨x4, h4⟩, hq⟩
          rw [stRl_2] at hq
          rcases hq with ⟨rfl, p2⟩ | ⟨rfl, p2⟩
          · refine ⟨rfl, ?_⟩
            refine d_br (fun h => ?_) (fun h => ?_)
            · simp only [cCmp, cE2, sev, svl, cen, List.cons_append, List.nil_append] at h
              omega
            · clear h
              refine d_opw (cfn 1 (cfn 1 0 1) 2) 4 (by simp [cE2, sev, svl, cen]) (by simp [cE2, sev, svl, cen]) ?_
              exact wret1 (cfn 1 (cfn 1 (cfn 1 0 1) 2) 4) (by simp only [cE2, sev, svl, cen, List.cons_append, List.nil_append]; omega) (by decide +kernel) (hr true true true (by unfold stR3; rw [wDc_y p0, wDc_y p1, wDc_y p2]) _ _ x4 rfl)
          · refine ⟨rfl, ?_⟩
            refine d_br (fun h => ?_) (fun h => ?_)
            · clear h
              exact wret1 (cfn 1 (cfn 1 0 1) 2) (by simp only [cE2, sev, svl, cen, List.cons_append, List.nil_append]; omega) (by decide +kernel) (hr true true false (by unfold stR3; rw [wDc_y p0, wDc_y p1, wDc_n p2]) _ _ x4 rfl)
            · simp only [cCmp, cE2, sev, svl, cen, List.cons_append, List.nil_append] at h
              omega
      · refine ⟨rfl, ?_⟩
        refine d_br (fun h => ?_) (fun h => ?_)
        · clear h
          refine d_call (P M3 (-1) 1 x3 h3 (by omega) (by omega)) (by simp [cAs, cE2, sev, svl, cen]) ?_
          rintro rr M4 ⟨⟨x4, h4⟩, hq⟩
          rw [stRl_2] at hq
          rcases hq with ⟨rfl, p2⟩ | ⟨rfl, p2⟩
          · refine ⟨rfl, ?_⟩
            refine d_br (fun h => ?_) (fun h => ?_)
            · simp only [cCmp, cE2, sev, svl, cen, List.cons_append, List.nil_append] at h
              omega
            · clear h
              refine d_opw (cfn 1 0 1) 4 (by simp [cE2, sev, svl, cen]) (by simp [cE2, sev, svl, cen]) ?_
              exact wret1 (cfn 1 (cfn 1 0 1) 4) (by simp only [cE2, sev, svl, cen, List.cons_append, List.nil_append]; omega) (by decide +kernel) (hr true false true (by unfold stR3; rw [wDc_y p0, wDc_n p1, wDc_y p2]) _ _ x4 rfl)
          · refine ⟨rfl, ?_⟩
            refine d_br (fun h => ?_) (fun h => ?_)
            · clear h
              exact wret1 (cfn 1 0 1) (by simp only [cE2, sev, svl, cen, List.cons_append, List.nil_append]; omega) (by decide +kernel) (hr true false false (by unfold stR3; rw [wDc_y p0, wDc_n p1, wDc_n p2]) _ _ x4 rfl)
            · simp only [cCmp, cE2, sev, svl, cen, List.cons_append, List.nil_append] at h
              omega
        · simp only [cCmp, cE2, sev, svl, cen, List.cons_append, List.nil_append] at h
          omega
  · refine ⟨rfl, ?_⟩
    refine d_br (fun h => ?_) (fun h => ?_)
    · clear h
      refine d_call (P M2 0 0 x2 h2 (by omega) (by omega)) (by simp [cAs, cE2, sev, svl, cen]) ?_
      rintro rr M3 ⟨⟨x3, h3⟩, hq⟩
      rw [stRl_1] at hq
      rcases hq with ⟨rfl, p1⟩ | ⟨rfl, p1⟩
      · refine ⟨rfl, ?_⟩
        refine d_br (fun h => ?_) (fun h => ?_)
        · simp only [cCmp, cE2, sev, svl, cen, List.cons_append, List.nil_append] at h
          omega
        · clear h
          refine d_opw 0 2 (by simp [cE2, sev, svl, cen]) (by simp [cE2, sev, svl, cen]) ?_
          refine d_call (P M3 (-1) 1 x3 h3 (by omega) (by omega)) (by simp [cAs, cE2, sev, svl, cen]) ?_
          rintro rr M4 ⟨⟨x4, h4⟩, hq⟩
          rw [stRl_2] at hq
          rcases hq with ⟨rfl, p2⟩ | ⟨rfl, p2⟩
          · refine ⟨rfl, ?_⟩
            refine d_br (fun h => ?_) (fun h => ?_)
            · simp only [cCmp, cE2, sev, svl, cen, List.cons_append, List.nil_append] at h
              omega
            · clear h
              refine d_opw (cfn 1 0 2) 4 (by simp [cE2, sev, svl, cen]) (by simp [cE2, sev, svl, cen]) ?_
              exact wret1 (cfn 1 (cfn 1 0 2) 4) (by simp only [cE2, sev, svl, cen, List.cons_append, List.nil_append]; omega) (by decide +kernel) (hr false true true (by unfold stR3; rw [wDc_n p0, wDc_y p1, wDc_y p2]) _ _ x4 rfl)
          · refine ⟨rfl, ?_⟩
            refine d_br (fun h => ?_) (fun h => ?_)
            · clear h
              exact wret1 (cfn 1 0 2) (by simp only [cE2, sev, svl, cen, List.cons_append, List.nil_append]; omega) (by decide +kernel) (hr false true false (by unfold stR3; rw [wDc_n p0, wDc_y p1, wDc_n p2]) _ _ x4 rfl)
            · simp only [cCmp, cE2, sev, svl, cen, List.cons_append, List.nil_append] at h
              omega
      · refine ⟨rfl, ?_⟩
        refine d_br (fun h => ?_) (fun h => ?_)
        · clear h
          refine d_call (P M3 (-1) 1 x3 h3 (by omega) (by omega)) (by simp [cAs, cE2, sev, svl, cen]) ?_
          rintro rr M4 ⟨⟨x4, h4⟩, hq⟩
          rw [stRl_2] at hq
          rcases hq with ⟨rfl, p2⟩ | ⟨rfl, p2⟩
          · refine ⟨rfl, ?_⟩
            refine d_br (fun h => ?_) (fun h => ?_)
            · simp only [cCmp, cE2, sev, svl, cen, List.cons_append, List.nil_append] at h
              omega
            · clear h
              refine d_opw 0 4 (by simp [cE2, sev, svl, cen]) (by simp [cE2, sev, svl, cen]) ?_
              exact wret1 (cfn 1 0 4) (by simp only [cE2, sev, svl, cen, List.cons_append, List.nil_append]; omega) (by decide +kernel) (hr false false true (by unfold stR3; rw [wDc_n p0, wDc_n p1, wDc_y p2]) _ _ x4 rfl)
          · refine ⟨rfl, ?_⟩
            refine d_br (fun h => ?_) (fun h => ?_)
            · clear h
              exact d_ret [0] rfl (by decide) (hr false false false (by unfold stR3; rw [wDc_n p0, wDc_n p1, wDc_n p2]) _ _ x4 rfl)
            · simp only [cCmp, cE2, sev, svl, cen, List.cons_append, List.nil_append] at h
              omega
        · simp only [cCmp, cE2, sev, svl, cen, List.cons_append, List.nil_append] at h
          omega
    · simp only [cCmp, cE2, sev, svl, cen, List.cons_append, List.nil_append] at h
      omega
end CS15
