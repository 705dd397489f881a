/-! stories: the class is asked of names that stood; its face -/
section CS15B
variable {EX : SEx} {l : Launch} {dC : Nat → ClassId} {dI : Nat → Nat → Nat} {cA : Nat → ClassId} {ad : SAd} {scrS d : Nat}
theorem smcp_l {M : SMem} {f0 j0 f1 j1 n i : Nat} (h : i < n) : sMcp M f0 j0 f1 j1 n f1 j1 i = M f0 j0 i := if_pos ⟨rfl, rfl, h⟩
theorem smcp_n {M : SMem} {f0 j0 f1 j1 n f j i : Nat} (h : f ≠ f1) : sMcp M f0 j0 f1 j1 n f j i = M f j i := if_neg (fun q => h q.1)
theorem smcp_i {M : SMem} {f0 j0 f1 j1 n i : Nat} (h : ¬ i < n) : sMcp M f0 j0 f1 j1 n f1 j1 i = M f1 j1 i := if_neg (fun q => h q.2.2)
theorem smcp_I {M : SMem} {f0 f1 : Nat} {lo hi : Int} (hI : sI tg M) (h0 : ∀ i, srg tg f0 i = some (lo, hi)) (h1 : ∀ i, srg tg f1 i = some (lo, hi)) : ∀ n, sI tg (sMcp M f0 0 f1 0 n) := by
  intro n
  induction n with
  | zero =>
    have e9 : sMcp M f0 0 f1 0 0 = M := by
      funext f j i
      exact if_neg (fun q => by omega)
    rw [e9]
    exact hI
  | succ n ih =>
    rw [smcp_s]
    exact wI ih (h1 n) (wIb hI 0 (h0 n))
set_option maxHeartbeats 4000000 in
theorem b_mayStood (hp : cPl tm tc tf EX) {p ly : Nat} {x : Int} {M : SMem} (hI : sI tg M) (hZ : sWf (sZ M)) (hK : sKx M) (h15 : M 7 0 15 ≠ 0) (hp9 : p < 12) (hl : (ly : Int) < M 64 p 5) (hx : 0 ≤ x ∧ x ≤ 5) : cBG tm tf EX l dC dI cA ad scrS (d + 3) kX6_mayHaveStood [(2, 7, 0), (2, 64, (p : Int)), (0, 0, (ly : Int)), (0, 0, x)] M (fun rr MM => (sKX MM M ∧ MM 7 0 15 = M 7 0 15) ∧ ((rr = [1] ∧ stSt M (stS (sZ M) (M 6 0)) p ly x) ∨ (rr = [0] ∧ ¬ stSt M (stS (sZ M) (M 6 0)) p ly x))) := by
  refine cMeth (v := [(p : Int), (ly : Int), x]) (Fd := 90) hp (by decide) gX6_mayHaveStood_ok gX6_mayHaveStood_m0 (by simp [cAs, cE2, sev, svl, cen]) ?_
  obtain ⟨okl, ok7, bu, ob, og⟩ := hK.1 h15
  have hdt := hdt_I hI
  have b6 := wIb (f := 64) (i := 5) (lo := 0) (hi := 6) hI p rfl
  suffices H : ∀ Po : List Int → SMem → Prop, (∀ rr MM, ((sKX MM M ∧ MM 7 0 15 = M 7 0 15) ∧ ((rr = [1] ∧ stSt M (stS (sZ M) (M 6 0)) p ly x) ∨ (rr = [0] ∧ ¬ stSt M (stS (sZ M) (M 6 0)) p ly x))) → Po rr MM) → cEnds (cBG tm tf EX l dC dI cA ad scrS (d + 2)) Po 90 gX6_mayHaveStood 0 [(p : Int), (ly : Int), x] M from H _ (fun _ _ h => h)
  intro Po hPo
  have bzp : ∀ l9 : Nat, (l9 : Int) < M 64 p 5 → sBz (sZ M) (M 91 p l9).toNat := fun l9 hl9 => ⟨p, l9, hp9, by show l9 < (M 64 p 5).toNat; omega, rfl⟩
  have b91 : ∀ l9 : Nat, 0 ≤ M 91 p l9 ∧ M 91 p l9 ≤ 5 := fun l9 => wIb (f := 91) (i := l9) (lo := 0) (hi := 5) hI p rfl
  obtain ⟨a, ea⟩ : ∃ a : Nat, M 91 p ly = (a : Int) := ⟨(M 91 p ly).toNat, by have := b91 ly; omega⟩
  obtain ⟨b, eb⟩ : ∃ b : Nat, M 91 p (ly + 1) = (b : Int) := ⟨(M 91 p (ly + 1)).toNat, by have := b91 (ly + 1); omega⟩
  have a6 : a < 6 := by have := b91 ly; omega
  have b6' : b < 6 := by have := b91 (ly + 1); omega
  have ba : sBz (sZ M) a := by have := bzp ly hl; rw [ea] at this; exact this
  have bb : (ly : Int) + 1 < M 64 p 5 → sBz (sZ M) b := fun z => by have := bzp (ly + 1) (by omega); rw [eb] at this; exact this
  have hst : stSt M (stS (sZ M) (M 6 0)) p ly x ↔ ∃ s, s ∈ (stS (sZ M) (M 6 0)) ∧ ((M 92 p ly ≠ 4 → x ≤ s a) ∧ ((ly : Int) + 1 < M 64 p 5 → x + 1 ≤ s b)) := by
    unfold stSt
    rw [ea, eb, show ((a : Nat) : Int).toNat = a by omega, show ((b : Nat) : Int).toNat = b by omega]
  have ex := stS_ex hZ hdt okl (hls_I hI) og (Q := fun s => (M 92 p ly ≠ 4 → x ≤ s a) ∧ ((ly : Int) + 1 < M 64 p 5 → x + 1 ≤ s b)) (fun r s h q => ⟨fun z => by rw [← h a a6 ba]; exact q.1 z, fun z => by rw [← h b b6' (bb z)]; exact q.2 z⟩)
  rw [← hst] at ex
  -- the floors raised, and what is found of them
  have fin : ∀ N : SMem, sI tg N → (∀ f j i, f ≠ 65 → f ≠ 71 → N f j i = M f j i) → (∀ i, i < 6 → N 71 0 i = M 65 0 i) → (∀ i, ¬ i < 6 → N 65 0 i = M 65 0 i) → (∀ j i, j ≠ 0 → N 65 j i = M 65 j i) → (∀ h, h < 6 → N 65 0 h ≤ 20) → (∀ r, sRul (N 65 0) (M 66 0) (M 67 0) r ↔ (sRul (M 65 0) (M 66 0) (M 67 0) r ∧ (M 92 p ly ≠ 4 → x ≤ r a) ∧ ((ly : Int) + 1 < M 64 p 5 → x + 1 ≤ r b))) → cBG tm tf EX l dC dI cA ad scrS (d + 2) kX6_isPossible [(2, 7, 0)] N (fun rr M3 => (rr = [1] ∨ rr = [0]) ∧ ∀ MM, MM = sMcp M3 71 0 65 0 6 → Po rr MM) := by
    intro N iN fN n71 n65 n65' up rul
    refine cBG_post (b_isPossible (d := d) hp iN up) (fun rr M3 h => ?_)
    obtain ⟨i3, f3, hr⟩ := h
    have rw0 : ∀ f, f ≠ 65 → f ≠ 71 → N f 0 = M f 0 := fun f y1 y2 => by
      funext i
      exact fN f 0 i y1 y2
    rw [rw0 66 (by decide) (by decide), rw0 67 (by decide) (by decide), fN 7 0 4 (by decide) (by decide)] at hr
    refine ⟨by rcases hr with ⟨e, _⟩ | ⟨e, _⟩; { exact Or.inl e }; { exact Or.inr e }, fun MM hMM => hPo _ _ ⟨?_, ?_⟩⟩
    · have fM : ∀ f j i, f ≠ 70 → f ≠ 71 → MM f j i = M f j i := fun f j i y1 y2 => by
        rw [hMM]
        by_cases e : f = 65
        · subst e
          by_cases e0 : j = 0
          · subst e0
            by_cases e1 : i < 6
            · rw [smcp_l e1, f3 71 0 i (by decide), n71 i e1]
            · rw [smcp_i e1, f3 65 0 i (by decide), n65 i e1]
          · rw [show sMcp M3 71 0 65 0 6 65 j i = M3 65 j i from if_neg (fun q => e0 q.2.1), f3 65 j i (by decide), n65' j i e0]
        · rw [smcp_n e, f3 f j i y1, fN f j i e y2]
      have row : ∀ f, f ≠ 70 → f ≠ 71 → MM f = M f := fun f y1 y2 => by
        funext j i
        exact fM f j i y1 y2
      refine ⟨⟨by rw [hMM]; exact smcp_I (lo := 0) (hi := 2147483647) i3 (fun _ => rfl) (fun _ => rfl) 6, sKx_cg (fun f hf => row f (fun z => by rw [z] at hf; revert hf; decide) (fun z => by rw [z] at hf; revert hf; decide)) (fun f hf => by rw [row f (fun z => by rw [z] at hf; revert hf; decide) (fun z => by rw [z] at hf; revert hf; decide)]) (fun i _ => fM 7 0 i (by decide) (by decide)) hK, sZ_cg (fun f hf => row f (fun z => by rw [z] at hf; revert hf; decide) (fun z => by rw [z] at hf; revert hf; decide)), fun f j i y1 _ => fM f j i (fun z => y1 (by rw [z]; decide)) (fun z => y1 (by rw [z]; decide))⟩, fM 7 0 15 (by decide) (by decide)⟩
    · rcases hr with ⟨e, hb0, hE1, hE2⟩ | ⟨e, hno⟩
      · exact Or.inl ⟨e, ex.mp ⟨fun q => q hb0, M3 70 0, (rul _).mp hE1⟩⟩
      · refine Or.inr ⟨e, fun z => ?_⟩
        obtain ⟨w1, r, w2, w3⟩ := ex.mpr z
        rcases hno with y | y
        · exact w1 y
        · exact y r ((rul r).mpr ⟨w2, w3⟩)
  have c65 : ∀ h, 0 ≤ M 65 0 h := fun h => (wIb (f := 65) (i := h) (lo := 0) (hi := 2147483647) hI 0 rfl).1
  obtain ⟨N0, hN0⟩ : ∃ N0 : SMem, N0 = sMcp M 65 0 71 0 6 := ⟨_, rfl⟩
  have iN0 : sI tg N0 := by rw [hN0]; exact smcp_I (lo := 0) (hi := 2147483647) hI (fun _ => rfl) (fun _ => rfl) 6
  have fN0 : ∀ f j i, f ≠ 71 → N0 f j i = M f j i := fun f j i y => by rw [hN0, smcp_n y]
  have n71 : ∀ i, i < 6 → N0 71 0 i = M 65 0 i := fun i hi => by rw [hN0, smcp_l hi]
  have r65 : N0 65 0 = M 65 0 := by
    funext i
    exact fN0 65 0 i (by decide)
  -- raised by one
  have one : ∀ (N : SMem) (g : Nat) (y : Int), sI tg N → g < 6 → 0 ≤ y ∧ y ≤ 6 → (∀ h, h < 6 → N 65 0 h ≤ 7) → sI tg (supd N 65 0 g (cfn 11 (N 65 0 g) y)) ∧ (∀ h, h < 6 → supd N 65 0 g (cfn 11 (N 65 0 g) y) 65 0 h ≤ 7) ∧ supd N 65 0 g (cfn 11 (N 65 0 g) y) 65 0 = wSt (N 65 0) g (cfn 11 (N 65 0 g) y) := by
    intro N g y iN hg hy u
    have m := @cfn11 (N 65 0 g) y
    have u1 := u g hg
    have l1 := (wIb (f := 65) (i := g) (lo := 0) (hi := 2147483647) iN 0 rfl).1
    refine ⟨wI (lo := 0) (hi := 2147483647) iN rfl ⟨by omega, by omega⟩, fun h hh => ?_, supd_row⟩
    by_cases e : h = g
    · rw [e, supd_at]; omega
    · rw [supd_i e]; exact u h hh
  have u0 : ∀ h, h < 6 → N0 65 0 h ≤ 7 := fun h hh => by rw [r65]; exact ok7 h hh
  have e92 := fN0 92 p ly (by decide)
  have e64 := fN0 64 p 5 (by decide)
  have e91 := fN0 91 p ly (by decide)
  have e91' := fN0 91 p (ly + 1) (by decide)
  rw [ea] at e91
  rw [eb] at e91'
  refine cEnds_at gX6_mayHaveStood_m0 rfl ?_
  refine d_cpy 0 0 6 (by simp only [cE2, sev, svl, cen, List.cons_append, List.nil_append]; omega) (by simp only [cE2, sev, svl, cen, List.cons_append, List.nil_append]; omega) (by simp only [cE2, sev, svl, cen, List.cons_append, List.nil_append]; omega) (by omega) (by omega) ?_
  rw [← hN0]
  refine d_row p ly (by simp only [cE2, sev, svl, cen, List.cons_append, List.nil_append]; omega) (by simp only [cE2, sev, svl, cen, List.cons_append, List.nil_append]; omega) (by omega) ?_
  rw [e92]
  refine d_br (fun h => ?_) (fun h => ?_)
  · simp only [cCmp, cE2, sev, svl, cen, List.cons_append, List.nil_append] at h
    refine d_rng (by simp only [clo, chi, cE2, sev, svl, cen, List.cons_append, List.nil_append]; omega) ?_
    refine d_fld p (by simp only [cE2, sev, svl, cen, List.cons_append, List.nil_append]; omega) ?_
    rw [e64]
    refine d_br (fun h2 => ?_) (fun h2 => ?_)
    · simp only [cCmp, cE2, sev, svl, cen, List.cons_append, List.nil_append] at h2
      refine d_call (fin N0 iN0 (fun f j i _ y => fN0 f j i y) n71 (fun i _ => fN0 65 0 i (by decide)) (fun j i _ => fN0 65 j i (by decide)) (fun h hh => by have := u0 h hh; omega) (fun r => by rw [r65]; exact ⟨fun q => ⟨q, fun z => absurd (by omega) z, fun z => absurd z (by omega)⟩, fun q => q.1⟩)) (by simp [cAs, cE2, sev, svl, cen]) ?_
      rintro rr M3 ⟨hrr, hq⟩
      rcases hrr with rfl | rfl
      · refine ⟨rfl, ?_⟩
        refine d_cpy 0 0 6 (by simp only [cE2, sev, svl, cen, List.cons_append, List.nil_append]; omega) (by simp only [cE2, sev, svl, cen, List.cons_append, List.nil_append]; omega) (by simp only [cE2, sev, svl, cen, List.cons_append, List.nil_append]; omega) (by omega) (by omega) ?_
        exact d_ret [1] rfl (by decide) (hq _ rfl)
      · refine ⟨rfl, ?_⟩
        refine d_cpy 0 0 6 (by simp only [cE2, sev, svl, cen, List.cons_append, List.nil_append]; omega) (by simp only [cE2, sev, svl, cen, List.cons_append, List.nil_append]; omega) (by simp only [cE2, sev, svl, cen, List.cons_append, List.nil_append]; omega) (by omega) (by omega) ?_
        exact d_ret [0] rfl (by decide) (hq _ rfl)
    · simp only [cCmp, cE2, sev, svl, cen, List.cons_append, List.nil_append] at h2
      refine d_rng (by simp only [clo, chi, cE2, sev, svl, cen, List.cons_append, List.nil_append]; omega) ?_
      refine d_row p (ly + 1) (by simp only [cE2, sev, svl, cen, List.cons_append, List.nil_append]; omega) (by simp only [cE2, sev, svl, cen, List.cons_append, List.nil_append]; omega) (by omega) ?_
      rw [e91']
      refine d_rng (by simp only [clo, chi, cE2, sev, svl, cen, List.cons_append, List.nil_append]; omega) ?_
      refine d_call (b_raise hp (h := b) (x := x + 1) b6') (by simp [cAs, cE2, sev, svl, cen] <;> omega) ?_
      rintro rr N1 ⟨rfl, hN1⟩
      refine ⟨rfl, ?_⟩
      obtain ⟨i1, u1, r1⟩ := one N0 b (x + 1) iN0 b6' (by omega) u0
      rw [← hN1] at i1 u1 r1
      refine d_call (fin N1 i1 (fun f j i y1 y2 => by rw [hN1, supd_f y1, fN0 f j i y2]) (fun i hi => by rw [hN1, supd_f (by decide), n71 i hi]) (fun i hi => by rw [r1, wSt_ne (by omega), r65]) (fun j i y => by rw [hN1, show supd N0 65 0 b (cfn 11 (N0 65 0 b) (x + 1)) 65 j i = N0 65 j i from if_neg (fun q => y q.2.1), fN0 65 j i (by decide)]) (fun h hh => by have := u1 h hh; omega) (fun r => by rw [r1, sRul_fl b6', r65]; exact ⟨fun q => ⟨q.1, fun z => absurd (by omega) z, fun _ => q.2⟩, fun q => ⟨q.1, q.2.2 (by omega)⟩⟩)) (by simp [cAs, cE2, sev, svl, cen]) ?_
      rintro rr M3 ⟨hrr, hq⟩
      rcases hrr with rfl | rfl
      · refine ⟨rfl, ?_⟩
        refine d_cpy 0 0 6 (by simp only [cE2, sev, svl, cen, List.cons_append, List.nil_append]; omega) (by simp only [cE2, sev, svl, cen, List.cons_append, List.nil_append]; omega) (by simp only [cE2, sev, svl, cen, List.cons_append, List.nil_append]; omega) (by omega) (by omega) ?_
        exact d_ret [1] rfl (by decide) (hq _ rfl)
      · refine ⟨rfl, ?_⟩
        refine d_cpy 0 0 6 (by simp only [cE2, sev, svl, cen, List.cons_append, List.nil_append]; omega) (by simp only [cE2, sev, svl, cen, List.cons_append, List.nil_append]; omega) (by simp only [cE2, sev, svl, cen, List.cons_append, List.nil_append]; omega) (by omega) (by omega) ?_
        exact d_ret [0] rfl (by decide) (hq _ rfl)
  · simp only [cCmp, cE2, sev, svl, cen, List.cons_append, List.nil_append] at h
    refine d_row p ly (by simp only [cE2, sev, svl, cen, List.cons_append, List.nil_append]; omega) (by simp only [cE2, sev, svl, cen, List.cons_append, List.nil_append]; omega) (by omega) ?_
    rw [e91]
    refine d_call (b_raise hp (h := a) (x := x) a6) (by simp [cAs, cE2, sev, svl, cen]) ?_
    rintro rr N1 ⟨rfl, hN1⟩
    refine ⟨rfl, ?_⟩
    obtain ⟨i1, u1, r1⟩ := one N0 a x iN0 a6 (by omega) u0
    rw [← hN1] at i1 u1 r1
    have f1 : ∀ f j i, f ≠ 65 → f ≠ 71 → N1 f j i = M f j i := fun f j i y1 y2 => by rw [hN1, supd_f y1, fN0 f j i y2]
    have g1 : ∀ j i, j ≠ 0 → N1 65 j i = M 65 j i := fun j i y => by rw [hN1, show supd N0 65 0 a (cfn 11 (N0 65 0 a) x) 65 j i = N0 65 j i from if_neg (fun q => y q.2.1), fN0 65 j i (by decide)]
    have e1 := f1 64 p 5 (by decide) (by decide)
    have e2 := f1 91 p (ly + 1) (by decide) (by decide)
    rw [eb] at e2
    refine d_rng (by simp only [clo, chi, cE2, sev, svl, cen, List.cons_append, List.nil_append]; omega) ?_
    refine d_fld p (by simp only [cE2, sev, svl, cen, List.cons_append, List.nil_append]; omega) ?_
    rw [e1]
    refine d_br (fun h2 => ?_) (fun h2 => ?_)
    · simp only [cCmp, cE2, sev, svl, cen, List.cons_append, List.nil_append] at h2
      refine d_call (fin N1 i1 f1 (fun i hi => by rw [hN1, supd_f (by decide), n71 i hi]) (fun i hi => by rw [r1, wSt_ne (by omega), r65]) g1 (fun h hh => by have := u1 h hh; omega) (fun r => by rw [r1, sRul_fl a6, r65]; exact ⟨fun q => ⟨q.1, fun _ => q.2, fun z => absurd z (by omega)⟩, fun q => ⟨q.1, q.2.1 (by omega)⟩⟩)) (by simp [cAs, cE2, sev, svl, cen]) ?_
      rintro rr M3 ⟨hrr, hq⟩
      rcases hrr with rfl | rfl
      · refine ⟨rfl, ?_⟩
        refine d_cpy 0 0 6 (by simp only [cE2, sev, svl, cen, List.cons_append, List.nil_append]; omega) (by simp only [cE2, sev, svl, cen, List.cons_append, List.nil_append]; omega) (by simp only [cE2, sev, svl, cen, List.cons_append, List.nil_append]; omega) (by omega) (by omega) ?_
        exact d_ret [1] rfl (by decide) (hq _ rfl)
      · refine ⟨rfl, ?_⟩
        refine d_cpy 0 0 6 (by simp only [cE2, sev, svl, cen, List.cons_append, List.nil_append]; omega) (by simp only [cE2, sev, svl, cen, List.cons_append, List.nil_append]; omega) (by simp only [cE2, sev, svl, cen, List.cons_append, List.nil_append]; omega) (by omega) (by omega) ?_
        exact d_ret [0] rfl (by decide) (hq _ rfl)
    · simp only [cCmp, cE2, sev, svl, cen, List.cons_append, List.nil_append] at h2
      refine d_rng (by simp only [clo, chi, cE2, sev, svl, cen, List.cons_append, List.nil_append]; omega) ?_
      refine d_row p (ly + 1) (by simp only [cE2, sev, svl, cen, List.cons_append, List.nil_append]; omega) (by simp only [cE2, sev, svl, cen, List.cons_append, List.nil_append]; omega) (by omega) ?_
      rw [e2]
      refine d_rng (by simp only [clo, chi, cE2, sev, svl, cen, List.cons_append, List.nil_append]; omega) ?_
      refine d_call (b_raise hp (h := b) (x := x + 1) b6') (by simp [cAs, cE2, sev, svl, cen] <;> omega) ?_
      rintro rr N2 ⟨rfl, hN2⟩
      refine ⟨rfl, ?_⟩
      obtain ⟨i2, u2, r2⟩ := one N1 b (x + 1) i1 b6' (by omega) u1
      rw [← hN2] at i2 u2 r2
      refine d_call (fin N2 i2 (fun f j i y1 y2 => by rw [hN2, supd_f y1, f1 f j i y1 y2]) (fun i hi => by rw [hN2, supd_f (by decide), hN1, supd_f (by decide), n71 i hi]) (fun i hi => by rw [r2, wSt_ne (by omega), r1, wSt_ne (by omega), r65]) (fun j i y => by rw [hN2, show supd N1 65 0 b (cfn 11 (N1 65 0 b) (x + 1)) 65 j i = N1 65 j i from if_neg (fun q => y q.2.1), g1 j i y]) (fun h hh => by have := u2 h hh; omega) (fun r => by rw [r2, sRul_fl b6', r1, sRul_fl a6, r65]; exact ⟨fun q => ⟨q.1.1, fun _ => q.1.2, fun _ => q.2⟩, fun q => ⟨⟨q.1, q.2.1 (by omega)⟩, q.2.2 (by omega)⟩⟩)) (by simp [cAs, cE2, sev, svl, cen]) ?_
      rintro rr M3 ⟨hrr, hq⟩
      rcases hrr with rfl | rfl
      · refine ⟨rfl, ?_⟩
        refine d_cpy 0 0 6 (by simp only [cE2, sev, svl, cen, List.cons_append, List.nil_append]; omega) (by simp only [cE2, sev, svl, cen, List.cons_append, List.nil_append]; omega) (by simp only [cE2, sev, svl, cen, List.cons_append, List.nil_append]; omega) (by omega) (by omega) ?_
        exact d_ret [1] rfl (by decide) (hq _ rfl)
      · refine ⟨rfl, ?_⟩
        refine d_cpy 0 0 6 (by simp only [cE2, sev, svl, cen, List.cons_append, List.nil_append]; omega) (by simp only [cE2, sev, svl, cen, List.cons_append, List.nil_append]; omega) (by simp only [cE2, sev, svl, cen, List.cons_append, List.nil_append]; omega) (by omega) (by omega) ?_
        exact d_ret [0] rfl (by decide) (hq _ rfl)
/-- names that may have stood, of both -/
noncomputable def stBits (M : SMem) (L : List (Nat → Int)) (p ly : Nat) : Int := wBt (wDc (fun nm => sFitX M p ly nm ∧ stSt M L p ly (M 60 0 nm))) 8
theorem stBits_cg {M N : SMem} {L : List (Nat → Int)} {p ly : Nat} (h : ∀ f j i, f ∉ [65, 66, 67, 68, 69, 70, 71, 72, 73] → f ≠ 7 → N f j i = M f j i) : stBits N L p ly = stBits M L p ly := by
  have row : ∀ f, f ∉ [65, 66, 67, 68, 69, 70, 71, 72, 73] → f ≠ 7 → N f = M f := fun f y1 y2 => by
    funext j i
    exact h f j i y1 y2
  have hw : ∀ nm, sFitX N p ly nm ↔ sFitX M p ly nm := fun nm => by
    unfold sFitX
    rw [row 58 (by decide) (by decide)]
    exact and_congr Iff.rfl (wFt_cg (fun f hf => row f (fun z => by simp only [List.mem_cons, List.not_mem_nil, or_false] at hf z; omega) (fun z => by rw [z] at hf; revert hf; decide)) ly)
  unfold stBits
  refine wBt_cg 8 (fun nm _ => wDc_cg ?_)
  rw [hw nm]
  unfold stSt
  rw [row 60 (by decide) (by decide), row 64 (by decide) (by decide), row 91 (by decide) (by decide), row 92 (by decide) (by decide)]
set_option maxHeartbeats 4000000 in
theorem b_standing (hp : cPl tm tc tf EX) {p ly : Nat} {M : SMem} (hI : sI tg M) (hZ : sWf (sZ M)) (hK : sKx M) (hp9 : p < 12) (hl : (ly : Int) < M 64 p 5) : cBG tm tf EX l dC dI cA ad scrS (d + 6) kX6_standing [(2, 7, 0), (2, 64, (p : Int)), (0, 0, (ly : Int))] M (fun rr MM => sKX MM M ∧ ((rr = [-1] ∧ (stS (sZ M) (M 6 0)) = []) ∨ (rr = [stBits M (stS (sZ M) (M 6 0)) p ly] ∧ (stS (sZ M) (M 6 0)) ≠ []))) := by
  refine cMeth (v := [(p : Int), (ly : Int)]) (Fd := 90) hp (by decide) gX6_standing_ok gX6_standing_m0 (by simp [cAs, cE2, sev, svl, cen]) ?_
  have b6 := wIb (f := 64) (i := 5) (lo := 0) (hi := 6) hI p rfl
  suffices H : ∀ Po : List Int → SMem → Prop, (∀ rr MM, (sKX MM M ∧ ((rr = [-1] ∧ (stS (sZ M) (M 6 0)) = []) ∨ (rr = [stBits M (stS (sZ M) (M 6 0)) p ly] ∧ (stS (sZ M) (M 6 0)) ≠ []))) → Po rr MM) → cEnds (cBG tm tf EX l dC dI cA ad scrS (d + 5)) Po 90 gX6_standing 0 [(p : Int), (ly : Int)] M from H _ (fun _ _ h => h)
  intro Po hPo
  refine cEnds_at gX6_standing_m0 rfl ?_
  refine d_call (b_gatherAll2 (d := d) hp hI hZ hK) (by simp [cAs, cE2, sev, svl, cen]) ?_
  rintro rr M1 ⟨rfl, i1, f1, g1, ok1, k1, eZ1⟩
  refine ⟨rfl, ?_⟩
  have x1 : sKX M1 M := ⟨i1, k1, eZ1, fun f j i y1 y2 => f1 f j i (fun z => y1 (by simp only [List.mem_cons, List.not_mem_nil, or_false] at z ⊢; omega)) (fun z => y2 z.1)⟩
  have eL1 : (stS (sZ M1) (M1 6 0)) = (stS (sZ M) (M 6 0)) := by rw [eZ1, sKX_6 x1]
  obtain ⟨okl, ok7, bu, ob, og⟩ := ok1
  have hdt := hdt_I i1
  have nil := stS_nil_iff (by rw [eZ1]; exact hZ) hdt okl (hls_I i1) og
  rw [eL1] at nil
  generalize hL : stS (sZ M) (M 6 0) = L at nil hPo eL1
  refine d_call (b_isPossible (d := d + 3) hp i1 (fun h hh => by have := ok7 h hh; omega)) (by simp [cAs, cE2, sev, svl, cen]) ?_
  rintro rr M2 ⟨i2, f2, hr⟩
  have row2 : ∀ f, f ≠ 70 → M2 f = M1 f := fun f y => by
    funext j i
    exact f2 f j i y
  have x2' : sKX M2 M1 := ⟨i2, sKx_cg (fun f hf => row2 f (fun z => by rw [z] at hf; revert hf; decide)) (fun f hf => by rw [row2 f (fun z => by rw [z] at hf; revert hf; decide)]) (fun i _ => f2 7 0 i (by decide)) k1, sZ_cg (fun f hf => row2 f (fun z => by rw [z] at hf; revert hf; decide)), fun f j i y1 _ => f2 f j i (fun z => y1 (by rw [z]; decide))⟩
  have x2 := sKX_tr x2' x1
  have h2 : M2 7 0 15 ≠ 0 := by rw [f2 7 0 15 (by decide)]; omega
  rcases hr with ⟨rfl, hb0, hE1, hE2⟩ | ⟨rfl, hno⟩
  · have hne : L ≠ [] := fun z => by
      rcases nil.mp z with y | y
      · exact y hb0
      · exact y _ hE1
    refine ⟨rfl, ?_⟩
    refine d_br (fun h => ?_) (fun h => ?_)
    · clear h
      refine d_call (b_fitting (d := d + 2) hp (p := p) (ly := ly) (bare := 0) i2 (by omega)) (by simp [cAs, cE2, sev, svl, cen]) ?_
      rintro rr M3 ⟨hM3, rfl⟩
      rw [hM3]
      refine ⟨rfl, ?_⟩
      have hft : ∀ N : SMem, sKX N M → ∀ nm, sFitX N p ly nm ↔ sFitX M p ly nm := fun N hx nm => by
        have row : ∀ f, f ∉ [65, 66, 67, 68, 69, 70, 71, 72, 73] → f ≠ 7 → N f = M f := fun f y1 y2 => by
          funext j i
          exact hx.2.2.2 f j i y1 y2
        unfold sFitX
        rw [row 58 (by decide) (by decide)]
        exact and_congr Iff.rfl (wFt_cg (fun f hf => row f (fun z => by simp only [List.mem_cons, List.not_mem_nil, or_false] at hf z; omega) (fun z => by rw [z] at hf; revert hf; decide)) ly)
      have ef : wBt (wDc (fun nm => M2 58 0 nm ≠ 0 ∧ wFt M2 p nm ly 0 ly)) 8 = wBt (wDc (sFitX M p ly)) 8 := wBt_cg 8 (fun nm _ => wDc_cg (hft M2 x2 nm))
      rw [ef]
      generalize hb : wDc (fun nm => sFitX M p ly nm ∧ stSt M L p ly (M 60 0 nm)) = b
      have eB : stBits M L p ly = wBt b 8 := by rw [← hb]; rfl
      have loop : ∀ (m k : Nat), k + m = 8 → ∀ N : SMem, sKX N M → N 7 0 15 ≠ 0 → cEnds (cBG tm tf EX l dC dI cA ad scrS (d + 5)) Po 90 gX6_standing 30 [(p : Int), (ly : Int), wBt (wDc (sFitX M p ly)) 8, wBt b k, (k : Int)] N := by
        intro m
        induction m with
        | zero =>
          intro k hk N hx h15
          have br := wBt_r b k
          refine cEnds_at gX6_standing_m30 rfl ?_
          refine d_br (fun h => ?_) (fun h => ?_)
          · exact wret1 (wBt b k) (by simp only [cE2, sev, svl, cen, List.cons_append, List.nil_append]; omega) (by omega) (hPo _ _ ⟨hx, Or.inr ⟨by rw [eB, show k = 8 by omega], hne⟩⟩)
          · simp only [cCmp, cE2, sev, svl, cen, List.cons_append, List.nil_append] at h
            omega
        | succ m ih =>
          intro k hk N hx h15
          have br := wBt_r b k
          have bt := wBt8_bit (b := wDc (sFitX M p ly)) (g := k) (by omega)
          have e60 : N 60 0 k = M 60 0 k := hx.2.2.2 60 0 k (by decide) (by decide)
          have b60 := wIb (f := 60) (i := k) (lo := 0) (hi := 5) hI 0 rfl
          have eZ : sZ N = sZ M := hx.2.2.1
          have e6 := sKX_6 hx
          have e64 : N 64 p 5 = M 64 p 5 := hx.2.2.2 64 p 5 (by decide) (by decide)
          have hss : ∀ x, stSt N L p ly x ↔ stSt M L p ly x := fun x => by
            unfold stSt
            rw [e64, hx.2.2.2 91 p ly (by decide) (by decide), hx.2.2.2 91 p (ly + 1) (by decide) (by decide), hx.2.2.2 92 p ly (by decide) (by decide)]
          by_cases hf : sFitX M p ly k
          · rw [wDc_y hf, cond_true] at bt
            refine cEnds_at gX6_standing_m30 rfl ?_
            refine d_br (fun h => ?_) (fun h => ?_)
            · simp only [cCmp, cE2, sev, svl, cen, List.cons_append, List.nil_append] at h
              omega
            · clear h
              refine d_opw (wBt (wDc (sFitX M p ly)) 8) (k : Int) (by simp [cE2, sev, svl, cen] <;> omega) (by simp [cE2, sev, svl, cen] <;> omega) ?_
              refine d_opw (cfn 3 (wBt (wDc (sFitX M p ly)) 8) (k : Int)) 1 (by simp [cE2, sev, svl, cen] <;> omega) (by simp [cE2, sev, svl, cen] <;> omega) ?_
              rw [bt]
              refine d_br (fun h => ?_) (fun h => ?_)
              · simp only [cCmp, cE2, sev, svl, cen, List.cons_append, List.nil_append] at h
                omega
              · clear h
                refine d_row 0 k (by simp only [cE2, sev, svl, cen, List.cons_append, List.nil_append]; omega) (by simp only [cE2, sev, svl, cen, List.cons_append, List.nil_append]; omega) (by omega) ?_
                rw [e60]
                refine d_call (b_mayStood (d := d + 2) hp (p := p) (ly := ly) (x := M 60 0 k) hx.1 (by rw [eZ]; exact hZ) hx.2.1 h15 hp9 (by rw [e64]; exact hl) b60) (by simp [cAs, cE2, sev, svl, cen]) ?_
                rintro rr N2 ⟨⟨y1, y2⟩, hq⟩
                rw [eZ, e6, hL, hss] at hq
                have hx2 := sKX_tr y1 hx
                have h15' : N2 7 0 15 ≠ 0 := by rw [y2]; exact h15
                rcases hq with ⟨rfl, q⟩ | ⟨rfl, q⟩
                · have e : b k = true := by rw [← hb]; exact wDc_y ⟨hf, q⟩
                  refine ⟨rfl, ?_⟩
                  refine d_br (fun h => ?_) (fun h => ?_)
                  · simp only [cCmp, cE2, sev, svl, cen, List.cons_append, List.nil_append] at h
                    omega
                  · clear h
                    refine d_opw 1 (k : Int) (by simp [cE2, sev, svl, cen] <;> omega) (by simp [cE2, sev, svl, cen] <;> omega) ?_
                    refine d_opw (wBt b k) (cfn 2 1 (k : Int)) (by simp [cE2, sev, svl, cen] <;> omega) (by simp [cE2, sev, svl, cen] <;> omega) ?_
                    rw [← wBt_y e]
                    refine d_rng (by simp only [clo, chi, cE2, sev, svl, cen, List.cons_append, List.nil_append]; omega) ?_
                    refine d_cut [(p : Int), (ly : Int), wBt (wDc (sFitX M p ly)) 8, wBt b (k + 1), ((k + 1 : Nat) : Int)] (by simp [cE2, sev, svl, cen] <;> omega) ?_
                    exact ih (k + 1) (by omega) N2 hx2 h15'
                · have e : b k = false := by rw [← hb]; exact wDc_n (fun w => q w.2)
                  refine ⟨rfl, ?_⟩
                  refine d_br (fun h => ?_) (fun h => ?_)
                  · clear h
                    rw [← wBt_n e]
                    refine d_rng (by simp only [clo, chi, cE2, sev, svl, cen, List.cons_append, List.nil_append]; omega) ?_
                    refine d_cut [(p : Int), (ly : Int), wBt (wDc (sFitX M p ly)) 8, wBt b (k + 1), ((k + 1 : Nat) : Int)] (by simp [cE2, sev, svl, cen] <;> omega) ?_
                    exact ih (k + 1) (by omega) N2 hx2 h15'
                  · simp only [cCmp, cE2, sev, svl, cen, List.cons_append, List.nil_append] at h
                    omega
          · rw [wDc_n hf, cond_false] at bt
            have e : b k = false := by rw [← hb]; exact wDc_n (fun w => hf w.1)
            refine cEnds_at gX6_standing_m30 rfl ?_
            refine d_br (fun h => ?_) (fun h => ?_)
            · simp only [cCmp, cE2, sev, svl, cen, List.cons_append, List.nil_append] at h
              omega
            · clear h
              refine d_opw (wBt (wDc (sFitX M p ly)) 8) (k : Int) (by simp [cE2, sev, svl, cen] <;> omega) (by simp [cE2, sev, svl, cen] <;> omega) ?_
              refine d_opw (cfn 3 (wBt (wDc (sFitX M p ly)) 8) (k : Int)) 1 (by simp [cE2, sev, svl, cen] <;> omega) (by simp [cE2, sev, svl, cen] <;> omega) ?_
              rw [bt]
              refine d_br (fun h => ?_) (fun h => ?_)
              · clear h
                rw [← wBt_n e]
                refine d_rng (by simp only [clo, chi, cE2, sev, svl, cen, List.cons_append, List.nil_append]; omega) ?_
                refine d_cut [(p : Int), (ly : Int), wBt (wDc (sFitX M p ly)) 8, wBt b (k + 1), ((k + 1 : Nat) : Int)] (by simp [cE2, sev, svl, cen] <;> omega) ?_
                exact ih (k + 1) (by omega) N hx h15
              · simp only [cCmp, cE2, sev, svl, cen, List.cons_append, List.nil_append] at h
                omega
      refine d_cut [(p : Int), (ly : Int), wBt (wDc (sFitX M p ly)) 8, wBt b 0, ((0 : Nat) : Int)] (by simp [cE2, sev, svl, cen, wBt]) ?_
      exact loop 8 0 (by omega) M2 x2 h2
    · simp only [cCmp, cE2, sev, svl, cen, List.cons_append, List.nil_append] at h
      omega
  · have hnil : L = [] := nil.mpr hno
    refine ⟨rfl, ?_⟩
    refine d_br (fun h => ?_) (fun h => ?_)
    · simp only [cCmp, cE2, sev, svl, cen, List.cons_append, List.nil_append] at h
      omega
    · exact d_ret [-1] rfl (by decide) (hPo _ _ ⟨x2, Or.inl ⟨rfl, hnil⟩⟩)
end CS15B
