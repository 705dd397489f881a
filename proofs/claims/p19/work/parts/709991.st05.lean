/-! stories: what the class gathers of a wall -/
theorem sGt_D {Z : STZ} {D D' : Nat → Nat → Prop} {dt lst fl ce st : Nat → Int} {barred : Prop} {busy : Nat → Prop} (hD : ∀ p ly, D p ly ↔ D' p ly) (h : sGt Z D dt lst fl ce st barred busy) : sGt Z D' dt lst fl ce st barred busy := by
  have e : D = D' := by
    funext p ly
    exact propext (hD p ly)
  rw [← e]
  exact h
section CS5
variable {EX : SEx} {l : Launch} {dC : Nat → ClassId} {dI : Nat → Nat → Nat} {cA : Nat → ClassId} {ad : SAd} {scrS d : Nat}
set_option maxHeartbeats 4000000 in
theorem b_weigh (hp : cPl tm tc tf EX) {Z : STZ} {dt : Nat → Int} {p : Nat} {M : SMem} (hI : sI tg M) (hZ : sWf Z) (h6 : ∀ p, Z.1 p ≤ 6) (hp9 : p < 12) (hsz : M 64 p 5 = (Z.1 p : Int)) (hhd : ∀ ly, ly < Z.1 p → M 91 p ly = (Z.2.1 p ly : Int)) (hdv : ∀ ly, ly < Z.1 p → M 92 p ly = Z.2.2.1 p ly) {bu : Nat → Prop} (hbu : M 7 0 3 = wBt (wDc bu) 6) (hfl : ∀ h, h < 6 → M 65 0 h ≤ 7) (hG : sGt Z (fun p' l' => p' < p ∧ l' < Z.1 p') dt (M 68 0) (M 65 0) (M 66 0) (M 67 0) (M 7 0 4 ≠ 0) bu) : cBG tm tf EX l dC dI cA ad scrS (d + 2) kX6_weigh [(2, 7, 0), (0, 0, (p : Int)), (0, 0, 0)] M (fun rr MM => rr = [] ∧ sI tg MM ∧ (∀ f j i, f ≠ 65 → f ≠ 67 → ¬ (f = 7 ∧ (i = 3 ∨ i = 4)) → MM f j i = M f j i) ∧ (∀ h, h < 6 → MM 65 0 h ≤ 7) ∧ ∃ bu' : Nat → Prop, MM 7 0 3 = wBt (wDc bu') 6 ∧ sGt Z (fun p' l' => p' < p + 1 ∧ l' < Z.1 p') dt (M 68 0) (MM 65 0) (MM 66 0) (MM 67 0) (MM 7 0 4 ≠ 0) bu') := by
  refine cMeth (v := [(p : Int), 0]) (Fd := 90) hp (by decide) gX6_weigh_ok gX6_weigh_m0 (by simp [cAs, cE2, sev, svl, cen]) ?_
  suffices H : ∀ Po : List Int → SMem → Prop, (∀ rr MM, (rr = [] ∧ sI tg MM ∧ (∀ f j i, f ≠ 65 → f ≠ 67 → ¬ (f = 7 ∧ (i = 3 ∨ i = 4)) → MM f j i = M f j i) ∧ (∀ h, h < 6 → MM 65 0 h ≤ 7) ∧ ∃ bu' : Nat → Prop, MM 7 0 3 = wBt (wDc bu') 6 ∧ sGt Z (fun p' l' => p' < p + 1 ∧ l' < Z.1 p') dt (M 68 0) (MM 65 0) (MM 66 0) (MM 67 0) (MM 7 0 4 ≠ 0) bu') → Po rr MM) → cEnds (cBG tm tf EX l dC dI cA ad scrS (d + 1)) Po 90 gX6_weigh 0 [(p : Int), 0] M from H _ (fun _ _ h => h)
  intro Po hPo
  obtain ⟨z1, z2, z3⟩ := hZ
  have hls : ∀ k, 0 ≤ M 68 0 k ∧ M 68 0 k ≤ 6 := fun k => wIb (f := 68) (i := k) (lo := 0) (hi := 6) hI 0 rfl
  have l32 : ∀ (m ly : Nat), ly + m = Z.1 p → ∀ (M1 : SMem) (least : Int) (bu1 : Nat → Prop), (sI tg M1 ∧ (∀ f j i, f ≠ 65 → f ≠ 67 → ¬ (f = 7 ∧ (i = 3 ∨ i = 4)) → M1 f j i = M f j i) ∧ M1 7 0 3 = wBt (wDc bu1) 6 ∧ (∀ h, h < 6 → M1 65 0 h ≤ 7) ∧ sGt Z (fun p' l' => (p' < p ∧ l' < Z.1 p') ∨ (p' = p ∧ l' < ly)) dt (M 68 0) (M1 65 0) (M1 66 0) (M1 67 0) (M1 7 0 4 ≠ 0) bu1 ∧ (ly % 2 = 1 → least = M 68 0 (6 * p + ly - 1)) ∧ 0 ≤ least ∧ least ≤ 6) → cEnds (cBG tm tf EX l dC dI cA ad scrS (d + 1)) Po 90 gX6_weigh 32 [(p : Int), 0, (p : Int), (Z.1 p : Int), least, (ly : Int)] M1 := by
    intro m
    induction m with
    | zero =>
      intro ly hl M1 least bu1 hV
      obtain ⟨i1, f1, b1, u1, g1, -, -, -⟩ := hV
      refine cEnds_at gX6_weigh_m32 rfl ?_
      refine d_br (fun h => ?_) (fun h => ?_)
      · refine d_ret [] rfl (by decide) (hPo _ _ ⟨rfl, i1, f1, u1, bu1, b1, sGt_D (fun p' l' => ?_) g1⟩)
        constructor
        · rintro (q | ⟨rfl, q⟩)
          · exact ⟨by omega, q.2⟩
          · exact ⟨by omega, by omega⟩
        · rintro ⟨q1, q2⟩
          by_cases e : p' = p
          · subst e
            exact Or.inr ⟨rfl, by omega⟩
          · exact Or.inl ⟨by omega, q2⟩
      · simp only [cCmp, cE2, sev, svl, cen, List.cons_append, List.nil_append] at h
        omega
    | succ m ih =>
      intro ly hl M1 least bu1 hV
      obtain ⟨i1, f1, b1, u1, g1, le1, lo1, hi1⟩ := hV
      have hl6 : ly < 6 := by have := h6 p; omega
      have hlz : ly < Z.1 p := by omega
      obtain ⟨hh, ehh⟩ : ∃ hh : Nat, hh = Z.2.1 p ly := ⟨_, rfl⟩
      have hh6 : hh < 6 := by rw [ehh]; exact z1 p ly
      have e91 : M1 91 p ly = (hh : Int) := by rw [f1 91 p ly (by decide) (by decide) (by omega), hhd ly hlz, ehh]
      have e92 : M1 92 p ly = Z.2.2.1 p ly := by rw [f1 92 p ly (by decide) (by decide) (by omega), hdv ly hlz]
      have zl := z3 p ly hp9 hlz
      have c68 := hls (6 * p + ly)
      -- behind the layer
      have fin : ∀ (M4 : SMem) (least' : Int), sI tg M4 → (∀ f j i, f ≠ 65 → f ≠ 67 → ¬ (f = 7 ∧ (i = 3 ∨ i = 4)) → M4 f j i = M1 f j i) → M4 65 0 = wSt (M1 65 0) hh (sMx (M1 65 0 hh) (sFlr Z (M 68 0) p ly)) → M4 67 0 = (if 0 < ly then wSt (M1 67 0) (6 * Z.2.1 p (ly - 1) + hh) (sMx (M1 67 0 (6 * Z.2.1 p (ly - 1) + hh)) (sBy Z p ly)) else M1 67 0) → M4 7 0 3 = cfn 1 (M1 7 0 3) (cfn 2 1 (hh : Int)) → (M4 7 0 4 ≠ 0 ↔ (M1 7 0 4 ≠ 0 ∨ (ly % 2 = 0 ∧ M 68 0 (6 * p + ly) = 6))) → (ly % 2 = 0 → least' = M 68 0 (6 * p + ly)) → 0 ≤ least' → least' ≤ 6 → cEnds (cBG tm tf EX l dC dI cA ad scrS (d + 1)) Po 90 gX6_weigh 211 [(p : Int), 0, (p : Int), (Z.1 p : Int), least', (ly : Int)] M4 := by
        intro M4 least' i4 f4 r65 r67 r3 r4 hle hlo hhi
        refine cEnds_at gX6_weigh_m211 rfl ?_
        refine d_rng (by simp only [clo, chi, cE2, sev, svl, cen, List.cons_append, List.nil_append]; omega) ?_
        refine d_cut [(p : Int), 0, (p : Int), (Z.1 p : Int), least', ((ly + 1 : Nat) : Int)] (by simp [cE2, sev, svl, cen] <;> omega) ?_
        refine ih (ly + 1) (by omega) M4 least' (fun x => bu1 x ∨ x = hh) ⟨i4, fun f j i y1 y2 y3 => (f4 f j i y1 y2 y3).trans (f1 f j i y1 y2 y3), ?_, fun h hh' => ?_, ?_, fun z => ?_, hlo, hhi⟩
        · rw [r3, b1, wBt_or hh6]
        · rw [r65]
          by_cases e : h = hh
          · rw [e, wSt_at]
            have m := @sMx_c (M1 65 0 hh) (sFlr Z (M 68 0) p ly)
            have := u1 hh hh6
            have w : sFlr Z (M 68 0) p ly ≤ 7 := by
              unfold sFlr
              have := hls (6 * p + ly - 1)
              split
              · omega
              · split <;> omega
            omega
          · rw [wSt_ne e]
            exact u1 h hh'
        · have e66 : M4 66 0 = M1 66 0 := by
            funext k
            exact f4 66 0 k (by decide) (by decide) (by omega)
          rw [e66, r65, r67, ehh]
          refine sGt_add z1 (fun p' l' => ?_) r4 (fun _ _ => Iff.rfl) g1
          constructor
          · rintro (q | ⟨rfl, q⟩)
            · exact Or.inl (Or.inl q)
            · by_cases e : l' = ly
              · exact Or.inr ⟨rfl, e⟩
              · exact Or.inl (Or.inr ⟨rfl, by omega⟩)
          · rintro ((q | ⟨rfl, q⟩) | ⟨rfl, rfl⟩)
            · exact Or.inl q
            · exact Or.inr ⟨rfl, by omega⟩
            · exact Or.inr ⟨rfl, by omega⟩
        · rw [hle (by omega), show 6 * p + (ly + 1) - 1 = 6 * p + ly by omega]
      -- behind the hands and the step
      have s101 : ∀ Mb : SMem, sI tg Mb → (∀ f j i, f ≠ 67 → ¬ (f = 7 ∧ i = 3) → Mb f j i = M1 f j i) → Mb 67 0 = (if 0 < ly then wSt (M1 67 0) (6 * Z.2.1 p (ly - 1) + hh) (sMx (M1 67 0 (6 * Z.2.1 p (ly - 1) + hh)) (sBy Z p ly)) else M1 67 0) → Mb 7 0 3 = cfn 1 (M1 7 0 3) (cfn 2 1 (hh : Int)) → cEnds (cBG tm tf EX l dC dI cA ad scrS (d + 1)) Po 90 gX6_weigh 101 [(p : Int), 0, (p : Int), (Z.1 p : Int), least, (ly : Int), (hh : Int), Z.2.2.1 p ly] Mb := by
        intro Mb ib fb r67 r3
        have rb65 : Mb 65 0 = M1 65 0 := by
          funext k
          exact fb 65 0 k (by decide) (by omega)
        have d65 := wIb (f := 65) (i := hh) (lo := 0) (hi := 2147483647) ib 0 rfl
        have u65 := u1 hh hh6
        rw [← rb65] at u65
        have s193 : ∀ z : Int, ly % 2 = 0 → (0 ≤ z ∧ z ≤ 1) → (z ≠ 0 ↔ (M1 7 0 4 ≠ 0 ∨ (ly % 2 = 0 ∧ M 68 0 (6 * p + ly) = 6))) → cEnds (cBG tm tf EX l dC dI cA ad scrS (d + 1)) Po 90 gX6_weigh 193 [(p : Int), 0, (p : Int), (Z.1 p : Int), M 68 0 (6 * p + ly), (ly : Int), (hh : Int), Z.2.2.1 p ly] (supd Mb 7 0 4 z) := by
          intro z he hz hzz
          have ic : sI tg (supd Mb 7 0 4 z) := wI (lo := 0) (hi := 1) ib rfl hz
          have go : ∀ x : Int, x = sFlr Z (M 68 0) p ly → cEnds (cBG tm tf EX l dC dI cA ad scrS (d + 1)) Po 90 gX6_weigh 211 [(p : Int), 0, (p : Int), (Z.1 p : Int), M 68 0 (6 * p + ly), (ly : Int)] (supd (supd Mb 7 0 4 z) 65 0 hh (cfn 11 (supd Mb 7 0 4 z 65 0 hh) x)) := by
            intro x hx
            have w : 0 ≤ x ∧ x ≤ 7 := by
              rw [hx]
              unfold sFlr
              have := hls (6 * p + ly - 1)
              split
              · omega
              · split <;> omega
            have m := @sMx_c (Mb 65 0 hh) x
            refine fin _ _ (wI (lo := 0) (hi := 2147483647) ic rfl ?_) (fun f j i y1 y2 y3 => ?_) ?_ ?_ ?_ ?_ (fun _ => rfl) c68.1 c68.2
            · rw [supd_f (by decide)]
              show 0 ≤ sMx (Mb 65 0 hh) x ∧ sMx (Mb 65 0 hh) x ≤ 2147483647
              omega
            · rw [supd_f y1]
              by_cases e : f = 7 ∧ j = 0 ∧ i = 4
              · exact absurd ⟨e.1, Or.inr e.2.2⟩ y3
              · rw [show supd Mb 7 0 4 z f j i = Mb f j i from if_neg e, fb f j i y2 (fun q => y3 ⟨q.1, Or.inl q.2⟩)]
            · rw [supd_row, supd_f (by decide), show supd Mb 7 0 4 z 65 0 = M1 65 0 by rw [supd_ff (by decide), rb65], hx, ← rb65]
              rfl
            · rw [supd_ff (by decide), supd_ff (by decide), r67]
            · rw [supd_f (by decide), supd_i (by decide), r3]
            · rw [supd_f (by decide), supd_at]
              exact hzz
          refine cEnds_at gX6_weigh_m193 rfl ?_
          refine d_br (fun h => ?_) (fun h => ?_)
          · simp only [cCmp, cE2, sev, svl, cen, List.cons_append, List.nil_append] at h
            first
            | omega
            | skip
              refine d_call (b_raise hp (h := hh) (x := (M 68 0 (6 * p + ly))) hh6) (by simp [cAs, cE2, sev, svl, cen] <;> omega) ?_
              intro rr M' hq
              obtain ⟨rfl, hM'⟩ := hq
              rw [hM']
              refine ⟨rfl, ?_⟩
              refine d_cut [(p : Int), 0, (p : Int), (Z.1 p : Int), (M 68 0 (6 * p + ly)), (ly : Int)] (by simp [cE2, sev, svl, cen] <;> omega) ?_
              exact go _ (by unfold sFlr; rw [if_neg (by omega), if_neg (by omega)])
          · simp only [cCmp, cE2, sev, svl, cen, List.cons_append, List.nil_append] at h
            first
            | omega
            | skip
              refine d_call (b_raise hp (h := hh) (x := 0) hh6) (by simp [cAs, cE2, sev, svl, cen] <;> omega) ?_
              intro rr M' hq
              obtain ⟨rfl, hM'⟩ := hq
              rw [hM']
              refine ⟨rfl, ?_⟩
              refine d_cut [(p : Int), 0, (p : Int), (Z.1 p : Int), (M 68 0 (6 * p + ly)), (ly : Int)] (by simp [cE2, sev, svl, cen] <;> omega) ?_
              exact go _ (by unfold sFlr; rw [if_neg (by omega), if_pos (by omega)])
        have s170 : ly % 2 = 0 → cEnds (cBG tm tf EX l dC dI cA ad scrS (d + 1)) Po 90 gX6_weigh 170 [(p : Int), 0, (p : Int), (Z.1 p : Int), M 68 0 (6 * p + ly), (ly : Int), (hh : Int), Z.2.2.1 p ly] Mb := by
          intro he
          have e74 : Mb 7 0 4 = M1 7 0 4 := fb 7 0 4 (by decide) (by decide)
          refine cEnds_at gX6_weigh_m170 rfl ?_
          refine d_fld 0 (by simp only [cE2, sev, svl, cen, List.cons_append, List.nil_append]; omega) ?_
          rw [e74]
          refine d_br (fun h => ?_) (fun h => ?_)
          · simp only [cCmp, cE2, sev, svl, cen, List.cons_append, List.nil_append] at h
            first
            | omega
            | skip
              refine d_rng (by simp only [clo, chi, cE2, sev, svl, cen, List.cons_append, List.nil_append]; omega) ?_
              refine d_put 0 1 (by simp only [cE2, sev, svl, cen, List.cons_append, List.nil_append]; omega) (by simp only [cE2, sev, svl, cen, List.cons_append, List.nil_append]; omega) ?_
              refine d_cut [(p : Int), 0, (p : Int), (Z.1 p : Int), (M 68 0 (6 * p + ly)), (ly : Int), (hh : Int), (Z.2.2.1 p ly)] (by simp [cE2, sev, svl, cen] <;> omega) ?_
              exact s193 1 he ⟨by omega, by omega⟩ (by omega)
          · simp only [cCmp, cE2, sev, svl, cen, List.cons_append, List.nil_append] at h
            first
            | omega
            | skip
              refine d_br (fun h => ?_) (fun h => ?_)
              · simp only [cCmp, cE2, sev, svl, cen, List.cons_append, List.nil_append] at h
                first
                | omega
                | skip
                  refine d_rng (by simp only [clo, chi, cE2, sev, svl, cen, List.cons_append, List.nil_append]; omega) ?_
                  refine d_put 0 0 (by simp only [cE2, sev, svl, cen, List.cons_append, List.nil_append]; omega) (by simp only [cE2, sev, svl, cen, List.cons_append, List.nil_append]; omega) ?_
                  refine d_cut [(p : Int), 0, (p : Int), (Z.1 p : Int), (M 68 0 (6 * p + ly)), (ly : Int), (hh : Int), (Z.2.2.1 p ly)] (by simp [cE2, sev, svl, cen] <;> omega) ?_
                  exact s193 0 he ⟨by omega, by omega⟩ (by omega)
              · simp only [cCmp, cE2, sev, svl, cen, List.cons_append, List.nil_append] at h
                first
                | omega
                | skip
                  refine d_rng (by simp only [clo, chi, cE2, sev, svl, cen, List.cons_append, List.nil_append]; omega) ?_
                  refine d_put 0 1 (by simp only [cE2, sev, svl, cen, List.cons_append, List.nil_append]; omega) (by simp only [cE2, sev, svl, cen, List.cons_append, List.nil_append]; omega) ?_
                  refine d_cut [(p : Int), 0, (p : Int), (Z.1 p : Int), (M 68 0 (6 * p + ly)), (ly : Int), (hh : Int), (Z.2.2.1 p ly)] (by simp [cE2, sev, svl, cen] <;> omega) ?_
                  exact s193 1 he ⟨by omega, by omega⟩ (by omega)
        have e68 : Mb 68 0 (6 * p + ly) = M 68 0 (6 * p + ly) := by rw [fb 68 0 _ (by decide) (by omega), f1 68 0 _ (by decide) (by decide) (by omega)]
        have s142 : ly % 2 = 0 → cEnds (cBG tm tf EX l dC dI cA ad scrS (d + 1)) Po 90 gX6_weigh 142 [(p : Int), 0, (p : Int), (Z.1 p : Int), (ly : Int), (hh : Int), Z.2.2.1 p ly, 0] Mb := by
          intro he
          refine cEnds_at gX6_weigh_m142 rfl ?_
          refine d_br (fun h => ?_) (fun h => ?_)
          · clear h
            refine d_rng (by simp only [clo, chi, cE2, sev, svl, cen, List.cons_append, List.nil_append]; omega) ?_
            refine d_rng (by simp only [clo, chi, cE2, sev, svl, cen, List.cons_append, List.nil_append]; omega) ?_
            refine d_row 0 (6 * p + ly) (by simp only [cE2, sev, svl, cen, List.cons_append, List.nil_append]; omega) (by simp only [cE2, sev, svl, cen, List.cons_append, List.nil_append]; omega) (by omega) ?_
            rw [e68]
            refine d_cut [(p : Int), 0, (p : Int), (Z.1 p : Int), (M 68 0 (6 * p + ly)), (ly : Int), (hh : Int), (Z.2.2.1 p ly)] (by simp [cE2, sev, svl, cen] <;> omega) ?_
            exact s170 he
          · simp only [cCmp, cE2, sev, svl, cen, List.cons_append, List.nil_append] at h
            omega
        have finE : ly % 2 = 1 → cEnds (cBG tm tf EX l dC dI cA ad scrS (d + 1)) Po 90 gX6_weigh 211 [(p : Int), 0, (p : Int), (Z.1 p : Int), least, (ly : Int)] (supd Mb 65 0 hh (cfn 11 (Mb 65 0 hh) (least + 1))) := by
          intro ho
          have m := @sMx_c (Mb 65 0 hh) (least + 1)
          have ex : least + 1 = sFlr Z (M 68 0) p ly := by
            unfold sFlr
            rw [if_pos ho, le1 ho]
          refine fin _ _ (wI (lo := 0) (hi := 2147483647) ib rfl ?_) (fun f j i y1 y2 y3 => ?_) ?_ ?_ ?_ ?_ (fun z => by omega) lo1 hi1
          · show 0 ≤ sMx (Mb 65 0 hh) (least + 1) ∧ sMx (Mb 65 0 hh) (least + 1) ≤ 2147483647
            omega
          · rw [supd_f y1, fb f j i y2 (fun q => y3 ⟨q.1, Or.inl q.2⟩)]
          · rw [supd_row, rb65, ← ex]
            rfl
          · rw [supd_ff (by decide), r67]
          · rw [supd_f (by decide), r3]
          · rw [supd_f (by decide), fb 7 0 4 (by decide) (by decide)]
            exact ⟨Or.inl, fun z => z.elim id (fun z => by omega)⟩
        refine cEnds_at gX6_weigh_m101 rfl ?_
        refine d_call (b_isErasure hp (x := (Z.2.2.1 p ly))) (by simp [cAs, cE2, sev, svl, cen] <;> omega) ?_
        intro rr M' hq
        obtain ⟨hM', hq⟩ := hq
        rw [hM']
        rcases hq with ⟨rfl, q8⟩ | ⟨rfl, q8⟩
        · refine ⟨rfl, ?_⟩
          refine d_br (fun h => ?_) (fun h => ?_)
          · simp only [cCmp, cE2, sev, svl, cen, List.cons_append, List.nil_append] at h
            omega
          · clear h
            refine d_rng (by simp only [clo, chi, cE2, sev, svl, cen, List.cons_append, List.nil_append]; omega) ?_
            refine d_call (b_raise hp (h := hh) (x := (least + 1)) hh6) (by simp [cAs, cE2, sev, svl, cen] <;> omega) ?_
            intro rr M' hq
            obtain ⟨rfl, hM'⟩ := hq
            rw [hM']
            refine ⟨rfl, ?_⟩
            refine d_cut [(p : Int), 0, (p : Int), (Z.1 p : Int), least, (ly : Int)] (by simp [cE2, sev, svl, cen] <;> omega) ?_
            exact finE (by omega)
        · refine ⟨rfl, ?_⟩
          refine d_br (fun h => ?_) (fun h => ?_)
          · clear h
            refine d_br (fun h => ?_) (fun h => ?_)
            · clear h
              refine d_cut [(p : Int), 0, (p : Int), (Z.1 p : Int), (ly : Int), (hh : Int), (Z.2.2.1 p ly), 0] (by simp [cE2, sev, svl, cen] <;> omega) ?_
              exact s142 (by omega)
            · simp only [cCmp, cE2, sev, svl, cen, List.cons_append, List.nil_append] at h
              omega
          · simp only [cCmp, cE2, sev, svl, cen, List.cons_append, List.nil_append] at h
            omega
      obtain ⟨a, ea⟩ : ∃ a : Nat, a = Z.2.1 p (ly - 1) := ⟨_, rfl⟩
      have ha6 : a < 6 := by rw [ea]; exact z1 p (ly - 1)
      have e91' : 0 < ly → M1 91 p (ly - 1) = (a : Int) := fun z => by rw [f1 91 p (ly - 1) (by decide) (by decide) (by omega), hhd (ly - 1) (by omega), ea]
      have ja : sI tg (supd M1 7 0 3 (cfn 1 (M1 7 0 3) (cfn 2 1 (hh : Int)))) := wI (lo := -2147483648) (hi := 2147483647) i1 rfl (i32r _)
      have stp : ∀ x : Int, 0 < ly → x = sBy Z p ly → cEnds (cBG tm tf EX l dC dI cA ad scrS (d + 1)) Po 90 gX6_weigh 101 [(p : Int), 0, (p : Int), (Z.1 p : Int), least, (ly : Int), (hh : Int), Z.2.2.1 p ly] (supd (supd M1 7 0 3 (cfn 1 (M1 7 0 3) (cfn 2 1 (hh : Int)))) 67 0 (6 * a + hh) (cfn 11 (supd M1 7 0 3 (cfn 1 (M1 7 0 3) (cfn 2 1 (hh : Int))) 67 0 (6 * a + hh)) x)) := by
        intro x h0 hx
        have bx : 0 ≤ x ∧ x ≤ 1 := by
          rw [hx]
          unfold sBy
          split <;> omega
        have b67 := wIb (f := 67) (i := 6 * a + hh) (lo := -1) (hi := 1) i1 0 rfl
        have m := @sMx_c (M1 67 0 (6 * a + hh)) x
        refine s101 _ (wI (lo := -1) (hi := 1) ja rfl ?_) (fun f j i y1 y2 => ?_) ?_ ?_
        · rw [supd_f (by decide)]
          show -1 ≤ sMx (M1 67 0 (6 * a + hh)) x ∧ sMx (M1 67 0 (6 * a + hh)) x ≤ 1
          omega
        · rw [supd_f y1]
          exact if_neg (fun q => y2 ⟨q.1, q.2.2⟩)
        · rw [supd_row, if_pos h0, ← ea, ← hx, supd_f (by decide), supd_ff (by decide)]
          rfl
        · rw [supd_f (by decide), supd_at]
      refine cEnds_at gX6_weigh_m32 rfl ?_
      refine d_br (fun h => ?_) (fun h => ?_)
      · simp only [cCmp, cE2, sev, svl, cen, List.cons_append, List.nil_append] at h
        first
        | omega
        | skip
          exact d_ret [] rfl (by decide) (by omega)
      · simp only [cCmp, cE2, sev, svl, cen, List.cons_append, List.nil_append] at h
        first
        | omega
        | skip
          refine d_row p ly (by simp only [cE2, sev, svl, cen, List.cons_append, List.nil_append]; omega) (by simp only [cE2, sev, svl, cen, List.cons_append, List.nil_append]; omega) (by omega) ?_
          rw [e91]
          refine d_row p ly (by simp only [cE2, sev, svl, cen, List.cons_append, List.nil_append]; omega) (by simp only [cE2, sev, svl, cen, List.cons_append, List.nil_append]; omega) (by omega) ?_
          rw [e92]
          refine d_fld 0 (by simp only [cE2, sev, svl, cen, List.cons_append, List.nil_append]; omega) ?_
          refine d_opw 1 (hh : Int) (by simp [cE2, sev, svl, cen] <;> omega) (by simp [cE2, sev, svl, cen] <;> omega) ?_
          refine d_opw (M1 7 0 3) (cfn 2 1 (hh : Int)) (by simp [cE2, sev, svl, cen] <;> omega) (by simp [cE2, sev, svl, cen] <;> omega) ?_
          refine d_put 0 (cfn 1 (M1 7 0 3) (cfn 2 1 (hh : Int))) (by simp only [cE2, sev, svl, cen, List.cons_append, List.nil_append]; omega) (by simp only [cE2, sev, svl, cen, List.cons_append, List.nil_append]; omega) ?_
          refine d_br (fun h => ?_) (fun h => ?_)
          · simp only [cCmp, cE2, sev, svl, cen, List.cons_append, List.nil_append] at h
            first
            | omega
            | skip
              refine d_cut [(p : Int), 0, (p : Int), (Z.1 p : Int), least, (ly : Int), (hh : Int), (Z.2.2.1 p ly)] (by simp [cE2, sev, svl, cen] <;> omega) ?_
              exact s101 _ ja (fun f j i _ y2 => if_neg (fun q => y2 ⟨q.1, q.2.2⟩)) (by rw [supd_ff (by decide), if_neg (by omega)]) (supd_at _ _ _ _ _)
          · simp only [cCmp, cE2, sev, svl, cen, List.cons_append, List.nil_append] at h
            first
            | omega
            | skip
              refine d_rng (by simp only [clo, chi, cE2, sev, svl, cen, List.cons_append, List.nil_append]; omega) ?_
              refine d_row p (ly - 1) (by simp only [cE2, sev, svl, cen, List.cons_append, List.nil_append]; omega) (by simp only [cE2, sev, svl, cen, List.cons_append, List.nil_append]; omega) (by omega) ?_
              rw [supd_f (by decide)]
              rw [e91' (by omega)]
              refine d_br (fun h => ?_) (fun h => ?_)
              · simp only [cCmp, cE2, sev, svl, cen, List.cons_append, List.nil_append] at h
                first
                | omega
                | skip
                  refine d_call (b_addStep hp (a := a) (b := hh) (x := 0) ha6 hh6) (by simp [cAs, cE2, sev, svl, cen] <;> omega) ?_
                  intro rr M' hq
                  obtain ⟨rfl, hM'⟩ := hq
                  rw [hM']
                  refine ⟨rfl, ?_⟩
                  refine d_cut [(p : Int), 0, (p : Int), (Z.1 p : Int), least, (ly : Int), (hh : Int), (Z.2.2.1 p ly)] (by simp [cE2, sev, svl, cen] <;> omega) ?_
                  exact stp 0 (by omega) (by unfold sBy; rw [if_neg (by omega)])
              · simp only [cCmp, cE2, sev, svl, cen, List.cons_append, List.nil_append] at h
                first
                | omega
                | skip
                  refine d_call (b_addStep hp (a := a) (b := hh) (x := 1) ha6 hh6) (by simp [cAs, cE2, sev, svl, cen] <;> omega) ?_
                  intro rr M' hq
                  obtain ⟨rfl, hM'⟩ := hq
                  rw [hM']
                  refine ⟨rfl, ?_⟩
                  refine d_cut [(p : Int), 0, (p : Int), (Z.1 p : Int), least, (ly : Int), (hh : Int), (Z.2.2.1 p ly)] (by simp [cE2, sev, svl, cen] <;> omega) ?_
                  exact stp 1 (by omega) (by unfold sBy; rw [if_pos (by omega)])
  refine cEnds_at gX6_weigh_m0 rfl ?_
  refine d_idx (by simp only [cE2, sev, svl, cen, List.cons_append, List.nil_append]; omega) ?_
  refine d_br (fun h => ?_) (fun h => ?_)
  · clear h
    refine d_fld p (by simp only [cE2, sev, svl, cen, List.cons_append, List.nil_append]; omega) ?_
    rw [hsz]
    refine d_cut [(p : Int), 0, (p : Int), (Z.1 p : Int), 0, ((0 : Nat) : Int)] (by simp [cE2, sev, svl, cen] <;> omega) ?_
    exact l32 (Z.1 p) 0 (by omega) M 0 bu ⟨hI, fun _ _ _ _ _ _ => rfl, hbu, hfl, sGt_D (fun p' l' => ⟨Or.inl, fun z => z.elim id (fun z => absurd z.2 (Nat.not_lt_zero _))⟩) hG, fun z => by omega, by omega, by omega⟩
  · simp only [cCmp, cE2, sev, svl, cen, List.cons_append, List.nil_append] at h
    omega
end CS5
