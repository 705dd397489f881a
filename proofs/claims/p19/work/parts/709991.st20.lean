/-! stories: what the tellers do with what was found out -/
def sFl (M : SMem) : Prop := M 7 0 15 = 0 ∧ M 7 0 16 = 0 ∧ M 7 0 17 = -1
def sFm (M : SMem) (r : Int) (MM : SMem) : Prop := (r = 0 → MM 1 0 28 = 1 ∧ MM 1 0 34 = M 1 0 34) ∧ (r ≠ 0 → ∀ i, i ≠ 0 → i ≠ 2 → i ≠ 10 → i ≠ 11 → MM 1 0 i = M 1 0 i)
theorem sFl_cg {M MM : SMem} (h : ∀ i, MM 7 0 i = M 7 0 i) (hk : sFl M) : sFl MM := by
  unfold sFl
  rw [h 15, h 16, h 17]
  exact hk
section CS20
variable {EX : SEx} {l : Launch} {dC : Nat → ClassId} {dI : Nat → Nat → Nat} {cA : Nat → ClassId} {ad : SAd} {scrS d : Nat}
theorem b_forget6x (hp : cPl tm tc tf EX) {M : SMem} : cBG tm tf EX l dC dI cA ad scrS (d + 1) kX6_forget [(2, 7, 0)] M (fun rr MM => rr = [] ∧ MM = supd (supd (supd M 7 0 15 0) 7 0 16 0) 7 0 17 (-1)) := by
  refine cMeth (v := []) (Fd := 90) hp (by decide) gX6_forget_ok gX6_forget_m0 (by simp [cAs, cE2, sev, svl, cen]) ?_
  refine cEnds_at gX6_forget_m0 rfl ?_
  refine d_rng (by simp only [clo, chi, cE2, sev, svl, cen, List.cons_append, List.nil_append]; omega) ?_
  refine d_put 0 0 (by simp only [cE2, sev, svl, cen, List.cons_append, List.nil_append]; omega) (by simp only [cE2, sev, svl, cen, List.cons_append, List.nil_append]; omega) ?_
  refine d_rng (by simp only [clo, chi, cE2, sev, svl, cen, List.cons_append, List.nil_append]; omega) ?_
  refine d_put 0 0 (by simp only [cE2, sev, svl, cen, List.cons_append, List.nil_append]; omega) (by simp only [cE2, sev, svl, cen, List.cons_append, List.nil_append]; omega) ?_
  refine d_put 0 (-1) (by simp only [cE2, sev, svl, cen, List.cons_append, List.nil_append]; omega) (by simp only [cE2, sev, svl, cen, List.cons_append, List.nil_append]; omega) ?_
  exact d_ret [] rfl (by decide) ⟨rfl, rfl⟩
theorem sFl_x {M : SMem} : sFl (supd (supd (supd M 7 0 15 0) 7 0 16 0) 7 0 17 (-1)) := ⟨by rw [supd_i (by decide), supd_i (by decide), supd_at], by rw [supd_i (by decide), supd_at], supd_at _ _ _ _ _⟩
theorem b_forgetF2 (hp : cPl tm tc tf EX) {M : SMem} (hI : sI tg M) : cBG tm tf EX l dC dI cA ad scrS (d + 2) kX9_forgetFindings [(2, 0, 0)] M (fun rr MM => rr = [] ∧ sI tg MM ∧ (∀ f j i, f ≠ 7 → f ≠ 10 → MM f j i = M f j i) ∧ sFl MM) := by
  refine cMeth (v := []) (Fd := 40) hp (by decide) gX9_forgetFindings_ok gX9_forgetFindings_m0 (by simp [cAs, cE2, sev, svl, cen]) ?_
  refine cEnds_at gX9_forgetFindings_m0 rfl ?_
  refine d_call (b_forget6x hp) (by simp [cAs, cE2, sev, svl, cen]) ?_
  rintro rr M1 ⟨rfl, e1⟩
  have i1 : sI tg M1 := by rw [e1]; exact wI (lo := -1) (hi := 2147483646) (wI (lo := 0) (hi := 1) (wI (lo := 0) (hi := 1) hI rfl ⟨by omega, by omega⟩) rfl ⟨by omega, by omega⟩) rfl ⟨by omega, by omega⟩
  refine ⟨rfl, ?_⟩
  refine d_call (b_forget5 hp i1) (by simp [cAs, cE2, sev, svl, cen]) ?_
  rintro rr M2 ⟨rfl, i2, f2⟩
  refine ⟨rfl, ?_⟩
  exact d_ret [] rfl (by decide) ⟨rfl, i2, fun f j i q1 q2 => by rw [f2 f j i q2, e1, supd_f q1, supd_f q1, supd_f q1], sFl_cg (fun i => f2 7 0 i (by decide)) (by rw [e1]; exact sFl_x)⟩
theorem b_tellName2 (hp : cPl tm tc tf EX) {M : SMem} {n : Nat} {a g s : Int} (hI : sI tg M) (hn : M 3 0 1 = (n : Int)) (h9 : n ≤ 1000) (hs : 0 ≤ s ∧ s ≤ 1) : cBG tm tf EX l dC dI cA ad scrS (d + 3) kX9_tellName [(2, 0, 0), (0, 0, a), (0, 0, g), (0, 0, s)] M (fun rr MM => ∃ r : Int, rr = [r] ∧ wNx M n a g s r MM ∧ ((r = 0 → sFl MM) ∧ (r ≠ 0 → ∀ f j i, ¬ (f = 3 ∧ (i = 2 ∨ i = 3)) → MM f j i = M f j i))) := by
  refine cMeth (v := [a, g, s]) (Fd := 60) hp (by decide) gX9_tellName_ok gX9_tellName_m0 (by simp [cAs, cE2, sev, svl, cen]) ?_
  refine cEnds_at gX9_tellName_m0 rfl ?_
  have hno : ¬ (0 ≤ a ∧ a < 8 ∧ 0 ≤ g ∧ g < 6) → wNx M n a g s (-1) M := fun q => ⟨hI, fun _ _ _ _ _ _ _ => rfl, Or.inl ⟨rfl, q⟩, ⟨fun z => by omega, fun _ => ⟨rfl, rfl, rfl, rfl, rfl⟩⟩, fun z => by omega, fun _ => rfl⟩
  refine d_call (b_isBelow hp (x := a) (y := 8)) (by simp [cAs, cE2, sev, svl, cen]) ?_
  rintro rr M' ⟨rfl, hb⟩
  rcases hb with ⟨rfl, ha⟩ | ⟨rfl, ha⟩
  · refine ⟨rfl, ?_⟩
    refine d_br (fun h => ?_) (fun h => ?_)
    · simp only [cCmp, cE2, sev, svl, cen, List.cons_append, List.nil_append] at h
      omega
    · refine d_call (b_isBelow hp (x := g) (y := 6)) (by simp [cAs, cE2, sev, svl, cen]) ?_
      rintro rr M' ⟨rfl, hb⟩
      rcases hb with ⟨rfl, hg⟩ | ⟨rfl, hg⟩
      · refine ⟨rfl, ?_⟩
        refine d_br (fun h => ?_) (fun h => ?_)
        · refine d_call (b_trim hp hn h9 hI) (by simp [cAs, cE2, sev, svl, cen]) ?_
          rintro rr M1 ⟨rfl, i1, f1, e2, e3⟩
          refine ⟨rfl, ?_⟩
          have e2 : M1 3 0 2 = (wf (M' 57 0) n : Int) := e2
          have e3 : M1 3 0 3 = (wu (M' 57 0) n : Int) := e3
          have hfu := wfu (M' 57 0) n
          have r1 : ∀ f, f ≠ 3 → M1 f = M' f := fun f q => by
            funext j i
            exact f1 f j i (fun z => q z.1)
          refine d_call (b_isText hp (s := 0) e2 e3 (by omega)) (by simp [cAs, cE2, sev, svl, cen]) ?_
          rintro rr M2 ⟨rfl, hb⟩
          rw [r1 57 (by decide)] at hb
          rcases hb with ⟨rfl, ht⟩ | ⟨rfl, ht⟩
          · refine ⟨rfl, ?_⟩
            refine d_br (fun h => ?_) (fun h => ?_)
            · obtain ⟨nm, rfl⟩ : ∃ nm : Nat, a = (nm : Int) := ⟨a.toNat, by omega⟩
              refine d_call (b_isOthers hp (nm := nm) i1 (by omega) e2 e3 (by omega)) (by simp [cAs, cE2, sev, svl, cen]) ?_
              rintro rr M3 ⟨rfl, hb⟩
              rw [r1 57 (by decide), r1 58 (by decide), r1 61 (by decide), r1 63 (by decide)] at hb
              rcases hb with ⟨rfl, ho⟩ | ⟨rfl, ho⟩
              · refine ⟨rfl, ?_⟩
                refine d_br (fun h => ?_) (fun h => ?_)
                · simp only [cCmp, cE2, sev, svl, cen, List.cons_append, List.nil_append] at h
                  omega
                · refine d_ret [2] rfl (by decide) ⟨2, rfl, ⟨i1, fun f j i q _ _ _ => f1 f j i (fun z => q z.1), Or.inr ⟨by omega, Or.inr ⟨ht, Or.inl ⟨rfl, ho⟩⟩⟩, ⟨fun z => by omega, fun _ => ⟨?_, ?_, ?_, ?_, ?_⟩⟩, fun z => by omega, fun _ => ?_⟩, fun z => by omega, fun _ => f1⟩ <;> rw [r1 _ (by decide)]
              · refine ⟨rfl, ?_⟩
                refine d_br (fun h => ?_) (fun h => ?_)
                · refine d_call (b_tell hp (nm := nm) i1 (by omega) e2 e3 ⟨ht.1, ht.2.1, by omega⟩) (by simp [cAs, cE2, sev, svl, cen]) ?_
                  rintro rr M4 ⟨rfl, i4, f4, q58, q61, q62, q63⟩
                  refine ⟨rfl, ?_⟩
                  rw [r1 57 (by decide)] at q62 q63
                  rw [r1 58 (by decide)] at q58
                  rw [r1 61 (by decide)] at q61
                  rw [r1 62 (by decide)] at q62
                  rw [r1 63 (by decide)] at q63
                  have q59 : M4 59 0 = M' 59 0 := by
                    funext i
                    rw [f4 59 0 i (by decide) (by decide) (by decide) (by decide), r1 59 (by decide)]
                  have q60 : M4 60 0 = M' 60 0 := by
                    funext i
                    rw [f4 60 0 i (by decide) (by decide) (by decide) (by decide), r1 60 (by decide)]
                  refine d_set 0 nm g (by simp only [cE2, sev, svl, cen, List.cons_append, List.nil_append]; omega) (by simp only [cE2, sev, svl, cen, List.cons_append, List.nil_append]; omega) (by omega) (by simp only [cE2, sev, svl, cen, List.cons_append, List.nil_append]; omega) ?_
                  refine d_rng (by simp only [clo, chi, cE2, sev, svl, cen, List.cons_append, List.nil_append]; omega) ?_
                  refine d_set 0 nm s (by simp only [cE2, sev, svl, cen, List.cons_append, List.nil_append]; omega) (by simp only [cE2, sev, svl, cen, List.cons_append, List.nil_append]; omega) (by omega) (by simp only [cE2, sev, svl, cen, List.cons_append, List.nil_append]; omega) ?_
                  have i5 : sI tg (supd (supd M4 60 0 nm g) 59 0 nm s) := wI (lo := 0) (hi := 1) (wI (lo := 0) (hi := 5) i4 rfl ⟨by omega, by omega⟩) rfl hs
                  refine d_call (b_forgetF2 hp i5) (by simp [cAs, cE2, sev, svl, cen]) ?_
                  rintro rr M6 ⟨rfl, i6, f6, k6⟩
                  refine ⟨rfl, ?_⟩
                  have r6 : ∀ f, f ≠ 7 → f ≠ 10 → M6 f 0 = supd (supd M4 60 0 nm g) 59 0 nm s f 0 := fun f z1 z2 => by
                    funext i
                    exact f6 f 0 i z1 z2
                  refine d_ret [0] rfl (by decide) ⟨0, rfl, ⟨i6, fun f j i z1 z2 z3 z4 => ?_, Or.inr ⟨by omega, Or.inr ⟨ht, Or.inr ⟨rfl, ho⟩⟩⟩, ⟨fun _ => ⟨?_, ?_, ?_, ?_, ?_⟩, fun z => absurd rfl z⟩, fun _ => ?_, fun z => absurd rfl z⟩, fun _ => k6, fun z => absurd rfl z⟩
                  · rw [f6 f j i z2 z3, supd_f (by omega), supd_f (by omega), f4 f j i (by omega) (by omega) (by omega) (by omega), f1 f j i (fun z => z1 z.1)]
                  · rw [r6 58 (by decide) (by decide), supd_ff (by decide), supd_ff (by decide), q58]; rfl
                  · rw [r6 59 (by decide) (by decide), supd_row, supd_ff (by decide), q59]; rfl
                  · rw [r6 60 (by decide) (by decide), supd_ff (by decide), supd_row, q60]; rfl
                  · rw [r6 61 (by decide) (by decide), supd_ff (by decide), supd_ff (by decide), q61]
                    show wSt _ nm _ = wSt _ nm _
                    congr 1
                    omega
                  · rw [r6 63 (by decide) (by decide), supd_ff (by decide), supd_ff (by decide), q63]; rfl
                  · rw [r6 62 (by decide) (by decide), supd_ff (by decide), supd_ff (by decide), q62]; rfl
                · simp only [cCmp, cE2, sev, svl, cen, List.cons_append, List.nil_append] at h
                  omega
            · simp only [cCmp, cE2, sev, svl, cen, List.cons_append, List.nil_append] at h
              omega
          · refine ⟨rfl, ?_⟩
            refine d_br (fun h => ?_) (fun h => ?_)
            · simp only [cCmp, cE2, sev, svl, cen, List.cons_append, List.nil_append] at h
              omega
            · refine d_ret [1] rfl (by decide) ⟨1, rfl, ⟨i1, fun f j i q _ _ _ => f1 f j i (fun z => q z.1), Or.inr ⟨by omega, Or.inl ⟨rfl, ht⟩⟩, ⟨fun z => by omega, fun _ => ⟨?_, ?_, ?_, ?_, ?_⟩⟩, fun z => by omega, fun _ => ?_⟩, fun z => by omega, fun _ => f1⟩ <;> rw [r1 _ (by decide)]
        · simp only [cCmp, cE2, sev, svl, cen, List.cons_append, List.nil_append] at h
          omega
      · refine ⟨rfl, ?_⟩
        refine d_br (fun h => ?_) (fun h => ?_)
        · simp only [cCmp, cE2, sev, svl, cen, List.cons_append, List.nil_append] at h
          omega
        · exact d_ret [-1] rfl (by decide) ⟨-1, rfl, hno (by omega), fun z => by omega, fun _ _ _ _ _ => rfl⟩
  · refine ⟨rfl, ?_⟩
    refine d_br (fun h => ?_) (fun h => ?_)
    · exact d_ret [-1] rfl (by decide) ⟨-1, rfl, hno (by omega), fun z => by omega, fun _ _ _ _ _ => rfl⟩
    · simp only [cCmp, cE2, sev, svl, cen, List.cons_append, List.nil_append] at h
      omega
theorem b_name2 (hp : cPl tm tc tf EX) {M : SMem} {n : Nat} {a g s : Int} (hI : sI tg M) (hn : M 3 0 1 = (n : Int)) (h9 : n ≤ 1000) (hs : 0 ≤ s ∧ s ≤ 1) : cBG tm tf EX l dC dI cA ad scrS (d + 4) kX9_name [(2, 0, 0), (0, 0, a), (0, 0, g), (0, 0, s)] M (fun rr MM => ∃ r : Int, rr = [r] ∧ wNx M n a g s r MM ∧ MM 3 0 1 = 0 ∧ -1 ≤ r ∧ r ≤ 2 ∧ (r = 0 → sFl MM) ∧ (r ≠ 0 → ∀ f j i, f ≠ 3 → MM f j i = M f j i)) := by
  refine cMeth (v := [a, g, s]) (Fd := 60) hp (by decide) gX9_name_ok gX9_name_m0 (by simp [cAs, cE2, sev, svl, cen]) ?_
  refine cEnds_at gX9_name_m0 rfl ?_
  refine d_call (b_tellName2 hp (a := a) (g := g) (s := s) hI hn h9 hs) (by simp [cAs, cE2, sev, svl, cen]) ?_
  rintro rr M1 ⟨r, rfl, ⟨i1, f1, h3, h4, h5, h6⟩, k1, k2⟩
  refine ⟨rfl, ?_⟩
  have hb : -1 ≤ r ∧ r ≤ 2 := by
    rcases h3 with ⟨q, -⟩ | ⟨-, ⟨q, -⟩ | ⟨-, ⟨q, -⟩ | ⟨q, -⟩⟩⟩ <;> omega
  refine d_put 0 0 rfl rfl ?_
  refine d_ret [r] (by simp [cE2, sev, svl, cen]) (fun x hx => by rw [List.mem_singleton.mp hx]; simp only [clo, chi]; omega) ⟨r, rfl, ⟨wI (lo := 0) (hi := 1000) i1 rfl ⟨by omega, by omega⟩, fun f j i q1 q2 q3 q4 => by rw [supd_f q1, f1 f j i q1 q2 q3 q4], h3, ?_, ?_, ?_⟩, supd_at _ _ _ _ _, hb.1, hb.2, fun z => sFl_cg (fun i => supd_f (by decide)) (k1 z), fun z f j i y => by rw [supd_f y, k2 z f j i (fun q => y q.1)]⟩
  · rw [supd_ff (by decide), supd_ff (by decide), supd_ff (by decide), supd_ff (by decide), supd_ff (by decide)]
    exact h4
  · rw [supd_ff (by decide)]
    exact h5
  · rw [supd_ff (by decide)]
    exact h6
theorem b_place2 (hp : cPl tm tc tf EX) {a s hh o g : Int} {M : SMem} (hI : sI tg M) : cBG tm tf EX l dC dI cA ad scrS (d + 3) kX9_place [(2, 0, 0), (0, 0, a), (0, 0, s), (0, 0, hh), (0, 0, o), (0, 0, g)] M (fun rr MM => sI tg MM ∧ ((((0 ≤ a ∧ a < 12) ∧ (1 ≤ s ∧ s ≤ 24) ∧ (0 ≤ hh ∧ hh ≤ 99) ∧ (0 ≤ o ∧ o ≤ 3) ∧ (0 ≤ g ∧ g ≤ 2)) ∧ rr = [1] ∧ (∀ f j i, f ≠ 7 → f ≠ 10 → MM f j i = wTell M a.toNat s hh o g f j i) ∧ sFl MM) ∨ (¬ ((0 ≤ a ∧ a < 12) ∧ (1 ≤ s ∧ s ≤ 24) ∧ (0 ≤ hh ∧ hh ≤ 99) ∧ (0 ≤ o ∧ o ≤ 3) ∧ (0 ≤ g ∧ g ≤ 2)) ∧ rr = [0] ∧ MM = M))) := by
  refine cMeth (v := [a, s, hh, o, g]) (Fd := 90) hp (by decide) gX9_place_ok gX9_place_m0 (by simp [cAs, cE2, sev, svl, cen]) ?_
  refine cEnds_at gX9_place_m0 rfl ?_
  refine d_call (b_isBelow hp (x := a) (y := 12)) (by simp [cAs, cE2, sev, svl, cen] <;> omega) ?_
  intro rr M' hq
  obtain ⟨hM', hq⟩ := hq
  rw [hM']
  rcases hq with ⟨rfl, q5⟩ | ⟨rfl, q5⟩
  · refine ⟨rfl, ?_⟩
    refine d_br (fun h => ?_) (fun h => ?_)
    · simp only [cCmp, cE2, sev, svl, cen, List.cons_append, List.nil_append] at h
      omega
    · clear h
      refine d_br (fun h => ?_) (fun h => ?_)
      · simp only [cCmp, cE2, sev, svl, cen, List.cons_append, List.nil_append] at h
        first
        | omega
        | skip
          exact d_ret [0] rfl (by decide) ⟨hI, Or.inr ⟨by omega, rfl, rfl⟩⟩
      · simp only [cCmp, cE2, sev, svl, cen, List.cons_append, List.nil_append] at h
        first
        | omega
        | skip
          refine d_br (fun h => ?_) (fun h => ?_)
          · simp only [cCmp, cE2, sev, svl, cen, List.cons_append, List.nil_append] at h
            first
            | omega
            | skip
              exact d_ret [0] rfl (by decide) ⟨hI, Or.inr ⟨by omega, rfl, rfl⟩⟩
          · simp only [cCmp, cE2, sev, svl, cen, List.cons_append, List.nil_append] at h
            first
            | omega
            | skip
              refine d_call (b_isBelow hp (x := hh) (y := 100)) (by simp [cAs, cE2, sev, svl, cen] <;> omega) ?_
              intro rr M' hq
              obtain ⟨hM', hq⟩ := hq
              rw [hM']
              rcases hq with ⟨rfl, q6⟩ | ⟨rfl, q6⟩
              · refine ⟨rfl, ?_⟩
                refine d_br (fun h => ?_) (fun h => ?_)
                · simp only [cCmp, cE2, sev, svl, cen, List.cons_append, List.nil_append] at h
                  omega
                · clear h
                  refine d_call (b_isBelow hp (x := o) (y := 4)) (by simp [cAs, cE2, sev, svl, cen] <;> omega) ?_
                  intro rr M' hq
                  obtain ⟨hM', hq⟩ := hq
                  rw [hM']
                  rcases hq with ⟨rfl, q7⟩ | ⟨rfl, q7⟩
                  · refine ⟨rfl, ?_⟩
                    refine d_br (fun h => ?_) (fun h => ?_)
                    · simp only [cCmp, cE2, sev, svl, cen, List.cons_append, List.nil_append] at h
                      omega
                    · clear h
                      refine d_call (b_isBelow hp (x := g) (y := 3)) (by simp [cAs, cE2, sev, svl, cen] <;> omega) ?_
                      intro rr M' hq
                      obtain ⟨hM', hq⟩ := hq
                      rw [hM']
                      rcases hq with ⟨rfl, q8⟩ | ⟨rfl, q8⟩
                      · refine ⟨rfl, ?_⟩
                        refine d_br (fun h => ?_) (fun h => ?_)
                        · simp only [cCmp, cE2, sev, svl, cen, List.cons_append, List.nil_append] at h
                          omega
                        · clear h
                          refine d_idx (by simp only [cE2, sev, svl, cen, List.cons_append, List.nil_append]; omega) ?_
                          refine d_call (b_wtell hp (p := a.toNat) (s := s) (hh := hh) (o := o) (g := g)) (by simp [cAs, cE2, sev, svl, cen] <;> omega) ?_
                          intro rr M' hq
                          obtain ⟨rfl, hM'⟩ := hq
                          rw [hM']
                          refine ⟨rfl, ?_⟩
                          refine d_call (b_forgetF2 hp (sI_tell (p := a.toNat) (s := s) (hh := hh) (o := o) (g := g) hI (by omega) (by omega) (by omega) (by omega))) (by simp [cAs, cE2, sev, svl, cen] <;> omega) ?_
                          intro rr M' hq
                          obtain ⟨rfl, i9, f9, k9⟩ := hq
                          refine ⟨rfl, ?_⟩
                          exact d_ret [1] rfl (by decide) ⟨i9, Or.inl ⟨by omega, rfl, f9, k9⟩⟩
                      · refine ⟨rfl, ?_⟩
                        refine d_br (fun h => ?_) (fun h => ?_)
                        · clear h
                          exact d_ret [0] rfl (by decide) ⟨hI, Or.inr ⟨by omega, rfl, rfl⟩⟩
                        · simp only [cCmp, cE2, sev, svl, cen, List.cons_append, List.nil_append] at h
                          omega
                  · refine ⟨rfl, ?_⟩
                    refine d_br (fun h => ?_) (fun h => ?_)
                    · clear h
                      exact d_ret [0] rfl (by decide) ⟨hI, Or.inr ⟨by omega, rfl, rfl⟩⟩
                    · simp only [cCmp, cE2, sev, svl, cen, List.cons_append, List.nil_append] at h
                      omega
              · refine ⟨rfl, ?_⟩
                refine d_br (fun h => ?_) (fun h => ?_)
                · clear h
                  exact d_ret [0] rfl (by decide) ⟨hI, Or.inr ⟨by omega, rfl, rfl⟩⟩
                · simp only [cCmp, cE2, sev, svl, cen, List.cons_append, List.nil_append] at h
                  omega
  · refine ⟨rfl, ?_⟩
    refine d_br (fun h => ?_) (fun h => ?_)
    · clear h
      exact d_ret [0] rfl (by decide) ⟨hI, Or.inr ⟨by omega, rfl, rfl⟩⟩
    · simp only [cCmp, cE2, sev, svl, cen, List.cons_append, List.nil_append] at h
      omega
theorem b_cut2 (hp : cPl tm tc tf EX) {a hd dv n : Int} {sz : Nat} {M : SMem} (hI : sI tg M) (hsz : M 64 a.toNat 5 = (sz : Int)) : cBG tm tf EX l dC dI cA ad scrS (d + 3) kX9_cut [(2, 0, 0), (0, 0, a), (0, 0, hd), (0, 0, dv), (0, 0, n)] M (fun rr MM => sI tg MM ∧ ((((0 ≤ a ∧ a < 12 ∧ M 64 a.toNat 0 ≠ 0) ∧ (0 ≤ hd ∧ hd < 6) ∧ (0 ≤ dv ∧ dv < 5) ∧ (n = -1 ∨ (¬ (dv = 1 ∨ dv = 2) ∧ 0 ≤ n ∧ n < 8 ∧ M 58 0 n.toNat ≠ 0)) ∧ (sz < 6 ∧ ((sz = 0 ∧ dv = 0) ∨ (sz ≠ 0 ∧ dv ≠ 0 ∧ (((dv = 1 ∨ dv = 2) ∧ ¬ (M 92 a.toNat (sz - 1) = 1 ∨ M 92 a.toNat (sz - 1) = 2)) ∨ (¬ (dv = 1 ∨ dv = 2) ∧ (M 92 a.toNat (sz - 1) = 1 ∨ M 92 a.toNat (sz - 1) = 2) ∧ (dv ≠ 4 ∨ (sz < 2 ∨ n = -1 ∨ M 93 a.toNat (sz - 2) = -1 ∨ n = M 93 a.toNat (sz - 2))))))))) ∧ rr = [(sz : Int)] ∧ (∀ f j i, f ≠ 7 → f ≠ 10 → MM f j i = wAddL M a.toNat sz hd dv n f j i) ∧ sFl MM) ∨ (¬ ((0 ≤ a ∧ a < 12 ∧ M 64 a.toNat 0 ≠ 0) ∧ (0 ≤ hd ∧ hd < 6) ∧ (0 ≤ dv ∧ dv < 5) ∧ (n = -1 ∨ (¬ (dv = 1 ∨ dv = 2) ∧ 0 ≤ n ∧ n < 8 ∧ M 58 0 n.toNat ≠ 0)) ∧ (sz < 6 ∧ ((sz = 0 ∧ dv = 0) ∨ (sz ≠ 0 ∧ dv ≠ 0 ∧ (((dv = 1 ∨ dv = 2) ∧ ¬ (M 92 a.toNat (sz - 1) = 1 ∨ M 92 a.toNat (sz - 1) = 2)) ∨ (¬ (dv = 1 ∨ dv = 2) ∧ (M 92 a.toNat (sz - 1) = 1 ∨ M 92 a.toNat (sz - 1) = 2) ∧ (dv ≠ 4 ∨ (sz < 2 ∨ n = -1 ∨ M 93 a.toNat (sz - 2) = -1 ∨ n = M 93 a.toNat (sz - 2))))))))) ∧ rr = [-1] ∧ MM = M))) := by
  refine cMeth (v := [a, hd, dv, n]) (Fd := 90) hp (by decide) gX9_cut_ok gX9_cut_m0 (by simp [cAs, cE2, sev, svl, cen]) ?_
  refine cEnds_at gX9_cut_m0 rfl ?_
  refine d_call (b_isPlace hp (a := a)) (by simp [cAs, cE2, sev, svl, cen] <;> omega) ?_
  intro rr M' hq
  obtain ⟨hM', hq⟩ := hq
  rw [hM']
  rcases hq with ⟨rfl, q4⟩ | ⟨rfl, q4⟩
  · refine ⟨rfl, ?_⟩
    refine d_br (fun h => ?_) (fun h => ?_)
    · simp only [cCmp, cE2, sev, svl, cen, List.cons_append, List.nil_append] at h
      omega
    · clear h
      refine d_call (b_isBelow hp (x := hd) (y := 6)) (by simp [cAs, cE2, sev, svl, cen] <;> omega) ?_
      intro rr M' hq
      obtain ⟨hM', hq⟩ := hq
      rw [hM']
      rcases hq with ⟨rfl, q5⟩ | ⟨rfl, q5⟩
      · refine ⟨rfl, ?_⟩
        refine d_br (fun h => ?_) (fun h => ?_)
        · simp only [cCmp, cE2, sev, svl, cen, List.cons_append, List.nil_append] at h
          omega
        · clear h
          refine d_call (b_isBelow hp (x := dv) (y := 5)) (by simp [cAs, cE2, sev, svl, cen] <;> omega) ?_
          intro rr M' hq
          obtain ⟨hM', hq⟩ := hq
          rw [hM']
          rcases hq with ⟨rfl, q6⟩ | ⟨rfl, q6⟩
          · refine ⟨rfl, ?_⟩
            refine d_br (fun h => ?_) (fun h => ?_)
            · clear h
              refine d_br (fun h => ?_) (fun h => ?_)
              · simp only [cCmp, cE2, sev, svl, cen, List.cons_append, List.nil_append] at h
                first
                | omega
                | skip
                  refine d_idx (by simp only [cE2, sev, svl, cen, List.cons_append, List.nil_append]; omega) ?_
                  refine d_call (b_canLie hp (p := a.toNat) (sz := sz) (dv := dv) (n := n) hsz) (by simp [cAs, cE2, sev, svl, cen] <;> omega) ?_
                  intro rr M' hq
                  obtain ⟨hM', hq⟩ := hq
                  rw [hM']
                  rcases hq with ⟨rfl, q7⟩ | ⟨rfl, q7⟩
                  · refine ⟨rfl, ?_⟩
                    refine d_br (fun h => ?_) (fun h => ?_)
                    · clear h
                      refine d_fld a.toNat (by simp only [cE2, sev, svl, cen, List.cons_append, List.nil_append]; omega) ?_
                      rw [hsz]
                      refine d_call (b_wadd hp (p := a.toNat) (sz := sz) (hd := hd) (dv := dv) (n := n) hsz (by omega)) (by simp [cAs, cE2, sev, svl, cen] <;> omega) ?_
                      intro rr M' hq
                      obtain ⟨rfl, hM'⟩ := hq
                      rw [hM']
                      refine ⟨rfl, ?_⟩
                      refine d_call (b_forgetF2 hp (sI_addL (p := a.toNat) (sz := sz) (hd := hd) (dv := dv) (n := n) hI (by omega) (by omega) (by omega) (by omega))) (by simp [cAs, cE2, sev, svl, cen] <;> omega) ?_
                      intro rr M' hq
                      obtain ⟨rfl, i9, f9, k9⟩ := hq
                      refine ⟨rfl, ?_⟩
                      exact wret1 (sz : Int) (by simp only [cE2, sev, svl, cen, List.cons_append, List.nil_append]; omega) (by omega) ⟨i9, Or.inl ⟨by omega, rfl, f9, k9⟩⟩
                    · simp only [cCmp, cE2, sev, svl, cen, List.cons_append, List.nil_append] at h
                      omega
                  · refine ⟨rfl, ?_⟩
                    refine d_br (fun h => ?_) (fun h => ?_)
                    · simp only [cCmp, cE2, sev, svl, cen, List.cons_append, List.nil_append] at h
                      omega
                    · clear h
                      exact d_ret [(-1)] rfl (by decide) ⟨hI, Or.inr ⟨by omega, rfl, rfl⟩⟩
              · simp only [cCmp, cE2, sev, svl, cen, List.cons_append, List.nil_append] at h
                first
                | omega
                | skip
                  refine d_call (b_isErasure hp (x := dv)) (by simp [cAs, cE2, sev, svl, cen] <;> omega) ?_
                  intro rr M' hq
                  obtain ⟨hM', hq⟩ := hq
                  rw [hM']
                  rcases hq with ⟨rfl, q7⟩ | ⟨rfl, q7⟩
                  · refine ⟨rfl, ?_⟩
                    refine d_br (fun h => ?_) (fun h => ?_)
                    · clear h
                      refine d_idx (by simp only [cE2, sev, svl, cen, List.cons_append, List.nil_append]; omega) ?_
                      exact d_ret [(-1)] rfl (by decide) ⟨hI, Or.inr ⟨by omega, rfl, rfl⟩⟩
                    · simp only [cCmp, cE2, sev, svl, cen, List.cons_append, List.nil_append] at h
                      omega
                  · refine ⟨rfl, ?_⟩
                    refine d_br (fun h => ?_) (fun h => ?_)
                    · simp only [cCmp, cE2, sev, svl, cen, List.cons_append, List.nil_append] at h
                      omega
                    · clear h
                      refine d_call (b_isTold hp (a := n)) (by simp [cAs, cE2, sev, svl, cen] <;> omega) ?_
                      intro rr M' hq
                      obtain ⟨hM', hq⟩ := hq
                      rw [hM']
                      rcases hq with ⟨rfl, q8⟩ | ⟨rfl, q8⟩
                      · refine ⟨rfl, ?_⟩
                        refine d_br (fun h => ?_) (fun h => ?_)
                        · simp only [cCmp, cE2, sev, svl, cen, List.cons_append, List.nil_append] at h
                          omega
                        · clear h
                          refine d_idx (by simp only [cE2, sev, svl, cen, List.cons_append, List.nil_append]; omega) ?_
                          refine d_call (b_canLie hp (p := a.toNat) (sz := sz) (dv := dv) (n := n) hsz) (by simp [cAs, cE2, sev, svl, cen] <;> omega) ?_
                          intro rr M' hq
                          obtain ⟨hM', hq⟩ := hq
                          rw [hM']
                          rcases hq with ⟨rfl, q9⟩ | ⟨rfl, q9⟩
                          · refine ⟨rfl, ?_⟩
                            refine d_br (fun h => ?_) (fun h => ?_)
                            · clear h
                              refine d_fld a.toNat (by simp only [cE2, sev, svl, cen, List.cons_append, List.nil_append]; omega) ?_
                              rw [hsz]
                              refine d_call (b_wadd hp (p := a.toNat) (sz := sz) (hd := hd) (dv := dv) (n := n) hsz (by omega)) (by simp [cAs, cE2, sev, svl, cen] <;> omega) ?_
                              intro rr M' hq
                              obtain ⟨rfl, hM'⟩ := hq
                              rw [hM']
                              refine ⟨rfl, ?_⟩
                              refine d_call (b_forgetF2 hp (sI_addL (p := a.toNat) (sz := sz) (hd := hd) (dv := dv) (n := n) hI (by omega) (by omega) (by omega) (by omega))) (by simp [cAs, cE2, sev, svl, cen] <;> omega) ?_
                              intro rr M' hq
                              obtain ⟨rfl, i9, f9, k9⟩ := hq
                              refine ⟨rfl, ?_⟩
                              exact wret1 (sz : Int) (by simp only [cE2, sev, svl, cen, List.cons_append, List.nil_append]; omega) (by omega) ⟨i9, Or.inl ⟨by omega, rfl, f9, k9⟩⟩
                            · simp only [cCmp, cE2, sev, svl, cen, List.cons_append, List.nil_append] at h
                              omega
                          · refine ⟨rfl, ?_⟩
                            refine d_br (fun h => ?_) (fun h => ?_)
                            · simp only [cCmp, cE2, sev, svl, cen, List.cons_append, List.nil_append] at h
                              omega
                            · clear h
                              exact d_ret [(-1)] rfl (by decide) ⟨hI, Or.inr ⟨by omega, rfl, rfl⟩⟩
                      · refine ⟨rfl, ?_⟩
                        refine d_br (fun h => ?_) (fun h => ?_)
                        · clear h
                          refine d_idx (by simp only [cE2, sev, svl, cen, List.cons_append, List.nil_append]; omega) ?_
                          exact d_ret [(-1)] rfl (by decide) ⟨hI, Or.inr ⟨by omega, rfl, rfl⟩⟩
                        · simp only [cCmp, cE2, sev, svl, cen, List.cons_append, List.nil_append] at h
                          omega
            · simp only [cCmp, cE2, sev, svl, cen, List.cons_append, List.nil_append] at h
              omega
          · refine ⟨rfl, ?_⟩
            refine d_br (fun h => ?_) (fun h => ?_)
            · simp only [cCmp, cE2, sev, svl, cen, List.cons_append, List.nil_append] at h
              omega
            · clear h
              exact d_ret [(-1)] rfl (by decide) ⟨hI, Or.inr ⟨by omega, rfl, rfl⟩⟩
      · refine ⟨rfl, ?_⟩
        refine d_br (fun h => ?_) (fun h => ?_)
        · clear h
          exact d_ret [(-1)] rfl (by decide) ⟨hI, Or.inr ⟨by omega, rfl, rfl⟩⟩
        · simp only [cCmp, cE2, sev, svl, cen, List.cons_append, List.nil_append] at h
          omega
  · refine ⟨rfl, ?_⟩
    refine d_br (fun h => ?_) (fun h => ?_)
    · clear h
      exact d_ret [(-1)] rfl (by decide) ⟨hI, Or.inr ⟨by omega, rfl, rfl⟩⟩
    · simp only [cCmp, cE2, sev, svl, cen, List.cons_append, List.nil_append] at h
      omega
theorem b_clean2 (hp : cPl tm tc tf EX) {a : Int} {sz : Nat} {M : SMem} (hI : sI tg M) (hsz : M 64 a.toNat 5 = (sz : Int)) : cBG tm tf EX l dC dI cA ad scrS (d + 3) kX9_clean [(2, 0, 0), (0, 0, a)] M (fun rr MM => sI tg MM ∧ (((0 ≤ a ∧ a < 12 ∧ M 64 a.toNat 0 ≠ 0 ∧ sz ≠ 0) ∧ rr = [1] ∧ (∀ f j i, f ≠ 7 → f ≠ 10 → MM f j i = wRem M a.toNat sz f j i) ∧ sFl MM) ∨ (¬ (0 ≤ a ∧ a < 12 ∧ M 64 a.toNat 0 ≠ 0 ∧ sz ≠ 0) ∧ rr = [0] ∧ MM = M))) := by
  have b6 := wIb (f := 64) (i := 5) (lo := 0) (hi := 6) hI a.toNat rfl
  refine cMeth (v := [a]) (Fd := 90) hp (by decide) gX9_clean_ok gX9_clean_m0 (by simp [cAs, cE2, sev, svl, cen]) ?_
  refine cEnds_at gX9_clean_m0 rfl ?_
  refine d_call (b_isPlace hp (a := a)) (by simp [cAs, cE2, sev, svl, cen] <;> omega) ?_
  intro rr M' hq
  obtain ⟨hM', hq⟩ := hq
  rw [hM']
  rcases hq with ⟨rfl, q1⟩ | ⟨rfl, q1⟩
  · refine ⟨rfl, ?_⟩
    refine d_br (fun h => ?_) (fun h => ?_)
    · simp only [cCmp, cE2, sev, svl, cen, List.cons_append, List.nil_append] at h
      omega
    · clear h
      refine d_idx (by simp only [cE2, sev, svl, cen, List.cons_append, List.nil_append]; omega) ?_
      refine d_fld a.toNat (by simp only [cE2, sev, svl, cen, List.cons_append, List.nil_append]; omega) ?_
      rw [hsz]
      refine d_br (fun h => ?_) (fun h => ?_)
      · simp only [cCmp, cE2, sev, svl, cen, List.cons_append, List.nil_append] at h
        first
        | omega
        | skip
          refine d_idx (by simp only [cE2, sev, svl, cen, List.cons_append, List.nil_append]; omega) ?_
          refine d_call (b_removeTop hp (p := a.toNat) (sz := sz) hsz (by omega) (by omega)) (by simp [cAs, cE2, sev, svl, cen] <;> omega) ?_
          intro rr M' hq
          obtain ⟨rfl, hM'⟩ := hq
          rw [hM']
          refine ⟨rfl, ?_⟩
          refine d_call (b_forgetF2 hp (sI_rem (p := a.toNat) (sz := sz) hI (by omega) (by omega))) (by simp [cAs, cE2, sev, svl, cen] <;> omega) ?_
          intro rr M' hq
          obtain ⟨rfl, i9, f9, k9⟩ := hq
          refine ⟨rfl, ?_⟩
          exact d_ret [1] rfl (by decide) ⟨i9, Or.inl ⟨by omega, rfl, f9, k9⟩⟩
      · simp only [cCmp, cE2, sev, svl, cen, List.cons_append, List.nil_append] at h
        first
        | omega
        | skip
          exact d_ret [0] rfl (by decide) ⟨hI, Or.inr ⟨by omega, rfl, rfl⟩⟩
  · refine ⟨rfl, ?_⟩
    refine d_br (fun h => ?_) (fun h => ?_)
    · clear h
      exact d_ret [0] rfl (by decide) ⟨hI, Or.inr ⟨by omega, rfl, rfl⟩⟩
    · simp only [cCmp, cE2, sev, svl, cen, List.cons_append, List.nil_append] at h
      omega
theorem b_tellTr2 (hp : cPl tm tc tf EX) {a b : Int} {n : Nat} {M : SMem} (hI : sI tg M) (hn : M 3 0 1 = (n : Int)) (h9 : n ≤ 1000) : cBG tm tf EX l dC dI cA ad scrS (d + 5) kX9_tellTraces [(2, 0, 0), (0, 0, a), (0, 0, b)] M (fun rr MM => ∃ r : Int, rr = [r] ∧ sI tg MM ∧ ((r = -1 ∧ ¬ (0 ≤ a ∧ a < 12 ∧ M 64 a.toNat 0 ≠ 0 ∧ 0 ≤ b ∧ b + 1 < M 64 a.toNat 5 ∧ ¬ (M 92 a.toNat b.toNat = 1 ∨ M 92 a.toNat b.toNat = 2) ∧ M 92 a.toNat (b.toNat + 1) = 1)) ∨ (r = 1 ∧ (0 ≤ a ∧ a < 12 ∧ M 64 a.toNat 0 ≠ 0 ∧ 0 ≤ b ∧ b + 1 < M 64 a.toNat 5 ∧ ¬ (M 92 a.toNat b.toNat = 1 ∨ M 92 a.toNat b.toNat = 2) ∧ M 92 a.toNat (b.toNat + 1) = 1) ∧ ¬ wTx 1 (M 57 0) (wf (M 57 0) n) (wu (M 57 0) n)) ∨ (r = 0 ∧ (0 ≤ a ∧ a < 12 ∧ M 64 a.toNat 0 ≠ 0 ∧ 0 ≤ b ∧ b + 1 < M 64 a.toNat 5 ∧ ¬ (M 92 a.toNat b.toNat = 1 ∨ M 92 a.toNat b.toNat = 2) ∧ M 92 a.toNat (b.toNat + 1) = 1) ∧ wTx 1 (M 57 0) (wf (M 57 0) n) (wu (M 57 0) n))) ∧ (r ≠ 0 → ∀ f j i, ¬ (f = 3 ∧ (i = 2 ∨ i = 3)) → MM f j i = M f j i) ∧ (r = 0 → ∀ f j i, ¬ (f = 3 ∧ (i = 2 ∨ i = 3)) → f ≠ 7 → f ≠ 10 → MM f j i = wTr M a.toNat b.toNat (wf (M 57 0) n) (wu (M 57 0) n - wf (M 57 0) n) (wu (M 57 0) n - wf (M 57 0) n) f j i) ∧ (r = 0 → sFl MM)) := by
  have hfu := wfu (M 57 0) n
  have b6 := wIb (f := 64) (i := 5) (lo := 0) (hi := 6) hI a.toNat rfl
  refine cMeth (v := [a, b]) (Fd := 90) hp (by decide) gX9_tellTraces_ok gX9_tellTraces_m0 (by simp [cAs, cE2, sev, svl, cen]) ?_
  refine cEnds_at gX9_tellTraces_m0 rfl ?_
  refine d_call (b_isNameCut hp (a := a) (b := b) hI) (by simp [cAs, cE2, sev, svl, cen] <;> omega) ?_
  intro rr M' hq
  obtain ⟨hM', hq⟩ := hq
  rw [hM']
  rcases hq with ⟨rfl, q2⟩ | ⟨rfl, q2⟩
  · refine ⟨rfl, ?_⟩
    refine d_br (fun h => ?_) (fun h => ?_)
    · simp only [cCmp, cE2, sev, svl, cen, List.cons_append, List.nil_append] at h
      omega
    · clear h
      refine d_idx (by simp only [cE2, sev, svl, cen, List.cons_append, List.nil_append]; omega) ?_
      refine d_call (b_hasOutOver hp (p := a.toNat) (ly := b.toNat) hI (by omega)) (by simp [cAs, cE2, sev, svl, cen] <;> omega) ?_
      intro rr M' hq
      obtain ⟨hM', hq⟩ := hq
      rw [hM']
      rcases hq with ⟨rfl, q3⟩ | ⟨rfl, q3⟩
      · refine ⟨rfl, ?_⟩
        refine d_br (fun h => ?_) (fun h => ?_)
        · clear h
          refine d_call (b_trim hp hn h9 hI) (by simp [cAs, cE2, sev, svl, cen] <;> omega) ?_
          intro rr M' hq
          obtain ⟨rfl, i1, f1, e2, e3⟩ := hq
          have e2 : M' 3 0 2 = (wf (M 57 0) n : Int) := e2
          have e3 : M' 3 0 3 = (wu (M 57 0) n : Int) := e3
          have r57 : M' 57 0 = M 57 0 := by funext k; exact f1 57 0 k (by omega)
          generalize M' = M1 at i1 f1 e2 e3 r57 ⊢
          refine ⟨rfl, ?_⟩
          refine d_call (b_isText hp (s := 1) e2 e3 (by omega)) (by simp [cAs, cE2, sev, svl, cen] <;> omega) ?_
          intro rr M' hq
          obtain ⟨hM', hq⟩ := hq
          rw [hM']
          rcases hq with ⟨rfl, q4⟩ | ⟨rfl, q4⟩
          · refine ⟨rfl, ?_⟩
            refine d_br (fun h => ?_) (fun h => ?_)
            · clear h
              refine d_idx (by simp only [cE2, sev, svl, cen, List.cons_append, List.nil_append]; omega) ?_
              refine d_call (b_wtraces hp (p := a.toNat) (ly := b.toNat) i1 (by omega) (by omega) e2 e3 (by have := q4.1; omega) (by have := q4.2.1; omega) (by omega)) (by simp [cAs, cE2, sev, svl, cen] <;> omega) ?_
              intro rr M' hq
              obtain ⟨rfl, hM'⟩ := hq
              rw [hM']
              refine ⟨rfl, ?_⟩
              refine d_call (b_forgetF2 hp (sI_tr (p := a.toNat) (l := b.toNat) (fr := wf (M 57 0) n) (len := wu (M 57 0) n - wf (M 57 0) n) i1 (by have := q4.2.1; omega) _)) (by simp [cAs, cE2, sev, svl, cen] <;> omega) ?_
              intro rr M' hq
              obtain ⟨rfl, i9, f9, k9⟩ := hq
              refine ⟨rfl, ?_⟩
              exact d_ret [0] rfl (by decide) ⟨0, rfl, i9, Or.inr (Or.inr ⟨rfl, by omega, by rw [r57] at q4; exact q4⟩), fun z => absurd rfl z, fun _ f j i z1 z2 z3 => by rw [f9 f j i z2 z3, wTr_congr f1 f j i z1], fun _ => k9⟩
            · simp only [cCmp, cE2, sev, svl, cen, List.cons_append, List.nil_append] at h
              omega
          · refine ⟨rfl, ?_⟩
            refine d_br (fun h => ?_) (fun h => ?_)
            · simp only [cCmp, cE2, sev, svl, cen, List.cons_append, List.nil_append] at h
              omega
            · clear h
              exact d_ret [1] rfl (by decide) ⟨1, rfl, i1, Or.inr (Or.inl ⟨rfl, by omega, by rw [r57] at q4; exact q4⟩), fun _ => f1, fun z => by omega, fun z => by omega⟩
        · simp only [cCmp, cE2, sev, svl, cen, List.cons_append, List.nil_append] at h
          omega
      · refine ⟨rfl, ?_⟩
        refine d_br (fun h => ?_) (fun h => ?_)
        · simp only [cCmp, cE2, sev, svl, cen, List.cons_append, List.nil_append] at h
          omega
        · clear h
          exact d_ret [(-1)] rfl (by decide) ⟨-1, rfl, hI, Or.inl ⟨rfl, by omega⟩, fun _ _ _ _ _ => rfl, fun z => by omega, fun z => by omega⟩
  · refine ⟨rfl, ?_⟩
    refine d_br (fun h => ?_) (fun h => ?_)
    · clear h
      exact d_ret [(-1)] rfl (by decide) ⟨-1, rfl, hI, Or.inl ⟨rfl, by omega⟩, fun _ _ _ _ _ => rfl, fun z => by omega, fun z => by omega⟩
    · simp only [cCmp, cE2, sev, svl, cen, List.cons_append, List.nil_append] at h
      omega
theorem b_traces2 (hp : cPl tm tc tf EX) {a b : Int} {n : Nat} {M : SMem} (hI : sI tg M) (hn : M 3 0 1 = (n : Int)) (h9 : n ≤ 1000) : cBG tm tf EX l dC dI cA ad scrS (d + 6) kX9_traces [(2, 0, 0), (0, 0, a), (0, 0, b)] M (fun rr MM => ∃ r : Int, rr = [r] ∧ sI tg MM ∧ MM 3 0 1 = 0 ∧ ((r = -1 ∧ ¬ (0 ≤ a ∧ a < 12 ∧ M 64 a.toNat 0 ≠ 0 ∧ 0 ≤ b ∧ b + 1 < M 64 a.toNat 5 ∧ ¬ (M 92 a.toNat b.toNat = 1 ∨ M 92 a.toNat b.toNat = 2) ∧ M 92 a.toNat (b.toNat + 1) = 1)) ∨ (r = 1 ∧ (0 ≤ a ∧ a < 12 ∧ M 64 a.toNat 0 ≠ 0 ∧ 0 ≤ b ∧ b + 1 < M 64 a.toNat 5 ∧ ¬ (M 92 a.toNat b.toNat = 1 ∨ M 92 a.toNat b.toNat = 2) ∧ M 92 a.toNat (b.toNat + 1) = 1) ∧ ¬ wTx 1 (M 57 0) (wf (M 57 0) n) (wu (M 57 0) n)) ∨ (r = 0 ∧ (0 ≤ a ∧ a < 12 ∧ M 64 a.toNat 0 ≠ 0 ∧ 0 ≤ b ∧ b + 1 < M 64 a.toNat 5 ∧ ¬ (M 92 a.toNat b.toNat = 1 ∨ M 92 a.toNat b.toNat = 2) ∧ M 92 a.toNat (b.toNat + 1) = 1) ∧ wTx 1 (M 57 0) (wf (M 57 0) n) (wu (M 57 0) n))) ∧ (r ≠ 0 → ∀ f j i, f ≠ 3 → MM f j i = M f j i) ∧ (r = 0 → ∀ f j i, f ≠ 3 → f ≠ 7 → f ≠ 10 → MM f j i = wTr M a.toNat b.toNat (wf (M 57 0) n) (wu (M 57 0) n - wf (M 57 0) n) (wu (M 57 0) n - wf (M 57 0) n) f j i) ∧ (r = 0 → sFl MM)) := by
  refine cMeth (v := [a, b]) (Fd := 90) hp (by decide) gX9_traces_ok gX9_traces_m0 (by simp [cAs, cE2, sev, svl, cen]) ?_
  refine cEnds_at gX9_traces_m0 rfl ?_
  refine d_call (b_tellTr2 hp (a := a) (b := b) hI hn h9) (by simp [cAs, cE2, sev, svl, cen] <;> omega) ?_
  intro rr M' hq
  obtain ⟨r, rfl, i1, hr, k1, k2, k3⟩ := hq
  refine ⟨rfl, ?_⟩
  refine d_put 0 0 (by simp only [cE2, sev, svl, cen, List.cons_append, List.nil_append]; omega) (by simp only [cE2, sev, svl, cen, List.cons_append, List.nil_append]; omega) ?_
  exact wret1 r (by simp only [cE2, sev, svl, cen, List.cons_append, List.nil_append]; omega) (by omega) ⟨r, rfl, wI (lo := 0) (hi := 1000) i1 rfl ⟨by omega, by omega⟩, supd_at _ _ _ _ _, hr, fun z f j i q => by rw [supd_f q, k1 z f j i (fun y => q y.1)], fun z f j i q q2 q3 => by rw [supd_f q, k2 z f j i (fun y => q y.1) q2 q3], fun z => sFl_cg (fun i => supd_f (by decide)) (k3 z)⟩
theorem m_traces2 (hp : cPl tm tc tf EX) {a b : Int} {n : Nat} {M : SMem} (hI : sI tg M) (hn : M 1 0 2 = (n : Int)) (h9 : n ≤ 1000) : cBG tm tf EX l dC dI cA ad scrS (d + 5) kX10_traces [(2, 1, 0), (0, 0, a), (0, 0, b)] M (fun rr MM => ∃ r : Int, rr = [r] ∧ sI tg MM ∧ MM 1 0 2 = 0 ∧ ((r = -1 ∧ ¬ (0 ≤ a ∧ a < 12 ∧ M 22 0 a.toNat ≠ 0 ∧ 0 ≤ b ∧ b + 1 < M 27 0 a.toNat ∧ (M 29 0 (6 * a.toNat + b.toNat) = 0 ∨ M 29 0 (6 * a.toNat + b.toNat) = 3 ∨ M 29 0 (6 * a.toNat + b.toNat) = 4) ∧ M 29 0 (6 * a.toNat + b.toNat + 1) = 1)) ∨ (r = 1 ∧ (0 ≤ a ∧ a < 12 ∧ M 22 0 a.toNat ≠ 0 ∧ 0 ≤ b ∧ b + 1 < M 27 0 a.toNat ∧ (M 29 0 (6 * a.toNat + b.toNat) = 0 ∨ M 29 0 (6 * a.toNat + b.toNat) = 3 ∨ M 29 0 (6 * a.toNat + b.toNat) = 4) ∧ M 29 0 (6 * a.toNat + b.toNat + 1) = 1) ∧ ¬ wTx 1 (M 12 0) (wf (M 12 0) n) (wu (M 12 0) n)) ∨ (r = 0 ∧ (0 ≤ a ∧ a < 12 ∧ M 22 0 a.toNat ≠ 0 ∧ 0 ≤ b ∧ b + 1 < M 27 0 a.toNat ∧ (M 29 0 (6 * a.toNat + b.toNat) = 0 ∨ M 29 0 (6 * a.toNat + b.toNat) = 3 ∨ M 29 0 (6 * a.toNat + b.toNat) = 4) ∧ M 29 0 (6 * a.toNat + b.toNat + 1) = 1) ∧ wTx 1 (M 12 0) (wf (M 12 0) n) (wu (M 12 0) n))) ∧ (r ≠ 0 → ∀ f j i, f ≠ 1 → MM f j i = M f j i) ∧ (r = 0 → ∀ f j i, f ≠ 1 → MM f j i = wTrM M (6 * a.toNat + b.toNat) (wf (M 12 0) n) (wu (M 12 0) n - wf (M 12 0) n) (wu (M 12 0) n - wf (M 12 0) n) f j i) ∧ sFm M r MM) := by
  refine cMeth (v := [a, b]) (Fd := 90) hp (by decide) gX10_traces_ok gX10_traces_m0 (by simp [cAs, cE2, sev, svl, cen]) ?_
  suffices H : ∀ Po : List Int → SMem → Prop, (∀ rr MM, (∃ r : Int, rr = [r] ∧ sI tg MM ∧ MM 1 0 2 = 0 ∧ ((r = -1 ∧ ¬ (0 ≤ a ∧ a < 12 ∧ M 22 0 a.toNat ≠ 0 ∧ 0 ≤ b ∧ b + 1 < M 27 0 a.toNat ∧ (M 29 0 (6 * a.toNat + b.toNat) = 0 ∨ M 29 0 (6 * a.toNat + b.toNat) = 3 ∨ M 29 0 (6 * a.toNat + b.toNat) = 4) ∧ M 29 0 (6 * a.toNat + b.toNat + 1) = 1)) ∨ (r = 1 ∧ (0 ≤ a ∧ a < 12 ∧ M 22 0 a.toNat ≠ 0 ∧ 0 ≤ b ∧ b + 1 < M 27 0 a.toNat ∧ (M 29 0 (6 * a.toNat + b.toNat) = 0 ∨ M 29 0 (6 * a.toNat + b.toNat) = 3 ∨ M 29 0 (6 * a.toNat + b.toNat) = 4) ∧ M 29 0 (6 * a.toNat + b.toNat + 1) = 1) ∧ ¬ wTx 1 (M 12 0) (wf (M 12 0) n) (wu (M 12 0) n)) ∨ (r = 0 ∧ (0 ≤ a ∧ a < 12 ∧ M 22 0 a.toNat ≠ 0 ∧ 0 ≤ b ∧ b + 1 < M 27 0 a.toNat ∧ (M 29 0 (6 * a.toNat + b.toNat) = 0 ∨ M 29 0 (6 * a.toNat + b.toNat) = 3 ∨ M 29 0 (6 * a.toNat + b.toNat) = 4) ∧ M 29 0 (6 * a.toNat + b.toNat + 1) = 1) ∧ wTx 1 (M 12 0) (wf (M 12 0) n) (wu (M 12 0) n))) ∧ (r ≠ 0 → ∀ f j i, f ≠ 1 → MM f j i = M f j i) ∧ (r = 0 → ∀ f j i, f ≠ 1 → MM f j i = wTrM M (6 * a.toNat + b.toNat) (wf (M 12 0) n) (wu (M 12 0) n - wf (M 12 0) n) (wu (M 12 0) n - wf (M 12 0) n) f j i) ∧ sFm M r MM) → Po rr MM) → cEnds (cBG tm tf EX l dC dI cA ad scrS (d + 4)) Po 90 gX10_traces 0 [a, b] M from H _ (fun _ _ h => h)
  intro Po hPo
  have i1 : sI tg (supd M 1 0 0 0) := wI (lo := 0) (hi := 1) hI rfl ⟨by omega, by omega⟩
  have g1 : ∀ f j i, f ≠ 1 → supd M 1 0 0 0 f j i = M f j i := fun f j i q => supd_f q
  have n1 : supd M 1 0 0 0 1 0 2 = (n : Int) := (supd_i (by decide)).trans hn
  have q1 : ∀ i, i ≠ 0 → supd M 1 0 0 0 1 0 i = M 1 0 i := fun i z => supd_i z
  refine cEnds_at gX10_traces_m0 rfl ?_
  refine d_put 0 0 (by simp only [cE2, sev, svl, cen, List.cons_append, List.nil_append]; omega) (by simp only [cE2, sev, svl, cen, List.cons_append, List.nil_append]; omega) ?_
  generalize supd M 1 0 0 0 = M1 at i1 g1 n1 q1 ⊢
  have e12 : M1 12 0 = M 12 0 := by
    funext k
    exact g1 12 0 k (by decide)
  refine d_call (m_bares hp n1 h9 i1) (by simp [cAs, cE2, sev, svl, cen]) ?_
  rintro rr M2 ⟨rfl, i2, f2, e10, e11, e2, e5⟩
  refine ⟨rfl, ?_⟩
  rw [e12] at e10 e11
  have g2 : ∀ f j i, f ≠ 1 → M2 f j i = M f j i := fun f j i q => (f2 f j i q).trans (g1 f j i q)
  have kq : ∀ i, i ≠ 0 → i ≠ 2 → i ≠ 10 → i ≠ 11 → M2 1 0 i = M 1 0 i := fun i z1 z2 z3 z4 => by rw [e5 i z3 z4 z2, q1 i z1]
  have r12 : M2 12 0 = M 12 0 := by
    funext k
    exact g2 12 0 k (by decide)
  have hfu := wfu (M 12 0) n
  generalize wf (M 12 0) n = fr at *
  generalize wu (M 12 0) n = up at *
  have e22 := g2 22 0 a.toNat (by decide)
  have e27 := g2 27 0 a.toNat (by decide)
  have e29 := g2 29 0 (6 * a.toNat + b.toNat) (by decide)
  have e29' := g2 29 0 (6 * a.toNat + b.toNat + 1) (by decide)
  have b6 := wIb (f := 27) (i := a.toNat) (lo := 0) (hi := 6) hI 0 rfl
  have loop : ∀ q : Nat, q = 6 * a.toNat + b.toNat → q < 72 → (0 ≤ a ∧ a < 12 ∧ M 22 0 a.toNat ≠ 0 ∧ 0 ≤ b ∧ b + 1 < M 27 0 a.toNat ∧ (M 29 0 (6 * a.toNat + b.toNat) = 0 ∨ M 29 0 (6 * a.toNat + b.toNat) = 3 ∨ M 29 0 (6 * a.toNat + b.toNat) = 4) ∧ M 29 0 (6 * a.toNat + b.toNat + 1) = 1) → wTx 1 (M 12 0) fr up → ∀ (m k : Nat), k + m = up - fr → cEnds (cBG tm tf EX l dC dI cA ad scrS (d + 4)) Po 90 gX10_traces 84 [(q : Int), (k : Int)] (wTrM M2 q fr (up - fr) k) := by
    intro q hq hq9 hN hT m
    have t1 := hT.1
    have t2 := hT.2.1
    have r31 : ∀ k, wTrM M2 q fr (up - fr) k 31 0 q = ((up - fr : Nat) : Int) := fun k => by
      unfold wTrM
      rw [if_neg (by omega), if_pos ⟨rfl, rfl, rfl⟩]
    have r1 : ∀ k i, wTrM M2 q fr (up - fr) k 1 0 i = M2 1 0 i := fun k i => by
      unfold wTrM
      rw [if_neg (by omega), if_neg (by omega)]
    have r10 : ∀ k, wTrM M2 q fr (up - fr) k 1 0 10 = (fr : Int) := fun k => (r1 k 10).trans e10
    have r12 : ∀ k i, wTrM M2 q fr (up - fr) k 12 0 i = M 12 0 i := fun k i => by
      unfold wTrM
      rw [if_neg (by omega), if_neg (by omega), r12]
    induction m with
    | zero =>
      intro k hk
      have ek : k = up - fr := by omega
      refine cEnds_at gX10_traces_m84 rfl ?_
      refine d_row 0 q (by simp only [cE2, sev, svl, cen, List.cons_append, List.nil_append]; omega) (by simp only [cE2, sev, svl, cen, List.cons_append, List.nil_append]; omega) (by omega) ?_
      rw [r31 k]
      refine d_br (fun h => ?_) (fun h => ?_)
      · simp only [cCmp, cE2, sev, svl, cen, List.cons_append, List.nil_append] at h
        first
        | omega
        | skip
          refine d_rng (by simp only [clo, chi, cE2, sev, svl, cen, List.cons_append, List.nil_append]; omega) ?_
          refine d_put 0 1 (by simp only [cE2, sev, svl, cen, List.cons_append, List.nil_append]; omega) (by simp only [cE2, sev, svl, cen, List.cons_append, List.nil_append]; omega) ?_
          exact d_ret [0] rfl (by decide) (hPo _ _ ⟨0, rfl, wI (lo := 0) (hi := 1) (sI_trM i2 (by omega) k) rfl ⟨by omega, by omega⟩, by rw [supd_i (by decide), r1, e2], Or.inr (Or.inr ⟨rfl, hN, hT⟩), fun z => absurd rfl z, fun _ f j i z => by rw [supd_f z, wTrM_congr g2 f j i z, ek, hq], ⟨fun _ => ⟨supd_at _ _ _ _ _, by rw [supd_i (by decide), r1]; exact kq 34 (by decide) (by decide) (by decide) (by decide)⟩, fun z => absurd rfl z⟩⟩)
      · simp only [cCmp, cE2, sev, svl, cen, List.cons_append, List.nil_append] at h
        first
        | omega
        | skip
          refine d_rng (by simp only [clo, chi, cE2, sev, svl, cen, List.cons_append, List.nil_append]; omega) ?_
          refine d_rng (by simp only [clo, chi, cE2, sev, svl, cen, List.cons_append, List.nil_append]; omega) ?_
          refine d_fld 0 (by simp only [cE2, sev, svl, cen, List.cons_append, List.nil_append]; omega) ?_
          rw [r10 k]
          refine d_rng (by simp only [clo, chi, cE2, sev, svl, cen, List.cons_append, List.nil_append]; omega) ?_
          refine d_row 0 (k + fr) (by simp only [cE2, sev, svl, cen, List.cons_append, List.nil_append]; omega) (by simp only [cE2, sev, svl, cen, List.cons_append, List.nil_append]; omega) (by omega) ?_
          refine d_br (fun h => ?_) (fun h => ?_)
          · simp only [cCmp, cE2, sev, svl, cen, List.cons_append, List.nil_append] at h
            first
            | omega
            | skip
              refine d_fld 0 (by simp only [cE2, sev, svl, cen, List.cons_append, List.nil_append]; omega) ?_
              rw [r10 k]
              refine d_rng (by simp only [clo, chi, cE2, sev, svl, cen, List.cons_append, List.nil_append]; omega) ?_
              refine d_row 0 (k + fr) (by simp only [cE2, sev, svl, cen, List.cons_append, List.nil_append]; omega) (by simp only [cE2, sev, svl, cen, List.cons_append, List.nil_append]; omega) (by omega) ?_
              refine d_set 0 (8 * q + k) (wTrM M2 q fr (up - fr) k) 12 0 (k + fr) (by simp only [cE2, sev, svl, cen, List.cons_append, List.nil_append]; omega) (by simp only [cE2, sev, svl, cen, List.cons_append, List.nil_append]; omega) (by omega) (by simp only [cE2, sev, svl, cen, List.cons_append, List.nil_append]; omega) ?_
              refine d_rng (by simp only [clo, chi, cE2, sev, svl, cen, List.cons_append, List.nil_append]; omega) ?_
              refine d_cut [(q : Int), ((k : Int) + 1)] (by simp [cE2, sev, svl, cen] <;> omega) ?_
              exact hPo _ _ (by omega)
          · simp only [cCmp, cE2, sev, svl, cen, List.cons_append, List.nil_append] at h
            first
            | omega
            | skip
              refine d_set 0 (8 * q + k) 0 (by simp only [cE2, sev, svl, cen, List.cons_append, List.nil_append]; omega) (by simp only [cE2, sev, svl, cen, List.cons_append, List.nil_append]; omega) (by omega) (by simp only [cE2, sev, svl, cen, List.cons_append, List.nil_append]; omega) ?_
              refine d_rng (by simp only [clo, chi, cE2, sev, svl, cen, List.cons_append, List.nil_append]; omega) ?_
              refine d_cut [(q : Int), ((k : Int) + 1)] (by simp [cE2, sev, svl, cen] <;> omega) ?_
              exact hPo _ _ (by omega)
    | succ m ih =>
      intro k hk
      have b1 := wIb (f := 12) (i := k + fr) (lo := 0) (hi := 126) hI 0 rfl
      refine cEnds_at gX10_traces_m84 rfl ?_
      refine d_row 0 q (by simp only [cE2, sev, svl, cen, List.cons_append, List.nil_append]; omega) (by simp only [cE2, sev, svl, cen, List.cons_append, List.nil_append]; omega) (by omega) ?_
      rw [r31 k]
      refine d_br (fun h => ?_) (fun h => ?_)
      · simp only [cCmp, cE2, sev, svl, cen, List.cons_append, List.nil_append] at h
        first
        | omega
        | skip
          refine d_rng (by simp only [clo, chi, cE2, sev, svl, cen, List.cons_append, List.nil_append]; omega) ?_
          refine d_put 0 1 (by simp only [cE2, sev, svl, cen, List.cons_append, List.nil_append]; omega) (by simp only [cE2, sev, svl, cen, List.cons_append, List.nil_append]; omega) ?_
          exact d_ret [0] rfl (by decide) (hPo _ _ (by omega))
      · simp only [cCmp, cE2, sev, svl, cen, List.cons_append, List.nil_append] at h
        first
        | omega
        | skip
          refine d_rng (by simp only [clo, chi, cE2, sev, svl, cen, List.cons_append, List.nil_append]; omega) ?_
          refine d_rng (by simp only [clo, chi, cE2, sev, svl, cen, List.cons_append, List.nil_append]; omega) ?_
          refine d_fld 0 (by simp only [cE2, sev, svl, cen, List.cons_append, List.nil_append]; omega) ?_
          rw [r10 k]
          refine d_rng (by simp only [clo, chi, cE2, sev, svl, cen, List.cons_append, List.nil_append]; omega) ?_
          refine d_row 0 (k + fr) (by simp only [cE2, sev, svl, cen, List.cons_append, List.nil_append]; omega) (by simp only [cE2, sev, svl, cen, List.cons_append, List.nil_append]; omega) (by omega) ?_
          rw [r12 k (k + fr)]
          refine d_br (fun h => ?_) (fun h => ?_)
          · simp only [cCmp, cE2, sev, svl, cen, List.cons_append, List.nil_append] at h
            first
            | omega
            | skip
              refine d_fld 0 (by simp only [cE2, sev, svl, cen, List.cons_append, List.nil_append]; omega) ?_
              rw [r10 k]
              refine d_rng (by simp only [clo, chi, cE2, sev, svl, cen, List.cons_append, List.nil_append]; omega) ?_
              refine d_row 0 (k + fr) (by simp only [cE2, sev, svl, cen, List.cons_append, List.nil_append]; omega) (by simp only [cE2, sev, svl, cen, List.cons_append, List.nil_append]; omega) (by omega) ?_
              rw [r12 k (k + fr)]
              refine d_set 0 (8 * q + k) (M 12 0 (k + fr)) (by simp only [cE2, sev, svl, cen, List.cons_append, List.nil_append]; omega) (by simp only [cE2, sev, svl, cen, List.cons_append, List.nil_append]; omega) (by omega) (by simp only [cE2, sev, svl, cen, List.cons_append, List.nil_append]; omega) ?_
              refine d_rng (by simp only [clo, chi, cE2, sev, svl, cen, List.cons_append, List.nil_append]; omega) ?_
              have ev : M 12 0 (k + fr) = wTv (M2 12 0) (fr + k) := by unfold wTv; rw [if_neg (by rw [g2 12 0 _ (by decide), show fr + k = k + fr by omega]; omega), g2 12 0 _ (by decide), show fr + k = k + fr by omega]
              rw [ev, wTrM_s]
              refine d_cut [(q : Int), ((k + 1 : Nat) : Int)] (by simp [cE2, sev, svl, cen] <;> omega) ?_
              exact ih (k + 1) (by omega)
          · simp only [cCmp, cE2, sev, svl, cen, List.cons_append, List.nil_append] at h
            first
            | omega
            | skip
              refine d_set 0 (8 * q + k) 0 (by simp only [cE2, sev, svl, cen, List.cons_append, List.nil_append]; omega) (by simp only [cE2, sev, svl, cen, List.cons_append, List.nil_append]; omega) (by omega) (by simp only [cE2, sev, svl, cen, List.cons_append, List.nil_append]; omega) ?_
              refine d_rng (by simp only [clo, chi, cE2, sev, svl, cen, List.cons_append, List.nil_append]; omega) ?_
              have ev : (0 : Int) = wTv (M2 12 0) (fr + k) := by unfold wTv; rw [if_pos (by rw [g2 12 0 _ (by decide), show fr + k = k + fr by omega]; omega)]
              rw [ev, wTrM_s]
              refine d_cut [(q : Int), ((k + 1 : Nat) : Int)] (by simp [cE2, sev, svl, cen] <;> omega) ?_
              exact ih (k + 1) (by omega)
  refine d_call (m_isNaming hp (a := a) (b := b) i2) (by simp [cAs, cE2, sev, svl, cen] <;> omega) ?_
  intro rr M' hq
  obtain ⟨hM', hq⟩ := hq
  rw [hM']
  rcases hq with ⟨rfl, q2⟩ | ⟨rfl, q2⟩
  · refine ⟨rfl, ?_⟩
    refine d_br (fun h => ?_) (fun h => ?_)
    · simp only [cCmp, cE2, sev, svl, cen, List.cons_append, List.nil_append] at h
      omega
    · clear h
      refine d_rng (by simp only [clo, chi, cE2, sev, svl, cen, List.cons_append, List.nil_append]; omega) ?_
      refine d_row 0 a.toNat (by simp only [cE2, sev, svl, cen, List.cons_append, List.nil_append]; omega) (by simp only [cE2, sev, svl, cen, List.cons_append, List.nil_append]; omega) (by omega) ?_
      refine d_br (fun h => ?_) (fun h => ?_)
      · simp only [cCmp, cE2, sev, svl, cen, List.cons_append, List.nil_append] at h
        first
        | omega
        | skip
          exact d_ret [(-1)] rfl (by decide) (hPo _ _ ⟨-1, rfl, i2, e2, Or.inl ⟨rfl, by omega⟩, fun _ => g2, fun z => by omega, ⟨fun z => by omega, fun _ => kq⟩⟩)
      · simp only [cCmp, cE2, sev, svl, cen, List.cons_append, List.nil_append] at h
        first
        | omega
        | skip
          refine d_rng (by simp only [clo, chi, cE2, sev, svl, cen, List.cons_append, List.nil_append]; omega) ?_
          refine d_rng (by simp only [clo, chi, cE2, sev, svl, cen, List.cons_append, List.nil_append]; omega) ?_
          refine d_rng (by simp only [clo, chi, cE2, sev, svl, cen, List.cons_append, List.nil_append]; omega) ?_
          refine d_row 0 (6 * a.toNat + b.toNat + 1) (by simp only [cE2, sev, svl, cen, List.cons_append, List.nil_append]; omega) (by simp only [cE2, sev, svl, cen, List.cons_append, List.nil_append]; omega) (by omega) ?_
          refine d_br (fun h => ?_) (fun h => ?_)
          · simp only [cCmp, cE2, sev, svl, cen, List.cons_append, List.nil_append] at h
            first
            | omega
            | skip
              refine d_call (m_areLetters hp (s := 1) (fr := fr) (up := up) e10 e11 (by omega)) (by simp [cAs, cE2, sev, svl, cen] <;> omega) ?_
              intro rr M' hq
              obtain ⟨hM', hq⟩ := hq
              rw [hM']
              rcases hq with ⟨rfl, q5⟩ | ⟨rfl, q5⟩
              · refine ⟨rfl, ?_⟩
                refine d_br (fun h => ?_) (fun h => ?_)
                · clear h
                  refine d_rng (by simp only [clo, chi, cE2, sev, svl, cen, List.cons_append, List.nil_append]; omega) ?_
                  refine d_rng (by simp only [clo, chi, cE2, sev, svl, cen, List.cons_append, List.nil_append]; omega) ?_
                  refine d_fld 0 (by simp only [cE2, sev, svl, cen, List.cons_append, List.nil_append]; omega) ?_
                  rw [e11]
                  refine d_fld 0 (by simp only [cE2, sev, svl, cen, List.cons_append, List.nil_append]; omega) ?_
                  rw [e10]
                  refine d_rng (by simp only [clo, chi, cE2, sev, svl, cen, List.cons_append, List.nil_append]; omega) ?_
                  refine d_set 0 (6 * a.toNat + b.toNat) ((up : Int) - (fr : Int)) (by simp only [cE2, sev, svl, cen, List.cons_append, List.nil_append]; omega) (by simp only [cE2, sev, svl, cen, List.cons_append, List.nil_append]; omega) (by omega) (by simp only [cE2, sev, svl, cen, List.cons_append, List.nil_append]; omega) ?_
                  have e9 : (up : Int) - (fr : Int) = ((up - fr : Nat) : Int) := by have := q5.1; omega
                  rw [e9, ← wTrM_0 (fr := fr)]
                  rw [r12] at q5
                  refine d_cut [((6 * a.toNat + b.toNat : Nat) : Int), ((0 : Nat) : Int)] (by simp [cE2, sev, svl, cen] <;> omega) ?_
                  exact loop _ rfl (by omega) (by omega) q5 (up - fr) 0 (by omega)
                · simp only [cCmp, cE2, sev, svl, cen, List.cons_append, List.nil_append] at h
                  omega
              · refine ⟨rfl, ?_⟩
                refine d_br (fun h => ?_) (fun h => ?_)
                · simp only [cCmp, cE2, sev, svl, cen, List.cons_append, List.nil_append] at h
                  omega
                · clear h
                  exact d_ret [1] rfl (by decide) (hPo _ _ ⟨1, rfl, i2, e2, Or.inr (Or.inl ⟨rfl, by omega, by rw [r12] at q5; exact q5⟩), fun _ => g2, fun z => by omega, ⟨fun z => by omega, fun _ => kq⟩⟩)
          · simp only [cCmp, cE2, sev, svl, cen, List.cons_append, List.nil_append] at h
            first
            | omega
            | skip
              exact d_ret [(-1)] rfl (by decide) (hPo _ _ ⟨-1, rfl, i2, e2, Or.inl ⟨rfl, by omega⟩, fun _ => g2, fun z => by omega, ⟨fun z => by omega, fun _ => kq⟩⟩)
  · refine ⟨rfl, ?_⟩
    refine d_br (fun h => ?_) (fun h => ?_)
    · clear h
      exact d_ret [(-1)] rfl (by decide) (hPo _ _ ⟨-1, rfl, i2, e2, Or.inl ⟨rfl, by omega⟩, fun _ => g2, fun z => by omega, ⟨fun z => by omega, fun _ => kq⟩⟩)
    · simp only [cCmp, cE2, sev, svl, cen, List.cons_append, List.nil_append] at h
      omega
theorem m_name2 (hp : cPl tm tc tf EX) {M : SMem} {n : Nat} {a g s : Int} (hI : sI tg M) (hn : M 1 0 2 = (n : Int)) (h9 : n ≤ 1000) (hs : 0 ≤ s ∧ s ≤ 1) : cBG tm tf EX l dC dI cA ad scrS (d + 3) kX10_name [(2, 1, 0), (0, 0, a), (0, 0, g), (0, 0, s)] M (fun rr MM => ∃ r : Int, rr = [r] ∧ wNm M n a g s r MM ∧ -1 ≤ r ∧ r ≤ 2 ∧ sFm M r MM) := by
  refine cMeth (v := [a, g, s]) (Fd := 60) hp (by decide) gX10_name_ok gX10_name_m0 (by simp [cAs, cE2, sev, svl, cen]) ?_
  -- the letters
  have loop2 : ∀ (fr up nm m k : Nat) (M1 : SMem), fr = wf (M 12 0) n → up = wu (M 12 0) n → a = (nm : Int) → nm < 8 → 0 ≤ g ∧ g < 6 → wTx 0 (M 12 0) fr up → up ≤ n → ¬ wOt (M 17 0) (M 20 0) (M 21 0) (M 12 0) fr up nm → k + m = up - fr → sI tg M1 → (∀ f j i, f ≠ 1 → ¬ (17 ≤ f ∧ f ≤ 21) → M1 f j i = M f j i) → M1 17 0 = wSt (M 17 0) nm 1 → M1 19 0 = wSt (M 19 0) nm s → M1 18 0 = wSt (M 18 0) nm g → M1 20 0 = wSt (M 20 0) nm ((up - fr : Nat) : Int) → M1 21 0 = wPt (M 21 0) (M 12 0) fr nm k → M1 1 0 2 = 0 → (∀ i, i ≠ 0 → i ≠ 2 → i ≠ 10 → i ≠ 11 → M1 1 0 i = M 1 0 i) → M1 1 0 10 = (fr : Int) → cEnds (cBG tm tf EX l dC dI cA ad scrS (d + 2)) (fun rr MM => ∃ r : Int, rr = [r] ∧ wNm M n a g s r MM ∧ -1 ≤ r ∧ r ≤ 2 ∧ sFm M r MM) 60 gX10_name 122 [(nm : Int), (k : Int)] M1 := by
    intro fr up nm m
    induction m with
    | zero =>
      intro k M1 hfr hup ha hnm hg ht hun ho hk i1 f1 r17 r19 r18 r20 r21 e4 kq e2
      have h1 := ht.1
      have h2 := ht.2.1
      refine cEnds_at gX10_name_m122 rfl ?_
      refine d_row 0 nm (by simp only [cE2, sev, svl, cen, List.cons_append, List.nil_append]; omega) (by simp only [cE2, sev, svl, cen, List.cons_append, List.nil_append]; omega) hnm ?_
      rw [show M1 20 0 nm = ((up - fr : Nat) : Int) by rw [r20, wSt_at]]
      refine d_br (fun h => ?_) (fun h => ?_)
      · have ek : k = up - fr := by omega
        refine d_rng (by simp only [clo, chi, cE2, sev, svl, cen, List.cons_append, List.nil_append]; omega) ?_
        refine d_put 0 1 rfl rfl ?_
        subst ha hfr hup ek
        refine d_ret [0] rfl (by decide) ⟨0, rfl, ⟨wI (lo := 0) (hi := 1) i1 rfl ⟨by omega, by omega⟩, fun f j i q1 q2 => by rw [supd_f q1, f1 f j i q1 q2], Or.inr ⟨by omega, Or.inr ⟨ht, Or.inr ⟨rfl, ho⟩⟩⟩, ⟨fun _ => ⟨?_, ?_, ?_, ?_, ?_⟩, fun z => absurd rfl z⟩, by rw [supd_i (by decide)]; exact e4⟩, by omega, by omega, ⟨fun _ => ⟨supd_at _ _ _ _ _, by rw [supd_i (by decide)]; exact kq 34 (by decide) (by decide) (by decide) (by decide)⟩, fun z => absurd rfl z⟩⟩
        · rw [supd_ff (by decide), r17]; rfl
        · rw [supd_ff (by decide), r19]; rfl
        · rw [supd_ff (by decide), r18]; rfl
        · rw [supd_ff (by decide), r20]
          show wSt _ nm _ = wSt _ nm _
          congr 1
          omega
        · rw [supd_ff (by decide), r21]; rfl
      · simp only [cCmp, cE2, sev, svl, cen, List.cons_append, List.nil_append] at h
        omega
    | succ m ih =>
      intro k M1 hfr hup ha hnm hg ht hun ho hk i1 f1 r17 r19 r18 r20 r21 e4 kq e2
      have h1 := ht.1
      have h2 := ht.2.1
      refine cEnds_at gX10_name_m122 rfl ?_
      refine d_row 0 nm (by simp only [cE2, sev, svl, cen, List.cons_append, List.nil_append]; omega) (by simp only [cE2, sev, svl, cen, List.cons_append, List.nil_append]; omega) hnm ?_
      rw [show M1 20 0 nm = ((up - fr : Nat) : Int) by rw [r20, wSt_at]]
      refine d_br (fun h => ?_) (fun h => ?_)
      · simp only [cCmp, cE2, sev, svl, cen, List.cons_append, List.nil_append] at h
        omega
      · refine d_rng (by simp only [clo, chi, cE2, sev, svl, cen, List.cons_append, List.nil_append]; omega) ?_
        refine d_rng (by simp only [clo, chi, cE2, sev, svl, cen, List.cons_append, List.nil_append]; omega) ?_
        refine d_fld 0 rfl ?_
        rw [e2]
        refine d_rng (by simp only [clo, chi, cE2, sev, svl, cen, List.cons_append, List.nil_append]; omega) ?_
        refine d_row 0 (fr + k) (by simp only [cE2, sev, svl, cen, List.cons_append, List.nil_append]; omega) (by simp only [cE2, sev, svl, cen, List.cons_append, List.nil_append]; omega) (by omega) ?_
        rw [f1 12 0 (fr + k) (by decide) (by decide)]
        have hT := wIb (f := 12) (i := fr + k) (lo := 0) (hi := 126) hI 0 rfl
        refine d_set 0 (8 * nm + k) (M 12 0 (fr + k)) (by simp only [cE2, sev, svl, cen, List.cons_append, List.nil_append]; omega) (by simp only [cE2, sev, svl, cen, List.cons_append, List.nil_append]; omega) (by omega) (by simp only [cE2, sev, svl, cen, List.cons_append, List.nil_append]; omega) ?_
        refine d_rng (by simp only [clo, chi, cE2, sev, svl, cen, List.cons_append, List.nil_append]; omega) ?_
        refine d_cut [(nm : Int), ((k + 1 : Nat) : Int)] (by simp [cE2, sev, svl, cen] <;> omega) ?_
        refine ih (k + 1) _ hfr hup ha hnm hg ht hun ho (by omega) (wI (lo := 0) (hi := 126) i1 rfl ⟨by omega, by omega⟩) (fun f j i q1 q2 => by rw [supd_f (by omega), f1 f j i q1 q2]) (by rw [supd_ff (by decide), r17]) (by rw [supd_ff (by decide), r19]) (by rw [supd_ff (by decide), r18]) (by rw [supd_ff (by decide), r20]) (by rw [supd_row, r21, wPt_s]) (by rw [supd_f (by decide)]; exact e4) (fun i z1 z2 z3 z4 => by rw [supd_f (by decide)]; exact kq i z1 z2 z3 z4) (by rw [supd_f (by decide)]; exact e2)
  -- is it another's
  have loop1 : ∀ (fr up nm m k : Nat) (M1 : SMem), fr = wf (M 12 0) n → up = wu (M 12 0) n → a = (nm : Int) → nm < 8 → 0 ≤ g ∧ g < 6 → wTx 0 (M 12 0) fr up → up ≤ n → k + m = 8 → (∀ i : Nat, i < k → ¬ (i ≠ nm ∧ M 17 0 i ≠ 0 ∧ wWd (M 20 0) (M 21 0) (M 12 0) fr up i)) → sI tg M1 → (∀ f j i, f ≠ 1 → M1 f j i = M f j i) → M1 1 0 2 = 0 → (∀ i, i ≠ 0 → i ≠ 2 → i ≠ 10 → i ≠ 11 → M1 1 0 i = M 1 0 i) → M1 1 0 10 = (fr : Int) → M1 1 0 11 = (up : Int) → cEnds (cBG tm tf EX l dC dI cA ad scrS (d + 2)) (fun rr MM => ∃ r : Int, rr = [r] ∧ wNm M n a g s r MM ∧ -1 ≤ r ∧ r ≤ 2 ∧ sFm M r MM) 60 gX10_name 43 [(nm : Int), g, s, (k : Int)] M1 := by
    intro fr up nm m
    induction m with
    | zero =>
      intro k M1 hfr hup ha hnm hg ht hun hk hl i1 f1 e4 kq e2 e3
      have h1 := ht.1
      have h2 := ht.2.1
      have r1 : ∀ f, f ≠ 1 → M1 f = M f := fun f q => by
        funext j i
        exact f1 f j i q
      refine cEnds_at gX10_name_m43 rfl ?_
      refine d_br (fun h => ?_) (fun h => ?_)
      · refine d_rng (by simp only [clo, chi, cE2, sev, svl, cen, List.cons_append, List.nil_append]; omega) ?_
        refine d_set 0 nm 1 (by simp only [cE2, sev, svl, cen, List.cons_append, List.nil_append]; omega) (by simp only [cE2, sev, svl, cen, List.cons_append, List.nil_append]; omega) hnm (by simp only [cE2, sev, svl, cen, List.cons_append, List.nil_append]; omega) ?_
        refine d_set 0 nm g (by simp only [cE2, sev, svl, cen, List.cons_append, List.nil_append]; omega) (by simp only [cE2, sev, svl, cen, List.cons_append, List.nil_append]; omega) hnm (by simp only [cE2, sev, svl, cen, List.cons_append, List.nil_append]; omega) ?_
        refine d_rng (by simp only [clo, chi, cE2, sev, svl, cen, List.cons_append, List.nil_append]; omega) ?_
        refine d_set 0 nm s (by simp only [cE2, sev, svl, cen, List.cons_append, List.nil_append]; omega) (by simp only [cE2, sev, svl, cen, List.cons_append, List.nil_append]; omega) hnm (by simp only [cE2, sev, svl, cen, List.cons_append, List.nil_append]; omega) ?_
        refine d_fld 0 rfl ?_
        refine d_fld 0 rfl ?_
        rw [supd_f (by decide), supd_f (by decide), supd_f (by decide), supd_f (by decide), supd_f (by decide), supd_f (by decide), e2, e3]
        refine d_rng (by simp only [clo, chi, cE2, sev, svl, cen, List.cons_append, List.nil_append]; omega) ?_
        refine d_set 0 nm ((up - fr : Nat) : Int) (by simp only [cE2, sev, svl, cen, List.cons_append, List.nil_append]; omega) (by simp only [cE2, sev, svl, cen, List.cons_append, List.nil_append]; omega) hnm (by simp only [cE2, sev, svl, cen, List.cons_append, List.nil_append]; omega) ?_
        refine d_cut [(nm : Int), ((0 : Nat) : Int)] (by simp [cE2, sev, svl, cen] <;> omega) ?_
        refine loop2 fr up nm (up - fr) 0 _ hfr hup ha hnm hg ht hun (fun q => by
          obtain ⟨i, hi, q⟩ := q
          exact hl i (by omega) q) (by omega) (wI (lo := 0) (hi := 8) (wI (lo := 0) (hi := 1) (wI (lo := 0) (hi := 5) (wI (lo := 0) (hi := 1) i1 rfl ⟨by omega, by omega⟩) rfl ⟨by omega, by omega⟩) rfl hs) rfl ⟨by omega, by omega⟩) (fun f j i q1 q2 => by rw [supd_f (by omega), supd_f (by omega), supd_f (by omega), supd_f (by omega), f1 f j i q1]) ?_ ?_ ?_ ?_ ?_ ?_ ?_ ?_
        · rw [supd_ff (by decide), supd_ff (by decide), supd_ff (by decide), supd_row, r1 17 (by decide)]
        · rw [supd_ff (by decide), supd_row, supd_ff (by decide), supd_ff (by decide), r1 19 (by decide)]
        · rw [supd_ff (by decide), supd_ff (by decide), supd_row, supd_ff (by decide), r1 18 (by decide)]
        · rw [supd_row, supd_ff (by decide), supd_ff (by decide), supd_ff (by decide), r1 20 (by decide)]
        · rw [supd_ff (by decide), supd_ff (by decide), supd_ff (by decide), supd_ff (by decide), r1 21 (by decide), wPt_0]
        · rw [supd_f (by decide), supd_f (by decide), supd_f (by decide), supd_f (by decide)]
          exact e4
        · intro i z1 z2 z3 z4
          rw [supd_f (by decide), supd_f (by decide), supd_f (by decide), supd_f (by decide)]
          exact kq i z1 z2 z3 z4
        · rw [supd_f (by decide), supd_f (by decide), supd_f (by decide), supd_f (by decide)]
          exact e2
      · simp only [cCmp, cE2, sev, svl, cen, List.cons_append, List.nil_append] at h
        omega
    | succ m ih =>
      intro k M1 hfr hup ha hnm hg ht hun hk hl i1 f1 e4 kq e2 e3
      have h1 := ht.1
      have h2 := ht.2.1
      have r1 : ∀ f, f ≠ 1 → M1 f = M f := fun f q => by
        funext j i
        exact f1 f j i q
      have nx : ¬ (k ≠ nm ∧ M 17 0 k ≠ 0 ∧ wWd (M 20 0) (M 21 0) (M 12 0) fr up k) → cEnds (cBG tm tf EX l dC dI cA ad scrS (d + 2)) (fun rr MM => ∃ r : Int, rr = [r] ∧ wNm M n a g s r MM ∧ -1 ≤ r ∧ r ≤ 2 ∧ sFm M r MM) 60 gX10_name 43 [(nm : Int), g, s, ((k + 1 : Nat) : Int)] M1 := fun hq => ih (k + 1) M1 hfr hup ha hnm hg ht hun (by omega) (fun i a => by
        by_cases hik : i = k
        · rw [hik]
          exact hq
        · exact hl i (by omega)) i1 f1 e4 kq e2 e3
      refine cEnds_at gX10_name_m43 rfl ?_
      refine d_br (fun h => ?_) (fun h => ?_)
      · simp only [cCmp, cE2, sev, svl, cen, List.cons_append, List.nil_append] at h
        omega
      · refine d_br (fun h => ?_) (fun h => ?_)
        · simp only [cCmp, cE2, sev, svl, cen, List.cons_append, List.nil_append] at h
          refine d_rng (by simp only [clo, chi, cE2, sev, svl, cen, List.cons_append, List.nil_append]; omega) ?_
          refine d_cut [(nm : Int), g, s, ((k + 1 : Nat) : Int)] (by simp [cE2, sev, svl, cen] <;> omega) ?_
          exact nx (fun q => by have := q.1; omega)
        · simp only [cCmp, cE2, sev, svl, cen, List.cons_append, List.nil_append] at h
          refine d_row 0 k (by simp only [cE2, sev, svl, cen, List.cons_append, List.nil_append]; omega) (by simp only [cE2, sev, svl, cen, List.cons_append, List.nil_append]; omega) (by omega) ?_
          rw [r1 17 (by decide)]
          refine d_br (fun h => ?_) (fun h => ?_)
          · simp only [cCmp, cE2, sev, svl, cen, List.cons_append, List.nil_append] at h
            refine d_rng (by simp only [clo, chi, cE2, sev, svl, cen, List.cons_append, List.nil_append]; omega) ?_
            refine d_cut [(nm : Int), g, s, ((k + 1 : Nat) : Int)] (by simp [cE2, sev, svl, cen] <;> omega) ?_
            exact nx (fun q => by have := q.2.1; omega)
          · simp only [cCmp, cE2, sev, svl, cen, List.cons_append, List.nil_append] at h
            have h17 : M 17 0 k ≠ 0 := by omega
            refine d_call (m_isTaped hp (nm := k) i1 (by omega) e2 e3 (by omega)) (by simp [cAs, cE2, sev, svl, cen]) ?_
            rintro rr M' ⟨rfl, hb⟩
            rw [r1 20 (by decide), r1 21 (by decide), r1 12 (by decide)] at hb
            rcases hb with ⟨rfl, hb⟩ | ⟨rfl, hb⟩
            · refine ⟨rfl, ?_⟩
              refine d_br (fun h => ?_) (fun h => ?_)
              · simp only [cCmp, cE2, sev, svl, cen, List.cons_append, List.nil_append] at h
                omega
              · subst ha hfr hup
                refine d_ret [2] rfl (by decide) ⟨2, rfl, ⟨i1, fun f j i q1 _ => f1 f j i q1, Or.inr ⟨by omega, Or.inr ⟨ht, Or.inl ⟨rfl, k, by omega, by omega, h17, hb⟩⟩⟩, ⟨fun z => by omega, fun _ => ⟨?_, ?_, ?_, ?_, ?_⟩⟩, e4⟩, by omega, by omega, ⟨fun z => by omega, fun _ => kq⟩⟩ <;> rw [r1 _ (by decide)]
            · refine ⟨rfl, ?_⟩
              refine d_br (fun h => ?_) (fun h => ?_)
              · refine d_rng (by simp only [clo, chi, cE2, sev, svl, cen, List.cons_append, List.nil_append]; omega) ?_
                refine d_cut [(nm : Int), g, s, ((k + 1 : Nat) : Int)] (by simp [cE2, sev, svl, cen] <;> omega) ?_
                exact nx (fun q => hb q.2.2)
              · simp only [cCmp, cE2, sev, svl, cen, List.cons_append, List.nil_append] at h
                omega
  refine cEnds_at gX10_name_m0 rfl ?_
  refine d_put 0 0 rfl rfl ?_
  have i0 : sI tg (supd M 1 0 0 0) := wI (lo := 0) (hi := 1) hI rfl ⟨by omega, by omega⟩
  have f0 : ∀ f j i, f ≠ 1 → supd M 1 0 0 0 f j i = M f j i := fun f j i q => supd_f q
  refine d_call (m_bares hp (n := n) (by rw [supd_i (by decide)]; exact hn) h9 i0) (by simp [cAs, cE2, sev, svl, cen]) ?_
  rintro rr M1 ⟨rfl, i1, f1, e2, e3, e4, e5⟩
  refine ⟨rfl, ?_⟩
  rw [supd_ff (by decide)] at e2 e3
  have f1 : ∀ f j i, f ≠ 1 → M1 f j i = M f j i := fun f j i q => by rw [f1 f j i q, f0 f j i q]
  have r1 : ∀ f, f ≠ 1 → M1 f = M f := fun f q => by
    funext j i
    exact f1 f j i q
  have kq : ∀ i, i ≠ 0 → i ≠ 2 → i ≠ 10 → i ≠ 11 → M1 1 0 i = M 1 0 i := fun i z1 z2 z3 z4 => by rw [e5 i z3 z4 z2]; exact supd_i z1
  have hfu := wfu (M 12 0) n
  have hno : ¬ (0 ≤ a ∧ a < 8 ∧ 0 ≤ g ∧ g < 6) → wNm M n a g s (-1) M1 := fun q => ⟨i1, fun f j i q1 _ => f1 f j i q1, Or.inl ⟨rfl, q⟩, ⟨fun z => by omega, fun _ => ⟨by rw [r1 _ (by decide)], by rw [r1 _ (by decide)], by rw [r1 _ (by decide)], by rw [r1 _ (by decide)], by rw [r1 _ (by decide)]⟩⟩, e4⟩
  refine d_call (m_within hp (x := a) (y := 0) (z := 7)) (by simp [cAs, cE2, sev, svl, cen]) ?_
  rintro rr M' ⟨rfl, hb⟩
  rcases hb with ⟨rfl, ha⟩ | ⟨rfl, ha⟩
  · refine ⟨rfl, ?_⟩
    refine d_br (fun h => ?_) (fun h => ?_)
    · simp only [cCmp, cE2, sev, svl, cen, List.cons_append, List.nil_append] at h
      omega
    · refine d_call (m_within hp (x := g) (y := 0) (z := 5)) (by simp [cAs, cE2, sev, svl, cen]) ?_
      rintro rr M' ⟨rfl, hb⟩
      rcases hb with ⟨rfl, hg⟩ | ⟨rfl, hg⟩
      · refine ⟨rfl, ?_⟩
        refine d_br (fun h => ?_) (fun h => ?_)
        · refine d_call (m_areLetters hp (s := 0) e2 e3 (by omega)) (by simp [cAs, cE2, sev, svl, cen]) ?_
          rintro rr M' ⟨rfl, hb⟩
          rw [r1 12 (by decide)] at hb
          rcases hb with ⟨rfl, ht⟩ | ⟨rfl, ht⟩
          · refine ⟨rfl, ?_⟩
            refine d_br (fun h => ?_) (fun h => ?_)
            · obtain ⟨nm, ea⟩ : ∃ nm : Nat, a = (nm : Int) := ⟨a.toNat, by omega⟩
              refine d_cut [(nm : Int), g, s, ((0 : Nat) : Int)] (by simp [cE2, sev, svl, cen] <;> omega) ?_
              exact loop1 _ _ nm 8 0 _ rfl rfl ea (by omega) (by omega) ht (by omega) (by omega) (fun i a => by omega) i1 f1 e4 kq e2 e3
            · simp only [cCmp, cE2, sev, svl, cen, List.cons_append, List.nil_append] at h
              omega
          · refine ⟨rfl, ?_⟩
            refine d_br (fun h => ?_) (fun h => ?_)
            · simp only [cCmp, cE2, sev, svl, cen, List.cons_append, List.nil_append] at h
              omega
            · refine d_ret [1] rfl (by decide) ⟨1, rfl, ⟨i1, fun f j i q1 _ => f1 f j i q1, Or.inr ⟨by omega, Or.inl ⟨rfl, ht⟩⟩, ⟨fun z => by omega, fun _ => ⟨?_, ?_, ?_, ?_, ?_⟩⟩, e4⟩, by omega, by omega, ⟨fun z => by omega, fun _ => kq⟩⟩ <;> rw [r1 _ (by decide)]
        · simp only [cCmp, cE2, sev, svl, cen, List.cons_append, List.nil_append] at h
          omega
      · refine ⟨rfl, ?_⟩
        refine d_br (fun h => ?_) (fun h => ?_)
        · simp only [cCmp, cE2, sev, svl, cen, List.cons_append, List.nil_append] at h
          omega
        · exact d_ret [-1] rfl (by decide) ⟨-1, rfl, hno (by omega), by omega, by omega, ⟨fun z => by omega, fun _ => kq⟩⟩
  · refine ⟨rfl, ?_⟩
    refine d_br (fun h => ?_) (fun h => ?_)
    · exact d_ret [-1] rfl (by decide) ⟨-1, rfl, hno (by omega), by omega, by omega, ⟨fun z => by omega, fun _ => kq⟩⟩
    · simp only [cCmp, cE2, sev, svl, cen, List.cons_append, List.nil_append] at h
      omega
end CS20
