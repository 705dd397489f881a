/-! stories: the reference is asked -/
def sRF (Z : STZ) (dt : Nat → Int) (A M : SMem) : Prop := sI tg A ∧ (∀ f j i, f ≠ 34 → f ≠ 35 → f ≠ 36 → ¬ (f = 1 ∧ (i = 0 ∨ i = 28 ∨ i = 32 ∨ i = 34)) → A f j i = M f j i) ∧ A 1 0 28 = 0 ∧ sKm Z dt A
/-- a name that may have stood, by the walls -/
def stSZ (Z : STZ) (L : List (Nat → Int)) (p ly nm : Nat) : Prop := Z.2.2.2.1 p ly nm ∧ ∃ s, s ∈ L ∧ (Z.2.2.1 p ly ≠ 4 → Z.2.2.2.2 nm ≤ s (Z.2.1 p ly)) ∧ (ly + 1 < Z.1 p → Z.2.2.2.2 nm + 1 ≤ s (Z.2.1 p (ly + 1)))
theorem r3_or : ∀ b0 b1 b2 : Bool, cfn 1 (r3 b0 b1 b2) 1 = r3 true b1 b2 ∧ cfn 1 (r3 b0 b1 b2) 2 = r3 b0 true b2 ∧ cfn 1 (r3 b0 b1 b2) 4 = r3 b0 b1 true := by decide +kernel
theorem take_mem {L : List (Nat → Int)} {k : Nat} {s : Nat → Int} (hs : L[k]? = some s) (s' : Nat → Int) : s' ∈ L.take (k + 1) ↔ (s' ∈ L.take k ∨ s' = s) := by
  rw [List.take_succ, hs, List.mem_append]
  exact or_congr Iff.rfl List.mem_singleton
theorem take_ex {L : List (Nat → Int)} {k : Nat} {s : Nat → Int} (hs : L[k]? = some s) (P : (Nat → Int) → Prop) : (∃ s', s' ∈ L.take (k + 1) ∧ P s') ↔ ((∃ s', s' ∈ L.take k ∧ P s') ∨ P s) := by
  constructor
  · rintro ⟨s', h1, h2⟩
    rcases (take_mem hs s').mp h1 with h | h
    · exact Or.inl ⟨s', h, h2⟩
    · rw [h] at h2
      exact Or.inr h2
  · rintro (⟨s', h1, h2⟩ | h)
    · exact ⟨s', (take_mem hs s').mpr (Or.inl h1), h2⟩
    · exact ⟨s, (take_mem hs s).mpr (Or.inr rfl), h⟩
section CS18
variable {EX : SEx} {l : Launch} {dC : Nat → ClassId} {dI : Nat → Nat → Nat} {cA : Nat → ClassId} {ad : SAd} {scrS d : Nat}
theorem m_find (hp : cPl tm tc tf EX) {Z : STZ} {dt : Nat → Int} {M : SMem} (hI : sI tg M) (hX : sX M) (hZ : sWf Z) (hz : sMz Z M) (hdt : M 33 0 = dt) (hK : sKm Z dt M) : cBG tm tf EX l dC dI cA ad scrS (d + 17) kX10_findStories [(2, 1, 0)] (supd M 1 0 0 0) (fun rr MM => rr = [] ∧ sRF Z dt MM M) := by
  have row : ∀ f, f ≠ 1 → supd M 1 0 0 0 f = M f := fun f y => supd_ff y
  refine cBG_post (m_findStories hp (Z := Z) (dt := dt) (wI (lo := 0) (hi := 1) hI rfl ⟨by omega, by omega⟩) (sX_congr (row 29 (by decide)) (row 27 (by decide)) (row 50 (by decide)) hX) hZ (sMz_cg (fun f hf => row f (fun z => by rw [z] at hf; revert hf; decide)) hz) (by rw [row 33 (by decide)]; exact hdt) ?_) (fun rr MM h => ?_)
  · unfold sKm
    rw [supd_i (by decide), supd_i (by decide), supd_i (by decide), row 36 (by decide), row 35 (by decide)]
    exact hK
  · obtain ⟨h0, i1, f1, e28, k1⟩ := h
    exact ⟨h0, i1, fun f j i y1 y2 y3 y4 => by rw [f1 f j i y1 y2 y3 (fun q => y4 ⟨q.1, Or.inr q.2⟩)]; exact if_neg (fun q => y4 ⟨q.1, Or.inl q.2.2⟩), e28, k1⟩
theorem m_isHand (hp : cPl tm tc tf EX) {Z : STZ} {a : Int} {M : SMem} (e35 : ∀ g, g < 6 → M 35 0 g = cond (sBb Z g) 1 0) : cBG tm tf EX l dC dI cA ad scrS (d + 2) kX10_isHand [(2, 1, 0), (0, 0, a)] M (fun rr MM => MM = M ∧ ((rr = [1] ∧ (0 ≤ a ∧ a < 6 ∧ sBz Z a.toNat)) ∨ (rr = [0] ∧ ¬ (0 ≤ a ∧ a < 6 ∧ sBz Z a.toNat)))) := by
  have e : 0 ≤ a ∧ a < 6 → (M 35 0 a.toNat = 1 ∧ sBz Z a.toNat) ∨ (M 35 0 a.toNat = 0 ∧ ¬ sBz Z a.toNat) := fun q => by
    rw [e35 a.toNat (by omega)]
    cases hb : sBb Z a.toNat with
    | true => exact Or.inl ⟨rfl, sBb_y.mp hb⟩
    | false => exact Or.inr ⟨rfl, sBb_n.mp hb⟩
  refine cMeth (v := [a]) (Fd := 90) hp (by decide) gX10_isHand_ok gX10_isHand_m0 (by simp [cAs, cE2, sev, svl, cen]) ?_
  refine cEnds_at gX10_isHand_m0 rfl ?_
  refine d_call (m_within hp (x := a) (y := 0) (z := 5)) (by simp [cAs, cE2, sev, svl, cen] <;> omega) ?_
  intro rr M' hq
  obtain ⟨hM', hq⟩ := hq
  rw [hM']
  rcases hq with ⟨rfl, q1⟩ | ⟨rfl, q1⟩
  · refine ⟨rfl, ?_⟩
    refine d_br (fun h => ?_) (fun h => ?_)
    · simp only [cCmp, cE2, sev, svl, cen, List.cons_append, List.nil_append] at h
      omega
    · clear h
      refine d_row 0 a.toNat (by simp only [cE2, sev, svl, cen, List.cons_append, List.nil_append]; omega) (by simp only [cE2, sev, svl, cen, List.cons_append, List.nil_append]; omega) (by omega) ?_
      refine d_br (fun h => ?_) (fun h => ?_)
      · simp only [cCmp, cE2, sev, svl, cen, List.cons_append, List.nil_append] at h
        first
        | omega
        | skip
          exact d_ret [0] rfl (by decide) ⟨rfl, Or.inr ⟨rfl, fun q => (e ⟨q.1, q.2.1⟩).elim (fun y => by omega) (fun y => y.2 q.2.2)⟩⟩
      · simp only [cCmp, cE2, sev, svl, cen, List.cons_append, List.nil_append] at h
        first
        | omega
        | skip
          exact d_ret [1] rfl (by decide) ⟨rfl, Or.inl ⟨rfl, by omega, by omega, (e ⟨by omega, by omega⟩).elim (fun y => y.2) (fun y => absurd y.1 (by omega))⟩⟩
  · refine ⟨rfl, ?_⟩
    refine d_br (fun h => ?_) (fun h => ?_)
    · clear h
      exact d_ret [0] rfl (by decide) ⟨rfl, Or.inr ⟨rfl, fun q => by omega⟩⟩
    · simp only [cCmp, cE2, sev, svl, cen, List.cons_append, List.nil_append] at h
      omega
theorem m_story (hp : cPl tm tc tf EX) {Z : STZ} {dt : Nat → Int} {k a : Int} {M : SMem} (hI : sI tg M) (hX : sX M) (hZ : sWf Z) (hz : sMz Z M) (hdt : M 33 0 = dt) (hK : sKm Z dt M) : cBG tm tf EX l dC dI cA ad scrS (d + 18) kX10_story [(2, 1, 0), (0, 0, k), (0, 0, a)] M (fun rr MM => sRF Z dt MM M ∧ ∃ r : Int, rr = [r] ∧ ((¬ (0 ≤ k ∧ k < (((stS Z dt).length : Nat) : Int) ∧ 0 ≤ a ∧ a < 6 ∧ sBz Z a.toNat) ∧ r = -1) ∨ ((0 ≤ k ∧ k < (((stS Z dt).length : Nat) : Int) ∧ 0 ≤ a ∧ a < 6 ∧ sBz Z a.toNat) ∧ ∃ s, (stS Z dt)[k.toNat]? = some s ∧ r = s a.toNat))) := by
  refine cMeth (v := [k, a]) (Fd := 90) hp (by decide) gX10_story_ok gX10_story_m0 (by simp [cAs, cE2, sev, svl, cen]) ?_
  refine cEnds_at gX10_story_m0 rfl ?_
  refine d_put 0 0 (by simp only [cE2, sev, svl, cen, List.cons_append, List.nil_append]; omega) (by simp only [cE2, sev, svl, cen, List.cons_append, List.nil_append]; omega) ?_
  refine d_call (m_find (d := d) hp hI hX hZ hz hdt hK) (by simp [cAs, cE2, sev, svl, cen]) ?_
  rintro rr M1 ⟨rfl, hF⟩
  refine ⟨rfl, ?_⟩
  obtain ⟨i1, f1, e28, e34, hk⟩ := id hF
  obtain ⟨e32, e36, e35⟩ := hk e28
  have b9 := stS_len (Z := Z) (dt := dt)
  have hs := fun s (h : s ∈ stS Z dt) => stS_rng hZ h
  generalize stS Z dt = L at e32 e36 b9 hs ⊢
  have get : 0 ≤ k → k < ((L.length : Nat) : Int) → ∃ s, L[k.toNat]? = some s := fun z1 z2 => ⟨L[k.toNat]'(by omega), List.getElem?_eq_getElem (by omega)⟩
  by_cases hq : (0 ≤ k ∧ k < ((L.length : Nat) : Int)) ∧ 0 ≤ a ∧ a < 6 ∧ sBz Z a.toNat
  · obtain ⟨⟨k0, k9⟩, a0, a6, bz⟩ := hq
    obtain ⟨s, hsk⟩ := get k0 k9
    have bs := hs s (List.mem_of_getElem? hsk) a.toNat (by omega)
    refine d_br (fun h => ?_) (fun h => ?_)
    · simp only [cCmp, cE2, sev, svl, cen, List.cons_append, List.nil_append] at h
      first
      | omega
      | skip
        exact d_ret [(-1)] rfl (by decide) (by omega)
    · simp only [cCmp, cE2, sev, svl, cen, List.cons_append, List.nil_append] at h
      first
      | omega
      | skip
        refine d_fld 0 (by simp only [cE2, sev, svl, cen, List.cons_append, List.nil_append]; omega) ?_
        rw [e32]
        refine d_br (fun h => ?_) (fun h => ?_)
        · simp only [cCmp, cE2, sev, svl, cen, List.cons_append, List.nil_append] at h
          first
          | omega
          | skip
            exact d_ret [(-1)] rfl (by decide) (by omega)
        · simp only [cCmp, cE2, sev, svl, cen, List.cons_append, List.nil_append] at h
          first
          | omega
          | skip
            refine d_call (m_isHand hp (Z := Z) (a := a) e35) (by simp [cAs, cE2, sev, svl, cen] <;> omega) ?_
            intro rr M' hq
            obtain ⟨hM', hq⟩ := hq
            rw [hM']
            rcases hq with ⟨rfl, q3⟩ | ⟨rfl, q3⟩
            · refine ⟨rfl, ?_⟩
              refine d_br (fun h => ?_) (fun h => ?_)
              · simp only [cCmp, cE2, sev, svl, cen, List.cons_append, List.nil_append] at h
                omega
              · clear h
                refine d_call (m_reignIn hp (i := k.toNat) (g := a.toNat) (s := s) (by omega) (e36 _ s hsk) (hs s (List.mem_of_getElem? hsk)) (by omega)) (by simp [cAs, cE2, sev, svl, cen] <;> omega) ?_
                intro rr M' hq
                obtain ⟨hM', rfl⟩ := hq
                rw [hM']
                refine ⟨rfl, ?_⟩
                exact wret1 (s a.toNat) (by simp only [cE2, sev, svl, cen, List.cons_append, List.nil_append]; omega) (by omega) ⟨hF, _, rfl, Or.inr ⟨⟨k0, k9, a0, a6, bz⟩, s, hsk, rfl⟩⟩
            · refine ⟨rfl, ?_⟩
              refine d_br (fun h => ?_) (fun h => ?_)
              · clear h
                exact d_ret [(-1)] rfl (by decide) (absurd ⟨a0, a6, bz⟩ q3)
              · simp only [cCmp, cE2, sev, svl, cen, List.cons_append, List.nil_append] at h
                omega
  · refine d_br (fun h => ?_) (fun h => ?_)
    · simp only [cCmp, cE2, sev, svl, cen, List.cons_append, List.nil_append] at h
      first
      | omega
      | skip
        exact d_ret [(-1)] rfl (by decide) ⟨hF, _, rfl, Or.inl ⟨fun z => hq ⟨⟨z.1, z.2.1⟩, z.2.2⟩, rfl⟩⟩
    · simp only [cCmp, cE2, sev, svl, cen, List.cons_append, List.nil_append] at h
      first
      | omega
      | skip
        refine d_fld 0 (by simp only [cE2, sev, svl, cen, List.cons_append, List.nil_append]; omega) ?_
        rw [e32]
        refine d_br (fun h => ?_) (fun h => ?_)
        · simp only [cCmp, cE2, sev, svl, cen, List.cons_append, List.nil_append] at h
          first
          | omega
          | skip
            exact d_ret [(-1)] rfl (by decide) ⟨hF, _, rfl, Or.inl ⟨fun z => hq ⟨⟨z.1, z.2.1⟩, z.2.2⟩, rfl⟩⟩
        · simp only [cCmp, cE2, sev, svl, cen, List.cons_append, List.nil_append] at h
          first
          | omega
          | skip
            refine d_call (m_isHand hp (Z := Z) (a := a) e35) (by simp [cAs, cE2, sev, svl, cen] <;> omega) ?_
            intro rr M' hq
            obtain ⟨hM', hq⟩ := hq
            rw [hM']
            rcases hq with ⟨rfl, q3⟩ | ⟨rfl, q3⟩
            · refine ⟨rfl, ?_⟩
              refine d_br (fun h => ?_) (fun h => ?_)
              · simp only [cCmp, cE2, sev, svl, cen, List.cons_append, List.nil_append] at h
                omega
              · clear h
                exact absurd ⟨⟨by omega, by omega⟩, q3⟩ hq
            · refine ⟨rfl, ?_⟩
              refine d_br (fun h => ?_) (fun h => ?_)
              · clear h
                exact d_ret [(-1)] rfl (by decide) ⟨hF, _, rfl, Or.inl ⟨fun z => hq ⟨⟨z.1, z.2.1⟩, z.2.2⟩, rfl⟩⟩
              · simp only [cCmp, cE2, sev, svl, cen, List.cons_append, List.nil_append] at h
                omega
theorem m_odds (hp : cPl tm tc tf EX) {Z : STZ} {dt : Nat → Int} {a x : Int} {M : SMem} (hI : sI tg M) (hX : sX M) (hZ : sWf Z) (hz : sMz Z M) (hdt : M 33 0 = dt) (hK : sKm Z dt M) : cBG tm tf EX l dC dI cA ad scrS (d + 18) kX10_odds [(2, 1, 0), (0, 0, a), (0, 0, x)] M (fun rr MM => sRF Z dt MM M ∧ ∃ r : Int, rr = [r] ∧ ((¬ ((0 ≤ a ∧ a < 6 ∧ sBz Z a.toNat) ∧ 0 ≤ x ∧ x < 6) ∧ r = -1) ∨ (((0 ≤ a ∧ a < 6 ∧ sBz Z a.toNat) ∧ 0 ≤ x ∧ x < 6) ∧ r = ((stC (stS Z dt) a.toNat x : Nat) : Int)))) := by
  refine cMeth (v := [a, x]) (Fd := 90) hp (by decide) gX10_odds_ok gX10_odds_m0 (by simp [cAs, cE2, sev, svl, cen]) ?_
  refine cEnds_at gX10_odds_m0 rfl ?_
  refine d_put 0 0 (by simp only [cE2, sev, svl, cen, List.cons_append, List.nil_append]; omega) (by simp only [cE2, sev, svl, cen, List.cons_append, List.nil_append]; omega) ?_
  refine d_call (m_find (d := d) hp hI hX hZ hz hdt hK) (by simp [cAs, cE2, sev, svl, cen]) ?_
  rintro rr M1 ⟨rfl, hF⟩
  refine ⟨rfl, ?_⟩
  obtain ⟨i1, f1, e28, e34, hk⟩ := id hF
  obtain ⟨e32, e36, e35⟩ := hk e28
  have b9 := stS_len (Z := Z) (dt := dt)
  have hs := fun s (h : s ∈ stS Z dt) => stS_rng hZ h
  generalize stS Z dt = L at e32 e36 b9 hs ⊢
  have hc := stC_le (L := L) (a := a.toNat) (x := x)
  refine d_call (m_isHand hp (Z := Z) (a := a) e35) (by simp [cAs, cE2, sev, svl, cen] <;> omega) ?_
  intro rr M' hq
  obtain ⟨hM', hq⟩ := hq
  rw [hM']
  rcases hq with ⟨rfl, q2⟩ | ⟨rfl, q2⟩
  · refine ⟨rfl, ?_⟩
    refine d_br (fun h => ?_) (fun h => ?_)
    · simp only [cCmp, cE2, sev, svl, cen, List.cons_append, List.nil_append] at h
      omega
    · clear h
      refine d_call (m_within hp (x := x) (y := 0) (z := 5)) (by simp [cAs, cE2, sev, svl, cen] <;> omega) ?_
      intro rr M' hq
      obtain ⟨hM', hq⟩ := hq
      rw [hM']
      rcases hq with ⟨rfl, q3⟩ | ⟨rfl, q3⟩
      · refine ⟨rfl, ?_⟩
        refine d_br (fun h => ?_) (fun h => ?_)
        · simp only [cCmp, cE2, sev, svl, cen, List.cons_append, List.nil_append] at h
          omega
        · clear h
          refine d_call (m_countOf hp (L := L) (g := a.toNat) (x := x) b9 e32 e36 hs (by omega)) (by simp [cAs, cE2, sev, svl, cen] <;> omega) ?_
          intro rr M' hq
          obtain ⟨hM', rfl⟩ := hq
          rw [hM']
          refine ⟨rfl, ?_⟩
          exact wret1 ((stC L a.toNat x : Nat) : Int) (by simp only [cE2, sev, svl, cen, List.cons_append, List.nil_append]; omega) (by omega) ⟨hF, _, rfl, Or.inr ⟨⟨q2, by omega, by omega⟩, rfl⟩⟩
      · refine ⟨rfl, ?_⟩
        refine d_br (fun h => ?_) (fun h => ?_)
        · clear h
          exact d_ret [(-1)] rfl (by decide) ⟨hF, _, rfl, Or.inl ⟨fun z => q3 ⟨z.2.1, by have := z.2.2; omega⟩, rfl⟩⟩
        · simp only [cCmp, cE2, sev, svl, cen, List.cons_append, List.nil_append] at h
          omega
  · refine ⟨rfl, ?_⟩
    refine d_br (fun h => ?_) (fun h => ?_)
    · clear h
      exact d_ret [(-1)] rfl (by decide) ⟨hF, _, rfl, Or.inl ⟨fun z => q2 z.1, rfl⟩⟩
    · simp only [cCmp, cE2, sev, svl, cen, List.cons_append, List.nil_append] at h
      omega
set_option maxHeartbeats 4000000 in
theorem m_between (hp : cPl tm tc tf EX) {Z : STZ} {dt : Nat → Int} {a b : Int} {M : SMem} (hI : sI tg M) (hX : sX M) (hZ : sWf Z) (hz : sMz Z M) (hdt : M 33 0 = dt) (hK : sKm Z dt M) : cBG tm tf EX l dC dI cA ad scrS (d + 18) kX10_between [(2, 1, 0), (0, 0, a), (0, 0, b)] M (fun rr MM => sRF Z dt MM M ∧ ∃ r : Int, rr = [r] ∧ ((¬ ((0 ≤ a ∧ a < 6 ∧ sBz Z a.toNat) ∧ (0 ≤ b ∧ b < 6 ∧ sBz Z b.toNat)) ∧ r = -1) ∨ (((0 ≤ a ∧ a < 6 ∧ sBz Z a.toNat) ∧ (0 ≤ b ∧ b < 6 ∧ sBz Z b.toNat)) ∧ r = stR3 (stS Z dt) a.toNat b.toNat))) := by
  refine cMeth (v := [a, b]) (Fd := 90) hp (by decide) gX10_between_ok gX10_between_m0 (by simp [cAs, cE2, sev, svl, cen]) ?_
  suffices H : ∀ Po : List Int → SMem → Prop, (∀ rr MM, (sRF Z dt MM M ∧ ∃ r : Int, rr = [r] ∧ ((¬ ((0 ≤ a ∧ a < 6 ∧ sBz Z a.toNat) ∧ (0 ≤ b ∧ b < 6 ∧ sBz Z b.toNat)) ∧ r = -1) ∨ (((0 ≤ a ∧ a < 6 ∧ sBz Z a.toNat) ∧ (0 ≤ b ∧ b < 6 ∧ sBz Z b.toNat)) ∧ r = stR3 (stS Z dt) a.toNat b.toNat))) → Po rr MM) → cEnds (cBG tm tf EX l dC dI cA ad scrS (d + 17)) Po 90 gX10_between 0 [a, b] M from H _ (fun _ _ h => h)
  intro Po hPo
  refine cEnds_at gX10_between_m0 rfl ?_
  refine d_put 0 0 (by simp only [cE2, sev, svl, cen, List.cons_append, List.nil_append]; omega) (by simp only [cE2, sev, svl, cen, List.cons_append, List.nil_append]; omega) ?_
  refine d_call (m_find (d := d) hp hI hX hZ hz hdt hK) (by simp [cAs, cE2, sev, svl, cen]) ?_
  rintro rr M1 ⟨rfl, hF⟩
  refine ⟨rfl, ?_⟩
  obtain ⟨i1, f1, e28, e34, hk⟩ := id hF
  obtain ⟨e32, e36, e35⟩ := hk e28
  have b9 := stS_len (Z := Z) (dt := dt)
  have hs := fun s (h : s ∈ stS Z dt) => stS_rng hZ h
  generalize stS Z dt = L at e32 e36 b9 hs hPo ⊢
  have loop : (0 ≤ a ∧ a < 6 ∧ sBz Z a.toNat) → (0 ≤ b ∧ b < 6 ∧ sBz Z b.toNat) → ∀ (m k : Nat), k + m = L.length → cEnds (cBG tm tf EX l dC dI cA ad scrS (d + 17)) Po 90 gX10_between 32 [a, b, stR3 (L.take k) a.toNat b.toNat, (k : Int)] M1 := by
    intro ha hb m
    induction m with
    | zero =>
      intro k hk
      have ek : k = L.length := by omega
      subst ek
      rw [List.take_length]
      have br := r3_rng (wDc (stRl L a.toNat b.toNat) 0) (wDc (stRl L a.toNat b.toNat) 1) (wDc (stRl L a.toNat b.toNat) 2)
      refine cEnds_at gX10_between_m32 rfl ?_
      refine d_fld 0 (by simp only [cE2, sev, svl, cen, List.cons_append, List.nil_append]; omega) ?_
      rw [e32]
      refine d_br (fun h => ?_) (fun h => ?_)
      · exact wret1 (stR3 L a.toNat b.toNat) (by simp only [cE2, sev, svl, cen, List.cons_append, List.nil_append]; omega) (by unfold stR3; omega) (hPo _ _ ⟨hF, _, rfl, Or.inr ⟨⟨ha, hb⟩, rfl⟩⟩)
      · simp only [cCmp, cE2, sev, svl, cen, List.cons_append, List.nil_append] at h
        omega
    | succ m ih =>
      intro k hk
      obtain ⟨s, hsk⟩ : ∃ s, L[k]? = some s := ⟨L[k]'(by omega), List.getElem?_eq_getElem (by omega)⟩
      have hm := List.mem_of_getElem? hsk
      have ba := hs s hm a.toNat (by omega)
      have bb := hs s hm b.toNat (by omega)
      have t0 : stRl (L.take (k + 1)) a.toNat b.toNat 0 ↔ (stRl (L.take k) a.toNat b.toNat 0 ∨ s a.toNat + 1 ≤ s b.toNat) := take_ex hsk (fun s => s a.toNat + 1 ≤ s b.toNat)
      have t1 : stRl (L.take (k + 1)) a.toNat b.toNat 1 ↔ (stRl (L.take k) a.toNat b.toNat 1 ∨ s a.toNat = s b.toNat) := take_ex hsk (fun s => s a.toNat = s b.toNat)
      have t2 : stRl (L.take (k + 1)) a.toNat b.toNat 2 ↔ (stRl (L.take k) a.toNat b.toNat 2 ∨ s b.toNat + 1 ≤ s a.toNat) := take_ex hsk (fun s => s b.toNat + 1 ≤ s a.toNat)
      have w : ∀ {P Q R : Prop}, (P ↔ (Q ∨ R)) → ¬ R → (P ↔ Q) := fun h1 h2 => h1.trans ⟨fun q => q.resolve_right h2, Or.inl⟩
      have o := r3_or (wDc (stRl (L.take k) a.toNat b.toNat) 0) (wDc (stRl (L.take k) a.toNat b.toNat) 1) (wDc (stRl (L.take k) a.toNat b.toNat) 2)
      have y0 : s a.toNat + 1 ≤ s b.toNat → cfn 1 (stR3 (L.take k) a.toNat b.toNat) 1 = stR3 (L.take (k + 1)) a.toNat b.toNat := fun q => by
        unfold stR3
        rw [o.1, wDc_y (P := stRl (L.take (k + 1)) a.toNat b.toNat) (i := 0) (t0.mpr (Or.inr q)), wDc_cg (P := stRl (L.take (k + 1)) a.toNat b.toNat) (Q := stRl (L.take k) a.toNat b.toNat) (i := 1) (w t1 (by omega)), wDc_cg (P := stRl (L.take (k + 1)) a.toNat b.toNat) (Q := stRl (L.take k) a.toNat b.toNat) (i := 2) (w t2 (by omega))]
      have y1 : s a.toNat = s b.toNat → cfn 1 (stR3 (L.take k) a.toNat b.toNat) 2 = stR3 (L.take (k + 1)) a.toNat b.toNat := fun q => by
        unfold stR3
        rw [o.2.1, wDc_y (P := stRl (L.take (k + 1)) a.toNat b.toNat) (i := 1) (t1.mpr (Or.inr q)), wDc_cg (P := stRl (L.take (k + 1)) a.toNat b.toNat) (Q := stRl (L.take k) a.toNat b.toNat) (i := 0) (w t0 (by omega)), wDc_cg (P := stRl (L.take (k + 1)) a.toNat b.toNat) (Q := stRl (L.take k) a.toNat b.toNat) (i := 2) (w t2 (by omega))]
      have y2 : s b.toNat + 1 ≤ s a.toNat → cfn 1 (stR3 (L.take k) a.toNat b.toNat) 4 = stR3 (L.take (k + 1)) a.toNat b.toNat := fun q => by
        unfold stR3
        rw [o.2.2, wDc_y (P := stRl (L.take (k + 1)) a.toNat b.toNat) (i := 2) (t2.mpr (Or.inr q)), wDc_cg (P := stRl (L.take (k + 1)) a.toNat b.toNat) (Q := stRl (L.take k) a.toNat b.toNat) (i := 0) (w t0 (by omega)), wDc_cg (P := stRl (L.take (k + 1)) a.toNat b.toNat) (Q := stRl (L.take k) a.toNat b.toNat) (i := 1) (w t1 (by omega))]
      have nx := ih (k + 1) (by omega)
      generalize stR3 (L.take (k + 1)) a.toNat b.toNat = R2 at nx y0 y1 y2
      generalize stR3 (L.take k) a.toNat b.toNat = R1 at y0 y1 y2
      refine cEnds_at gX10_between_m32 rfl ?_
      refine d_fld 0 (by simp only [cE2, sev, svl, cen, List.cons_append, List.nil_append]; omega) ?_
      rw [e32]
      refine d_br (fun h => ?_) (fun h => ?_)
      · simp only [cCmp, cE2, sev, svl, cen, List.cons_append, List.nil_append] at h
        omega
      · clear h
        refine d_call (m_reignIn hp (i := k) (g := a.toNat) (s := s) (by omega) (e36 k s hsk) (hs s hm) (by omega)) (by simp [cAs, cE2, sev, svl, cen] <;> omega) ?_
        rintro rr N ⟨hN, rfl⟩
        rw [hN]
        refine ⟨rfl, ?_⟩
        refine d_call (m_reignIn hp (i := k) (g := b.toNat) (s := s) (by omega) (e36 k s hsk) (hs s hm) (by omega)) (by simp [cAs, cE2, sev, svl, cen] <;> omega) ?_
        rintro rr N' ⟨hN', rfl⟩
        rw [hN']
        refine ⟨rfl, ?_⟩
        refine d_rng (by simp only [clo, chi, cE2, sev, svl, cen, List.cons_append, List.nil_append]; omega) ?_
        refine d_br (fun h => ?_) (fun h => ?_)
        · simp only [cCmp, cE2, sev, svl, cen, List.cons_append, List.nil_append] at h
          refine d_br (fun h2 => ?_) (fun h2 => ?_)
          · simp only [cCmp, cE2, sev, svl, cen, List.cons_append, List.nil_append] at h2
            refine d_opw R1 4 (by simp [cE2, sev, svl, cen]) (by simp [cE2, sev, svl, cen]) ?_
            rw [y2 (by omega)]
            refine d_rng (by simp only [clo, chi, cE2, sev, svl, cen, List.cons_append, List.nil_append]; omega) ?_
            refine d_cut [a, b, R2, ((k + 1 : Nat) : Int)] (by simp [cE2, sev, svl, cen] <;> omega) ?_
            exact nx
          · simp only [cCmp, cE2, sev, svl, cen, List.cons_append, List.nil_append] at h2
            refine d_opw R1 2 (by simp [cE2, sev, svl, cen]) (by simp [cE2, sev, svl, cen]) ?_
            rw [y1 (by omega)]
            refine d_rng (by simp only [clo, chi, cE2, sev, svl, cen, List.cons_append, List.nil_append]; omega) ?_
            refine d_cut [a, b, R2, ((k + 1 : Nat) : Int)] (by simp [cE2, sev, svl, cen] <;> omega) ?_
            exact nx
        · simp only [cCmp, cE2, sev, svl, cen, List.cons_append, List.nil_append] at h
          refine d_opw R1 1 (by simp [cE2, sev, svl, cen]) (by simp [cE2, sev, svl, cen]) ?_
          rw [y0 (by omega)]
          refine d_rng (by simp only [clo, chi, cE2, sev, svl, cen, List.cons_append, List.nil_append]; omega) ?_
          refine d_cut [a, b, R2, ((k + 1 : Nat) : Int)] (by simp [cE2, sev, svl, cen] <;> omega) ?_
          exact nx
  refine d_call (m_isHand hp (Z := Z) (a := a) e35) (by simp [cAs, cE2, sev, svl, cen] <;> omega) ?_
  intro rr M' hq
  obtain ⟨hM', hq⟩ := hq
  rw [hM']
  rcases hq with ⟨rfl, q2⟩ | ⟨rfl, q2⟩
  · refine ⟨rfl, ?_⟩
    refine d_br (fun h => ?_) (fun h => ?_)
    · simp only [cCmp, cE2, sev, svl, cen, List.cons_append, List.nil_append] at h
      omega
    · clear h
      refine d_call (m_isHand hp (Z := Z) (a := b) e35) (by simp [cAs, cE2, sev, svl, cen] <;> omega) ?_
      intro rr M' hq
      obtain ⟨hM', hq⟩ := hq
      rw [hM']
      rcases hq with ⟨rfl, q3⟩ | ⟨rfl, q3⟩
      · refine ⟨rfl, ?_⟩
        refine d_br (fun h => ?_) (fun h => ?_)
        · clear h
          have e0 : stR3 (L.take 0) a.toNat b.toNat = 0 := by unfold stR3; rw [wDc_n (P := stRl (L.take 0) a.toNat b.toNat) (i := 0) (fun ⟨s, h1, _⟩ => by cases h1), wDc_n (P := stRl (L.take 0) a.toNat b.toNat) (i := 1) (fun ⟨s, h1, _⟩ => by cases h1), wDc_n (P := stRl (L.take 0) a.toNat b.toNat) (i := 2) (fun ⟨s, h1, _⟩ => by cases h1)]; rfl
          refine d_cut [a, b, stR3 (L.take 0) a.toNat b.toNat, ((0 : Nat) : Int)] (by rw [e0]; simp [cE2, sev, svl, cen]) ?_
          exact loop q2 q3 L.length 0 (by omega)
        · simp only [cCmp, cE2, sev, svl, cen, List.cons_append, List.nil_append] at h
          omega
      · refine ⟨rfl, ?_⟩
        refine d_br (fun h => ?_) (fun h => ?_)
        · simp only [cCmp, cE2, sev, svl, cen, List.cons_append, List.nil_append] at h
          omega
        · clear h
          exact d_ret [(-1)] rfl (by decide) (hPo _ _ ⟨hF, _, rfl, Or.inl ⟨fun z => q3 z.2, rfl⟩⟩)
  · refine ⟨rfl, ?_⟩
    refine d_br (fun h => ?_) (fun h => ?_)
    · clear h
      exact d_ret [(-1)] rfl (by decide) (hPo _ _ ⟨hF, _, rfl, Or.inl ⟨fun z => q2 z.1, rfl⟩⟩)
    · simp only [cCmp, cE2, sev, svl, cen, List.cons_append, List.nil_append] at h
      omega
set_option maxHeartbeats 4000000 in
theorem m_stories (hp : cPl tm tc tf EX) {Z : STZ} {dt : Nat → Int} {w : Int} {M : SMem} (hI : sI tg M) (hX : sX M) (hZ : sWf Z) (hz : sMz Z M) (hdt : M 33 0 = dt) (hK : sKm Z dt M) : cBG tm tf EX l dC dI cA ad scrS (d + 18) kX10_stories [(2, 1, 0), (0, 0, w)] M (fun rr MM => sRF Z dt MM M ∧ ∃ r : Int, rr = [r] ∧ ((w = 0 ∧ r = (((stS Z dt).length : Nat) : Int)) ∨ (w = 1 ∧ r = wBt (wDc (fun a => sBz Z a ∧ stSr (stS Z dt) a)) 6) ∨ (w = 2 ∧ r = wBt (sBb Z) 6) ∨ (¬ (0 ≤ w ∧ w ≤ 2) ∧ r = -1))) := by
  refine cMeth (v := [w]) (Fd := 90) hp (by decide) gX10_stories_ok gX10_stories_m0 (by simp [cAs, cE2, sev, svl, cen]) ?_
  suffices H : ∀ Po : List Int → SMem → Prop, (∀ rr MM, (sRF Z dt MM M ∧ ∃ r : Int, rr = [r] ∧ ((w = 0 ∧ r = (((stS Z dt).length : Nat) : Int)) ∨ (w = 1 ∧ r = wBt (wDc (fun a => sBz Z a ∧ stSr (stS Z dt) a)) 6) ∨ (w = 2 ∧ r = wBt (sBb Z) 6) ∨ (¬ (0 ≤ w ∧ w ≤ 2) ∧ r = -1))) → Po rr MM) → cEnds (cBG tm tf EX l dC dI cA ad scrS (d + 17)) Po 90 gX10_stories 0 [w] M from H _ (fun _ _ h => h)
  intro Po hPo
  refine cEnds_at gX10_stories_m0 rfl ?_
  refine d_put 0 0 (by simp only [cE2, sev, svl, cen, List.cons_append, List.nil_append]; omega) (by simp only [cE2, sev, svl, cen, List.cons_append, List.nil_append]; omega) ?_
  refine d_call (m_find (d := d) hp hI hX hZ hz hdt hK) (by simp [cAs, cE2, sev, svl, cen]) ?_
  rintro rr M1 ⟨rfl, hF⟩
  refine ⟨rfl, ?_⟩
  obtain ⟨i1, f1, e28, e34, hk⟩ := id hF
  obtain ⟨e32, e36, e35⟩ := hk e28
  have b9 := stS_len (Z := Z) (dt := dt)
  have hs := fun s (h : s ∈ stS Z dt) => stS_rng hZ h
  generalize stS Z dt = L at e32 e36 b9 hs hPo ⊢
  obtain ⟨b, hb⟩ : ∃ b : Nat → Bool, b = wDc (fun a => sBz Z a ∧ (w = 2 ∨ (w = 1 ∧ stSr L a))) := ⟨_, rfl⟩
  have l22 : w ≠ 0 → ∀ (m k : Nat), k + m = 6 → cEnds (cBG tm tf EX l dC dI cA ad scrS (d + 17)) Po 90 gX10_stories 22 [w, wBt b k, (k : Int)] M1 := by
    intro hw m
    induction m with
    | zero =>
      intro k hk
      have ek : k = 6 := by omega
      subst ek
      have br := wBt_r b 6
      have e1 : w = 1 → wBt b 6 = wBt (wDc (fun a => sBz Z a ∧ stSr L a)) 6 := fun z => wBt_cg 6 (fun i _ => by rw [hb]; exact wDc_cg ⟨fun q => ⟨q.1, q.2.elim (fun y => by omega) (fun y => y.2)⟩, fun q => ⟨q.1, Or.inr ⟨z, q.2⟩⟩⟩)
      have e2 : w = 2 → wBt b 6 = wBt (sBb Z) 6 := fun z => wBt_cg 6 (fun i _ => by rw [hb]; exact wDc_cg ⟨fun q => q.1, fun q => ⟨q, Or.inl z⟩⟩)
      refine cEnds_at gX10_stories_m22 rfl ?_
      refine d_br (fun h => ?_) (fun h => ?_)
      · simp only [cCmp, cE2, sev, svl, cen, List.cons_append, List.nil_append] at h
        first
        | omega
        | skip
          refine d_call (m_within hp (x := w) (y := 1) (z := 2)) (by simp [cAs, cE2, sev, svl, cen] <;> omega) ?_
          intro rr M' hq
          obtain ⟨hM', hq⟩ := hq
          rw [hM']
          rcases hq with ⟨rfl, q3⟩ | ⟨rfl, q3⟩
          · refine ⟨rfl, ?_⟩
            refine d_br (fun h => ?_) (fun h => ?_)
            · simp only [cCmp, cE2, sev, svl, cen, List.cons_append, List.nil_append] at h
              omega
            · clear h
              exact wret1 (wBt b 6) (by simp only [cE2, sev, svl, cen, List.cons_append, List.nil_append]; omega) (by omega) (hPo _ _ ⟨hF, _, rfl, by omega⟩)
          · refine ⟨rfl, ?_⟩
            refine d_br (fun h => ?_) (fun h => ?_)
            · clear h
              exact d_ret [(-1)] rfl (by decide) (hPo _ _ ⟨hF, _, rfl, by omega⟩)
            · simp only [cCmp, cE2, sev, svl, cen, List.cons_append, List.nil_append] at h
              omega
      · simp only [cCmp, cE2, sev, svl, cen, List.cons_append, List.nil_append] at h
        first
        | omega
        | skip
          refine d_cut [w, (wBt b 6), ((6 : Nat) : Int), 0, 0] (by simp [cE2, sev, svl, cen] <;> omega) ?_
          exact (by omega)
    | succ m ih =>
      intro k hk
      have br := wBt_r b k
      have k6 : k < 6 := by omega
      have nx := ih (k + 1) (by omega)
      have no : ¬ (sBz Z k ∧ (w = 2 ∨ (w = 1 ∧ stSr L k))) → cfn 1 (wBt b k) 0 = wBt b (k + 1) := fun z => by rw [cfn1_0 br, wBt_n (by rw [hb]; exact wDc_n z)]
      have yes : (sBz Z k ∧ (w = 2 ∨ (w = 1 ∧ stSr L k))) → cfn 1 (wBt b k) (cfn 2 1 (k : Int)) = wBt b (k + 1) := fun z => by rw [wBt_y (by rw [hb]; exact wDc_y z)]
      generalize wBt b (k + 1) = R2 at no yes nx
      have e35k : (M1 35 0 k = 1 ∧ sBz Z k) ∨ (M1 35 0 k = 0 ∧ ¬ sBz Z k) := by
        rw [e35 k k6]
        cases e : sBb Z k with
        | true => exact Or.inl ⟨rfl, sBb_y.mp e⟩
        | false => exact Or.inr ⟨rfl, sBb_n.mp e⟩
      have hSr : stSr L k ↔ (0 < L.length ∧ (∃ j : Nat, j < 6 ∧ stC L k (j : Int) = L.length)) := Iff.rfl
      have l34 : ∀ (n x : Nat), x + n = 6 → ∀ su : Int, ((su = 1 ∧ w = 1 ∧ 0 < L.length ∧ (∃ j : Nat, j < x ∧ stC L k (j : Int) = L.length)) ∨ (su = 0 ∧ ¬ (w = 1 ∧ 0 < L.length ∧ (∃ j : Nat, j < x ∧ stC L k (j : Int) = L.length)))) → cEnds (cBG tm tf EX l dC dI cA ad scrS (d + 17)) Po 90 gX10_stories 34 [w, wBt b k, (k : Int), su, (x : Int)] M1 := by
        intro n
        induction n with
        | zero =>
          intro x hx su hsu
          have ex : x = 6 := by omega
          subst ex
          rcases hsu with ⟨rfl, w1, hq⟩ | ⟨rfl, hq⟩
          · refine cEnds_at gX10_stories_m34 rfl ?_
            refine d_br (fun h => ?_) (fun h => ?_)
            · simp only [cCmp, cE2, sev, svl, cen, List.cons_append, List.nil_append] at h
              first
              | omega
              | skip
                refine d_row 0 k (by simp only [cE2, sev, svl, cen, List.cons_append, List.nil_append]; omega) (by simp only [cE2, sev, svl, cen, List.cons_append, List.nil_append]; omega) (by omega) ?_
                refine d_br (fun h => ?_) (fun h => ?_)
                · simp only [cCmp, cE2, sev, svl, cen, List.cons_append, List.nil_append] at h
                  first
                  | omega
                  | skip
                    refine d_opw (wBt b k) 0 (by simp [cE2, sev, svl, cen] <;> omega) (by simp [cE2, sev, svl, cen] <;> omega) ?_
                    refine d_rng (by simp only [clo, chi, cE2, sev, svl, cen, List.cons_append, List.nil_append]; omega) ?_
                    rw [no (fun z => by rcases e35k with y | y; { omega }; { exact y.2 z.1 })]
                    refine d_cut [w, R2, ((k + 1 : Nat) : Int)] (by simp [cE2, sev, svl, cen] <;> omega) ?_
                    exact nx
                · simp only [cCmp, cE2, sev, svl, cen, List.cons_append, List.nil_append] at h
                  first
                  | omega
                  | skip
                    refine d_br (fun h => ?_) (fun h => ?_)
                    · simp only [cCmp, cE2, sev, svl, cen, List.cons_append, List.nil_append] at h
                      first
                      | omega
                      | skip
                        refine d_opw 1 (k : Int) (by simp [cE2, sev, svl, cen] <;> omega) (by simp [cE2, sev, svl, cen] <;> omega) ?_
                        refine d_opw (wBt b k) (cfn 2 1 (k : Int)) (by simp [cE2, sev, svl, cen] <;> omega) (by simp [cE2, sev, svl, cen] <;> omega) ?_
                        refine d_rng (by simp only [clo, chi, cE2, sev, svl, cen, List.cons_append, List.nil_append]; omega) ?_
                        rw [yes ⟨by rcases e35k with y | y; { exact y.2 }; { omega }, Or.inr ⟨w1, hSr.mpr hq⟩⟩]
                        refine d_cut [w, R2, ((k + 1 : Nat) : Int)] (by simp [cE2, sev, svl, cen] <;> omega) ?_
                        exact nx
                    · simp only [cCmp, cE2, sev, svl, cen, List.cons_append, List.nil_append] at h
                      first
                      | omega
                      | skip
                        refine d_br (fun h => ?_) (fun h => ?_)
                        · simp only [cCmp, cE2, sev, svl, cen, List.cons_append, List.nil_append] at h
                          omega
                        · clear h
                          refine d_opw 1 (k : Int) (by simp [cE2, sev, svl, cen] <;> omega) (by simp [cE2, sev, svl, cen] <;> omega) ?_
                          refine d_opw (wBt b k) (cfn 2 1 (k : Int)) (by simp [cE2, sev, svl, cen] <;> omega) (by simp [cE2, sev, svl, cen] <;> omega) ?_
                          refine d_rng (by simp only [clo, chi, cE2, sev, svl, cen, List.cons_append, List.nil_append]; omega) ?_
                          rw [yes ⟨by rcases e35k with y | y; { exact y.2 }; { omega }, Or.inr ⟨w1, hSr.mpr hq⟩⟩]
                          refine d_cut [w, R2, ((k + 1 : Nat) : Int)] (by simp [cE2, sev, svl, cen] <;> omega) ?_
                          exact nx
            · simp only [cCmp, cE2, sev, svl, cen, List.cons_append, List.nil_append] at h
              first
              | omega
              | skip
                refine d_br (fun h => ?_) (fun h => ?_)
                · simp only [cCmp, cE2, sev, svl, cen, List.cons_append, List.nil_append] at h
                  first
                  | omega
                  | skip
                    refine d_row 0 k (by simp only [cE2, sev, svl, cen, List.cons_append, List.nil_append]; omega) (by simp only [cE2, sev, svl, cen, List.cons_append, List.nil_append]; omega) (by omega) ?_
                    refine d_br (fun h => ?_) (fun h => ?_)
                    · simp only [cCmp, cE2, sev, svl, cen, List.cons_append, List.nil_append] at h
                      first
                      | omega
                      | skip
                        refine d_opw (wBt b k) 0 (by simp [cE2, sev, svl, cen] <;> omega) (by simp [cE2, sev, svl, cen] <;> omega) ?_
                        refine d_rng (by simp only [clo, chi, cE2, sev, svl, cen, List.cons_append, List.nil_append]; omega) ?_
                        refine d_cut [w, (cfn 1 (wBt b k) 0), ((k : Int) + 1)] (by simp [cE2, sev, svl, cen] <;> omega) ?_
                        exact (by omega)
                    · simp only [cCmp, cE2, sev, svl, cen, List.cons_append, List.nil_append] at h
                      first
                      | omega
                      | skip
                        refine d_br (fun h => ?_) (fun h => ?_)
                        · simp only [cCmp, cE2, sev, svl, cen, List.cons_append, List.nil_append] at h
                          first
                          | omega
                          | skip
                            refine d_opw 1 (k : Int) (by simp [cE2, sev, svl, cen] <;> omega) (by simp [cE2, sev, svl, cen] <;> omega) ?_
                            refine d_opw (wBt b k) (cfn 2 1 (k : Int)) (by simp [cE2, sev, svl, cen] <;> omega) (by simp [cE2, sev, svl, cen] <;> omega) ?_
                            refine d_rng (by simp only [clo, chi, cE2, sev, svl, cen, List.cons_append, List.nil_append]; omega) ?_
                            refine d_cut [w, (cfn 1 (wBt b k) (cfn 2 1 (k : Int))), ((k : Int) + 1)] (by simp [cE2, sev, svl, cen] <;> omega) ?_
                            exact (by omega)
                        · simp only [cCmp, cE2, sev, svl, cen, List.cons_append, List.nil_append] at h
                          first
                          | omega
                          | skip
                            refine d_br (fun h => ?_) (fun h => ?_)
                            · simp only [cCmp, cE2, sev, svl, cen, List.cons_append, List.nil_append] at h
                              omega
                            · clear h
                              refine d_opw 1 (k : Int) (by simp [cE2, sev, svl, cen] <;> omega) (by simp [cE2, sev, svl, cen] <;> omega) ?_
                              refine d_opw (wBt b k) (cfn 2 1 (k : Int)) (by simp [cE2, sev, svl, cen] <;> omega) (by simp [cE2, sev, svl, cen] <;> omega) ?_
                              refine d_rng (by simp only [clo, chi, cE2, sev, svl, cen, List.cons_append, List.nil_append]; omega) ?_
                              refine d_cut [w, (cfn 1 (wBt b k) (cfn 2 1 (k : Int))), ((k : Int) + 1)] (by simp [cE2, sev, svl, cen] <;> omega) ?_
                              exact (by omega)
                · simp only [cCmp, cE2, sev, svl, cen, List.cons_append, List.nil_append] at h
                  first
                  | omega
                  | skip
                    refine d_br (fun h => ?_) (fun h => ?_)
                    · clear h
                      refine d_rng (by simp only [clo, chi, cE2, sev, svl, cen, List.cons_append, List.nil_append]; omega) ?_
                      refine d_cut [w, (wBt b k), (k : Int), 1, (((6 : Nat) : Int) + 1)] (by simp [cE2, sev, svl, cen] <;> omega) ?_
                      exact (by omega)
                    · simp only [cCmp, cE2, sev, svl, cen, List.cons_append, List.nil_append] at h
                      omega
          · refine cEnds_at gX10_stories_m34 rfl ?_
            refine d_br (fun h => ?_) (fun h => ?_)
            · simp only [cCmp, cE2, sev, svl, cen, List.cons_append, List.nil_append] at h
              first
              | omega
              | skip
                refine d_row 0 k (by simp only [cE2, sev, svl, cen, List.cons_append, List.nil_append]; omega) (by simp only [cE2, sev, svl, cen, List.cons_append, List.nil_append]; omega) (by omega) ?_
                refine d_br (fun h => ?_) (fun h => ?_)
                · simp only [cCmp, cE2, sev, svl, cen, List.cons_append, List.nil_append] at h
                  first
                  | omega
                  | skip
                    refine d_opw (wBt b k) 0 (by simp [cE2, sev, svl, cen] <;> omega) (by simp [cE2, sev, svl, cen] <;> omega) ?_
                    refine d_rng (by simp only [clo, chi, cE2, sev, svl, cen, List.cons_append, List.nil_append]; omega) ?_
                    rw [no (fun z => z.2.elim (fun y => by have q := z.1; rcases e35k with u | u; { omega }; { exact u.2 q }) (fun y => hq ⟨y.1, hSr.mp y.2⟩))]
                    refine d_cut [w, R2, ((k + 1 : Nat) : Int)] (by simp [cE2, sev, svl, cen] <;> omega) ?_
                    exact nx
                · simp only [cCmp, cE2, sev, svl, cen, List.cons_append, List.nil_append] at h
                  first
                  | omega
                  | skip
                    refine d_br (fun h => ?_) (fun h => ?_)
                    · simp only [cCmp, cE2, sev, svl, cen, List.cons_append, List.nil_append] at h
                      first
                      | omega
                      | skip
                        refine d_opw 1 (k : Int) (by simp [cE2, sev, svl, cen] <;> omega) (by simp [cE2, sev, svl, cen] <;> omega) ?_
                        refine d_opw (wBt b k) (cfn 2 1 (k : Int)) (by simp [cE2, sev, svl, cen] <;> omega) (by simp [cE2, sev, svl, cen] <;> omega) ?_
                        refine d_rng (by simp only [clo, chi, cE2, sev, svl, cen, List.cons_append, List.nil_append]; omega) ?_
                        rw [yes ⟨by rcases e35k with y | y; { exact y.2 }; { omega }, Or.inl (by omega)⟩]
                        refine d_cut [w, R2, ((k + 1 : Nat) : Int)] (by simp [cE2, sev, svl, cen] <;> omega) ?_
                        exact nx
                    · simp only [cCmp, cE2, sev, svl, cen, List.cons_append, List.nil_append] at h
                      first
                      | omega
                      | skip
                        refine d_br (fun h => ?_) (fun h => ?_)
                        · clear h
                          refine d_opw (wBt b k) 0 (by simp [cE2, sev, svl, cen] <;> omega) (by simp [cE2, sev, svl, cen] <;> omega) ?_
                          refine d_rng (by simp only [clo, chi, cE2, sev, svl, cen, List.cons_append, List.nil_append]; omega) ?_
                          rw [no (fun z => z.2.elim (fun y => by have q := z.1; rcases e35k with u | u; { omega }; { exact u.2 q }) (fun y => hq ⟨y.1, hSr.mp y.2⟩))]
                          refine d_cut [w, R2, ((k + 1 : Nat) : Int)] (by simp [cE2, sev, svl, cen] <;> omega) ?_
                          exact nx
                        · simp only [cCmp, cE2, sev, svl, cen, List.cons_append, List.nil_append] at h
                          omega
            · simp only [cCmp, cE2, sev, svl, cen, List.cons_append, List.nil_append] at h
              first
              | omega
              | skip
                refine d_br (fun h => ?_) (fun h => ?_)
                · simp only [cCmp, cE2, sev, svl, cen, List.cons_append, List.nil_append] at h
                  first
                  | omega
                  | skip
                    refine d_row 0 k (by simp only [cE2, sev, svl, cen, List.cons_append, List.nil_append]; omega) (by simp only [cE2, sev, svl, cen, List.cons_append, List.nil_append]; omega) (by omega) ?_
                    refine d_br (fun h => ?_) (fun h => ?_)
                    · simp only [cCmp, cE2, sev, svl, cen, List.cons_append, List.nil_append] at h
                      first
                      | omega
                      | skip
                        refine d_opw (wBt b k) 0 (by simp [cE2, sev, svl, cen] <;> omega) (by simp [cE2, sev, svl, cen] <;> omega) ?_
                        refine d_rng (by simp only [clo, chi, cE2, sev, svl, cen, List.cons_append, List.nil_append]; omega) ?_
                        refine d_cut [w, (cfn 1 (wBt b k) 0), ((k : Int) + 1)] (by simp [cE2, sev, svl, cen] <;> omega) ?_
                        exact (by omega)
                    · simp only [cCmp, cE2, sev, svl, cen, List.cons_append, List.nil_append] at h
                      first
                      | omega
                      | skip
                        refine d_br (fun h => ?_) (fun h => ?_)
                        · simp only [cCmp, cE2, sev, svl, cen, List.cons_append, List.nil_append] at h
                          first
                          | omega
                          | skip
                            refine d_opw 1 (k : Int) (by simp [cE2, sev, svl, cen] <;> omega) (by simp [cE2, sev, svl, cen] <;> omega) ?_
                            refine d_opw (wBt b k) (cfn 2 1 (k : Int)) (by simp [cE2, sev, svl, cen] <;> omega) (by simp [cE2, sev, svl, cen] <;> omega) ?_
                            refine d_rng (by simp only [clo, chi, cE2, sev, svl, cen, List.cons_append, List.nil_append]; omega) ?_
                            refine d_cut [w, (cfn 1 (wBt b k) (cfn 2 1 (k : Int))), ((k : Int) + 1)] (by simp [cE2, sev, svl, cen] <;> omega) ?_
                            exact (by omega)
                        · simp only [cCmp, cE2, sev, svl, cen, List.cons_append, List.nil_append] at h
                          first
                          | omega
                          | skip
                            refine d_br (fun h => ?_) (fun h => ?_)
                            · clear h
                              refine d_opw (wBt b k) 0 (by simp [cE2, sev, svl, cen] <;> omega) (by simp [cE2, sev, svl, cen] <;> omega) ?_
                              refine d_rng (by simp only [clo, chi, cE2, sev, svl, cen, List.cons_append, List.nil_append]; omega) ?_
                              refine d_cut [w, (cfn 1 (wBt b k) 0), ((k : Int) + 1)] (by simp [cE2, sev, svl, cen] <;> omega) ?_
                              exact (by omega)
                            · simp only [cCmp, cE2, sev, svl, cen, List.cons_append, List.nil_append] at h
                              omega
                · simp only [cCmp, cE2, sev, svl, cen, List.cons_append, List.nil_append] at h
                  first
                  | omega
                  | skip
                    refine d_br (fun h => ?_) (fun h => ?_)
                    · simp only [cCmp, cE2, sev, svl, cen, List.cons_append, List.nil_append] at h
                      omega
                    · clear h
                      refine d_fld 0 (by simp only [cE2, sev, svl, cen, List.cons_append, List.nil_append]; omega) ?_
                      refine d_br (fun h => ?_) (fun h => ?_)
                      · simp only [cCmp, cE2, sev, svl, cen, List.cons_append, List.nil_append] at h
                        first
                        | omega
                        | skip
                          refine d_rng (by simp only [clo, chi, cE2, sev, svl, cen, List.cons_append, List.nil_append]; omega) ?_
                          refine d_cut [w, (wBt b k), (k : Int), 0, (((6 : Nat) : Int) + 1)] (by simp [cE2, sev, svl, cen] <;> omega) ?_
                          exact (by omega)
                      · simp only [cCmp, cE2, sev, svl, cen, List.cons_append, List.nil_append] at h
                        first
                        | omega
                        | skip
                          omega
        | succ n ihn =>
          intro x hx su hsu
          have hc := stC_le (L := L) (a := k) (x := (x : Int))
          by_cases w1 : w = 1
          · rcases hsu with ⟨rfl, -, hl, j, hj1, hj2⟩ | ⟨rfl, hq⟩
            · refine cEnds_at gX10_stories_m34 rfl ?_
              refine d_br (fun h => ?_) (fun h => ?_)
              · simp only [cCmp, cE2, sev, svl, cen, List.cons_append, List.nil_append] at h
                first
                | omega
                | skip
                  refine d_row 0 k (by simp only [cE2, sev, svl, cen, List.cons_append, List.nil_append]; omega) (by simp only [cE2, sev, svl, cen, List.cons_append, List.nil_append]; omega) (by omega) ?_
                  refine d_br (fun h => ?_) (fun h => ?_)
                  · simp only [cCmp, cE2, sev, svl, cen, List.cons_append, List.nil_append] at h
                    first
                    | omega
                    | skip
                      refine d_opw (wBt b k) 0 (by simp [cE2, sev, svl, cen] <;> omega) (by simp [cE2, sev, svl, cen] <;> omega) ?_
                      refine d_rng (by simp only [clo, chi, cE2, sev, svl, cen, List.cons_append, List.nil_append]; omega) ?_
                      refine d_cut [w, (cfn 1 (wBt b k) 0), ((k : Int) + 1)] (by simp [cE2, sev, svl, cen] <;> omega) ?_
                      exact (by omega)
                  · simp only [cCmp, cE2, sev, svl, cen, List.cons_append, List.nil_append] at h
                    first
                    | omega
                    | skip
                      refine d_br (fun h => ?_) (fun h => ?_)
                      · simp only [cCmp, cE2, sev, svl, cen, List.cons_append, List.nil_append] at h
                        first
                        | omega
                        | skip
                          refine d_opw 1 (k : Int) (by simp [cE2, sev, svl, cen] <;> omega) (by simp [cE2, sev, svl, cen] <;> omega) ?_
                          refine d_opw (wBt b k) (cfn 2 1 (k : Int)) (by simp [cE2, sev, svl, cen] <;> omega) (by simp [cE2, sev, svl, cen] <;> omega) ?_
                          refine d_rng (by simp only [clo, chi, cE2, sev, svl, cen, List.cons_append, List.nil_append]; omega) ?_
                          refine d_cut [w, (cfn 1 (wBt b k) (cfn 2 1 (k : Int))), ((k : Int) + 1)] (by simp [cE2, sev, svl, cen] <;> omega) ?_
                          exact (by omega)
                      · simp only [cCmp, cE2, sev, svl, cen, List.cons_append, List.nil_append] at h
                        first
                        | omega
                        | skip
                          refine d_br (fun h => ?_) (fun h => ?_)
                          · simp only [cCmp, cE2, sev, svl, cen, List.cons_append, List.nil_append] at h
                            omega
                          · clear h
                            refine d_opw 1 (k : Int) (by simp [cE2, sev, svl, cen] <;> omega) (by simp [cE2, sev, svl, cen] <;> omega) ?_
                            refine d_opw (wBt b k) (cfn 2 1 (k : Int)) (by simp [cE2, sev, svl, cen] <;> omega) (by simp [cE2, sev, svl, cen] <;> omega) ?_
                            refine d_rng (by simp only [clo, chi, cE2, sev, svl, cen, List.cons_append, List.nil_append]; omega) ?_
                            refine d_cut [w, (cfn 1 (wBt b k) (cfn 2 1 (k : Int))), ((k : Int) + 1)] (by simp [cE2, sev, svl, cen] <;> omega) ?_
                            exact (by omega)
              · simp only [cCmp, cE2, sev, svl, cen, List.cons_append, List.nil_append] at h
                first
                | omega
                | skip
                  refine d_br (fun h => ?_) (fun h => ?_)
                  · simp only [cCmp, cE2, sev, svl, cen, List.cons_append, List.nil_append] at h
                    first
                    | omega
                    | skip
                      refine d_row 0 k (by simp only [cE2, sev, svl, cen, List.cons_append, List.nil_append]; omega) (by simp only [cE2, sev, svl, cen, List.cons_append, List.nil_append]; omega) (by omega) ?_
                      refine d_br (fun h => ?_) (fun h => ?_)
                      · simp only [cCmp, cE2, sev, svl, cen, List.cons_append, List.nil_append] at h
                        first
                        | omega
                        | skip
                          refine d_opw (wBt b k) 0 (by simp [cE2, sev, svl, cen] <;> omega) (by simp [cE2, sev, svl, cen] <;> omega) ?_
                          refine d_rng (by simp only [clo, chi, cE2, sev, svl, cen, List.cons_append, List.nil_append]; omega) ?_
                          refine d_cut [w, (cfn 1 (wBt b k) 0), ((k : Int) + 1)] (by simp [cE2, sev, svl, cen] <;> omega) ?_
                          exact (by omega)
                      · simp only [cCmp, cE2, sev, svl, cen, List.cons_append, List.nil_append] at h
                        first
                        | omega
                        | skip
                          refine d_br (fun h => ?_) (fun h => ?_)
                          · simp only [cCmp, cE2, sev, svl, cen, List.cons_append, List.nil_append] at h
                            first
                            | omega
                            | skip
                              refine d_opw 1 (k : Int) (by simp [cE2, sev, svl, cen] <;> omega) (by simp [cE2, sev, svl, cen] <;> omega) ?_
                              refine d_opw (wBt b k) (cfn 2 1 (k : Int)) (by simp [cE2, sev, svl, cen] <;> omega) (by simp [cE2, sev, svl, cen] <;> omega) ?_
                              refine d_rng (by simp only [clo, chi, cE2, sev, svl, cen, List.cons_append, List.nil_append]; omega) ?_
                              refine d_cut [w, (cfn 1 (wBt b k) (cfn 2 1 (k : Int))), ((k : Int) + 1)] (by simp [cE2, sev, svl, cen] <;> omega) ?_
                              exact (by omega)
                          · simp only [cCmp, cE2, sev, svl, cen, List.cons_append, List.nil_append] at h
                            first
                            | omega
                            | skip
                              refine d_br (fun h => ?_) (fun h => ?_)
                              · simp only [cCmp, cE2, sev, svl, cen, List.cons_append, List.nil_append] at h
                                omega
                              · clear h
                                refine d_opw 1 (k : Int) (by simp [cE2, sev, svl, cen] <;> omega) (by simp [cE2, sev, svl, cen] <;> omega) ?_
                                refine d_opw (wBt b k) (cfn 2 1 (k : Int)) (by simp [cE2, sev, svl, cen] <;> omega) (by simp [cE2, sev, svl, cen] <;> omega) ?_
                                refine d_rng (by simp only [clo, chi, cE2, sev, svl, cen, List.cons_append, List.nil_append]; omega) ?_
                                refine d_cut [w, (cfn 1 (wBt b k) (cfn 2 1 (k : Int))), ((k : Int) + 1)] (by simp [cE2, sev, svl, cen] <;> omega) ?_
                                exact (by omega)
                  · simp only [cCmp, cE2, sev, svl, cen, List.cons_append, List.nil_append] at h
                    first
                    | omega
                    | skip
                      refine d_br (fun h => ?_) (fun h => ?_)
                      · clear h
                        refine d_rng (by simp only [clo, chi, cE2, sev, svl, cen, List.cons_append, List.nil_append]; omega) ?_
                        refine d_cut [w, wBt b k, (k : Int), 1, ((x + 1 : Nat) : Int)] (by simp [cE2, sev, svl, cen] <;> omega) ?_
                        exact ihn (x + 1) (by omega) 1 (Or.inl ⟨rfl, w1, hl, j, by omega, hj2⟩)
                      · simp only [cCmp, cE2, sev, svl, cen, List.cons_append, List.nil_append] at h
                        omega
            · have go : ¬ (stC L k (x : Int) = L.length ∧ 0 < L.length) → cEnds (cBG tm tf EX l dC dI cA ad scrS (d + 17)) Po 90 gX10_stories 34 [w, wBt b k, (k : Int), 0, ((x + 1 : Nat) : Int)] M1 := fun hno => ihn (x + 1) (by omega) 0 (Or.inr ⟨rfl, fun ⟨y1, y2, j, y3, y4⟩ => by
                by_cases e : j = x
                · subst e
                  exact hno ⟨y4, y2⟩
                · exact hq ⟨y1, y2, j, by omega, y4⟩⟩)
              refine cEnds_at gX10_stories_m34 rfl ?_
              refine d_br (fun h => ?_) (fun h => ?_)
              · simp only [cCmp, cE2, sev, svl, cen, List.cons_append, List.nil_append] at h
                first
                | omega
                | skip
                  refine d_row 0 k (by simp only [cE2, sev, svl, cen, List.cons_append, List.nil_append]; omega) (by simp only [cE2, sev, svl, cen, List.cons_append, List.nil_append]; omega) (by omega) ?_
                  refine d_br (fun h => ?_) (fun h => ?_)
                  · simp only [cCmp, cE2, sev, svl, cen, List.cons_append, List.nil_append] at h
                    first
                    | omega
                    | skip
                      refine d_opw (wBt b k) 0 (by simp [cE2, sev, svl, cen] <;> omega) (by simp [cE2, sev, svl, cen] <;> omega) ?_
                      refine d_rng (by simp only [clo, chi, cE2, sev, svl, cen, List.cons_append, List.nil_append]; omega) ?_
                      refine d_cut [w, (cfn 1 (wBt b k) 0), ((k : Int) + 1)] (by simp [cE2, sev, svl, cen] <;> omega) ?_
                      exact (by omega)
                  · simp only [cCmp, cE2, sev, svl, cen, List.cons_append, List.nil_append] at h
                    first
                    | omega
                    | skip
                      refine d_br (fun h => ?_) (fun h => ?_)
                      · simp only [cCmp, cE2, sev, svl, cen, List.cons_append, List.nil_append] at h
                        first
                        | omega
                        | skip
                          refine d_opw 1 (k : Int) (by simp [cE2, sev, svl, cen] <;> omega) (by simp [cE2, sev, svl, cen] <;> omega) ?_
                          refine d_opw (wBt b k) (cfn 2 1 (k : Int)) (by simp [cE2, sev, svl, cen] <;> omega) (by simp [cE2, sev, svl, cen] <;> omega) ?_
                          refine d_rng (by simp only [clo, chi, cE2, sev, svl, cen, List.cons_append, List.nil_append]; omega) ?_
                          refine d_cut [w, (cfn 1 (wBt b k) (cfn 2 1 (k : Int))), ((k : Int) + 1)] (by simp [cE2, sev, svl, cen] <;> omega) ?_
                          exact (by omega)
                      · simp only [cCmp, cE2, sev, svl, cen, List.cons_append, List.nil_append] at h
                        first
                        | omega
                        | skip
                          refine d_br (fun h => ?_) (fun h => ?_)
                          · clear h
                            refine d_opw (wBt b k) 0 (by simp [cE2, sev, svl, cen] <;> omega) (by simp [cE2, sev, svl, cen] <;> omega) ?_
                            refine d_rng (by simp only [clo, chi, cE2, sev, svl, cen, List.cons_append, List.nil_append]; omega) ?_
                            refine d_cut [w, (cfn 1 (wBt b k) 0), ((k : Int) + 1)] (by simp [cE2, sev, svl, cen] <;> omega) ?_
                            exact (by omega)
                          · simp only [cCmp, cE2, sev, svl, cen, List.cons_append, List.nil_append] at h
                            omega
              · simp only [cCmp, cE2, sev, svl, cen, List.cons_append, List.nil_append] at h
                first
                | omega
                | skip
                  refine d_br (fun h => ?_) (fun h => ?_)
                  · simp only [cCmp, cE2, sev, svl, cen, List.cons_append, List.nil_append] at h
                    first
                    | omega
                    | skip
                      refine d_row 0 k (by simp only [cE2, sev, svl, cen, List.cons_append, List.nil_append]; omega) (by simp only [cE2, sev, svl, cen, List.cons_append, List.nil_append]; omega) (by omega) ?_
                      refine d_br (fun h => ?_) (fun h => ?_)
                      · simp only [cCmp, cE2, sev, svl, cen, List.cons_append, List.nil_append] at h
                        first
                        | omega
                        | skip
                          refine d_opw (wBt b k) 0 (by simp [cE2, sev, svl, cen] <;> omega) (by simp [cE2, sev, svl, cen] <;> omega) ?_
                          refine d_rng (by simp only [clo, chi, cE2, sev, svl, cen, List.cons_append, List.nil_append]; omega) ?_
                          refine d_cut [w, (cfn 1 (wBt b k) 0), ((k : Int) + 1)] (by simp [cE2, sev, svl, cen] <;> omega) ?_
                          exact (by omega)
                      · simp only [cCmp, cE2, sev, svl, cen, List.cons_append, List.nil_append] at h
                        first
                        | omega
                        | skip
                          refine d_br (fun h => ?_) (fun h => ?_)
                          · simp only [cCmp, cE2, sev, svl, cen, List.cons_append, List.nil_append] at h
                            first
                            | omega
                            | skip
                              refine d_opw 1 (k : Int) (by simp [cE2, sev, svl, cen] <;> omega) (by simp [cE2, sev, svl, cen] <;> omega) ?_
                              refine d_opw (wBt b k) (cfn 2 1 (k : Int)) (by simp [cE2, sev, svl, cen] <;> omega) (by simp [cE2, sev, svl, cen] <;> omega) ?_
                              refine d_rng (by simp only [clo, chi, cE2, sev, svl, cen, List.cons_append, List.nil_append]; omega) ?_
                              refine d_cut [w, (cfn 1 (wBt b k) (cfn 2 1 (k : Int))), ((k : Int) + 1)] (by simp [cE2, sev, svl, cen] <;> omega) ?_
                              exact (by omega)
                          · simp only [cCmp, cE2, sev, svl, cen, List.cons_append, List.nil_append] at h
                            first
                            | omega
                            | skip
                              refine d_br (fun h => ?_) (fun h => ?_)
                              · clear h
                                refine d_opw (wBt b k) 0 (by simp [cE2, sev, svl, cen] <;> omega) (by simp [cE2, sev, svl, cen] <;> omega) ?_
                                refine d_rng (by simp only [clo, chi, cE2, sev, svl, cen, List.cons_append, List.nil_append]; omega) ?_
                                refine d_cut [w, (cfn 1 (wBt b k) 0), ((k : Int) + 1)] (by simp [cE2, sev, svl, cen] <;> omega) ?_
                                exact (by omega)
                              · simp only [cCmp, cE2, sev, svl, cen, List.cons_append, List.nil_append] at h
                                omega
                  · simp only [cCmp, cE2, sev, svl, cen, List.cons_append, List.nil_append] at h
                    first
                    | omega
                    | skip
                      refine d_br (fun h => ?_) (fun h => ?_)
                      · simp only [cCmp, cE2, sev, svl, cen, List.cons_append, List.nil_append] at h
                        omega
                      · clear h
                        refine d_fld 0 (by simp only [cE2, sev, svl, cen, List.cons_append, List.nil_append]; omega) ?_
                        rw [e32]
                        refine d_br (fun h => ?_) (fun h => ?_)
                        · simp only [cCmp, cE2, sev, svl, cen, List.cons_append, List.nil_append] at h
                          first
                          | omega
                          | skip
                            refine d_rng (by simp only [clo, chi, cE2, sev, svl, cen, List.cons_append, List.nil_append]; omega) ?_
                            refine d_cut [w, wBt b k, (k : Int), 0, ((x + 1 : Nat) : Int)] (by simp [cE2, sev, svl, cen] <;> omega) ?_
                            exact go (by omega)
                        · simp only [cCmp, cE2, sev, svl, cen, List.cons_append, List.nil_append] at h
                          first
                          | omega
                          | skip
                            refine d_call (m_countOf hp (L := L) (g := k) (x := (x : Int)) b9 e32 e36 hs k6) (by simp [cAs, cE2, sev, svl, cen] <;> omega) ?_
                            intro rr M' hq
                            obtain ⟨hM', rfl⟩ := hq
                            rw [hM']
                            refine ⟨rfl, ?_⟩
                            refine d_fld 0 (by simp only [cE2, sev, svl, cen, List.cons_append, List.nil_append]; omega) ?_
                            rw [e32]
                            refine d_br (fun h => ?_) (fun h => ?_)
                            · simp only [cCmp, cE2, sev, svl, cen, List.cons_append, List.nil_append] at h
                              first
                              | omega
                              | skip
                                refine d_rng (by simp only [clo, chi, cE2, sev, svl, cen, List.cons_append, List.nil_append]; omega) ?_
                                refine d_cut [w, wBt b k, (k : Int), 0, ((x + 1 : Nat) : Int)] (by simp [cE2, sev, svl, cen] <;> omega) ?_
                                exact go (by omega)
                            · simp only [cCmp, cE2, sev, svl, cen, List.cons_append, List.nil_append] at h
                              first
                              | omega
                              | skip
                                refine d_rng (by simp only [clo, chi, cE2, sev, svl, cen, List.cons_append, List.nil_append]; omega) ?_
                                refine d_cut [w, wBt b k, (k : Int), 1, ((x + 1 : Nat) : Int)] (by simp [cE2, sev, svl, cen] <;> omega) ?_
                                exact ihn (x + 1) (by omega) 1 (Or.inl ⟨rfl, w1, by omega, x, by omega, by omega⟩)
          · obtain ⟨rfl⟩ : su = 0 := by rcases hsu with ⟨-, y, -⟩ | ⟨y, -⟩; { exact absurd y w1 }; { exact y }
            refine cEnds_at gX10_stories_m34 rfl ?_
            refine d_br (fun h => ?_) (fun h => ?_)
            · simp only [cCmp, cE2, sev, svl, cen, List.cons_append, List.nil_append] at h
              first
              | omega
              | skip
                refine d_row 0 k (by simp only [cE2, sev, svl, cen, List.cons_append, List.nil_append]; omega) (by simp only [cE2, sev, svl, cen, List.cons_append, List.nil_append]; omega) (by omega) ?_
                refine d_br (fun h => ?_) (fun h => ?_)
                · simp only [cCmp, cE2, sev, svl, cen, List.cons_append, List.nil_append] at h
                  first
                  | omega
                  | skip
                    refine d_opw (wBt b k) 0 (by simp [cE2, sev, svl, cen] <;> omega) (by simp [cE2, sev, svl, cen] <;> omega) ?_
                    refine d_rng (by simp only [clo, chi, cE2, sev, svl, cen, List.cons_append, List.nil_append]; omega) ?_
                    refine d_cut [w, (cfn 1 (wBt b k) 0), ((k : Int) + 1)] (by simp [cE2, sev, svl, cen] <;> omega) ?_
                    exact (by omega)
                · simp only [cCmp, cE2, sev, svl, cen, List.cons_append, List.nil_append] at h
                  first
                  | omega
                  | skip
                    refine d_br (fun h => ?_) (fun h => ?_)
                    · simp only [cCmp, cE2, sev, svl, cen, List.cons_append, List.nil_append] at h
                      first
                      | omega
                      | skip
                        refine d_opw 1 (k : Int) (by simp [cE2, sev, svl, cen] <;> omega) (by simp [cE2, sev, svl, cen] <;> omega) ?_
                        refine d_opw (wBt b k) (cfn 2 1 (k : Int)) (by simp [cE2, sev, svl, cen] <;> omega) (by simp [cE2, sev, svl, cen] <;> omega) ?_
                        refine d_rng (by simp only [clo, chi, cE2, sev, svl, cen, List.cons_append, List.nil_append]; omega) ?_
                        refine d_cut [w, (cfn 1 (wBt b k) (cfn 2 1 (k : Int))), ((k : Int) + 1)] (by simp [cE2, sev, svl, cen] <;> omega) ?_
                        exact (by omega)
                    · simp only [cCmp, cE2, sev, svl, cen, List.cons_append, List.nil_append] at h
                      first
                      | omega
                      | skip
                        refine d_br (fun h => ?_) (fun h => ?_)
                        · clear h
                          refine d_opw (wBt b k) 0 (by simp [cE2, sev, svl, cen] <;> omega) (by simp [cE2, sev, svl, cen] <;> omega) ?_
                          refine d_rng (by simp only [clo, chi, cE2, sev, svl, cen, List.cons_append, List.nil_append]; omega) ?_
                          refine d_cut [w, (cfn 1 (wBt b k) 0), ((k : Int) + 1)] (by simp [cE2, sev, svl, cen] <;> omega) ?_
                          exact (by omega)
                        · simp only [cCmp, cE2, sev, svl, cen, List.cons_append, List.nil_append] at h
                          omega
            · simp only [cCmp, cE2, sev, svl, cen, List.cons_append, List.nil_append] at h
              first
              | omega
              | skip
                refine d_br (fun h => ?_) (fun h => ?_)
                · simp only [cCmp, cE2, sev, svl, cen, List.cons_append, List.nil_append] at h
                  first
                  | omega
                  | skip
                    refine d_row 0 k (by simp only [cE2, sev, svl, cen, List.cons_append, List.nil_append]; omega) (by simp only [cE2, sev, svl, cen, List.cons_append, List.nil_append]; omega) (by omega) ?_
                    refine d_br (fun h => ?_) (fun h => ?_)
                    · simp only [cCmp, cE2, sev, svl, cen, List.cons_append, List.nil_append] at h
                      first
                      | omega
                      | skip
                        refine d_opw (wBt b k) 0 (by simp [cE2, sev, svl, cen] <;> omega) (by simp [cE2, sev, svl, cen] <;> omega) ?_
                        refine d_rng (by simp only [clo, chi, cE2, sev, svl, cen, List.cons_append, List.nil_append]; omega) ?_
                        rw [no (fun z => z.2.elim (fun y => by have q := z.1; rcases e35k with u | u; { omega }; { exact u.2 q }) (fun y => w1 y.1))]
                        refine d_cut [w, R2, ((k + 1 : Nat) : Int)] (by simp [cE2, sev, svl, cen] <;> omega) ?_
                        exact nx
                    · simp only [cCmp, cE2, sev, svl, cen, List.cons_append, List.nil_append] at h
                      first
                      | omega
                      | skip
                        refine d_br (fun h => ?_) (fun h => ?_)
                        · simp only [cCmp, cE2, sev, svl, cen, List.cons_append, List.nil_append] at h
                          first
                          | omega
                          | skip
                            refine d_opw 1 (k : Int) (by simp [cE2, sev, svl, cen] <;> omega) (by simp [cE2, sev, svl, cen] <;> omega) ?_
                            refine d_opw (wBt b k) (cfn 2 1 (k : Int)) (by simp [cE2, sev, svl, cen] <;> omega) (by simp [cE2, sev, svl, cen] <;> omega) ?_
                            refine d_rng (by simp only [clo, chi, cE2, sev, svl, cen, List.cons_append, List.nil_append]; omega) ?_
                            rw [yes ⟨by rcases e35k with y | y; { exact y.2 }; { omega }, Or.inl (by omega)⟩]
                            refine d_cut [w, R2, ((k + 1 : Nat) : Int)] (by simp [cE2, sev, svl, cen] <;> omega) ?_
                            exact nx
                        · simp only [cCmp, cE2, sev, svl, cen, List.cons_append, List.nil_append] at h
                          first
                          | omega
                          | skip
                            refine d_br (fun h => ?_) (fun h => ?_)
                            · clear h
                              refine d_opw (wBt b k) 0 (by simp [cE2, sev, svl, cen] <;> omega) (by simp [cE2, sev, svl, cen] <;> omega) ?_
                              refine d_rng (by simp only [clo, chi, cE2, sev, svl, cen, List.cons_append, List.nil_append]; omega) ?_
                              rw [no (fun z => z.2.elim (fun y => by have q := z.1; rcases e35k with u | u; { omega }; { exact u.2 q }) (fun y => w1 y.1))]
                              refine d_cut [w, R2, ((k + 1 : Nat) : Int)] (by simp [cE2, sev, svl, cen] <;> omega) ?_
                              exact nx
                            · simp only [cCmp, cE2, sev, svl, cen, List.cons_append, List.nil_append] at h
                              omega
                · simp only [cCmp, cE2, sev, svl, cen, List.cons_append, List.nil_append] at h
                  first
                  | omega
                  | skip
                    refine d_br (fun h => ?_) (fun h => ?_)
                    · simp only [cCmp, cE2, sev, svl, cen, List.cons_append, List.nil_append] at h
                      omega
                    · clear h
                      refine d_fld 0 (by simp only [cE2, sev, svl, cen, List.cons_append, List.nil_append]; omega) ?_
                      refine d_br (fun h => ?_) (fun h => ?_)
                      · simp only [cCmp, cE2, sev, svl, cen, List.cons_append, List.nil_append] at h
                        first
                        | omega
                        | skip
                          refine d_rng (by simp only [clo, chi, cE2, sev, svl, cen, List.cons_append, List.nil_append]; omega) ?_
                          refine d_cut [w, (wBt b k), (k : Int), 0, ((x : Int) + 1)] (by simp [cE2, sev, svl, cen] <;> omega) ?_
                          exact (by omega)
                      · simp only [cCmp, cE2, sev, svl, cen, List.cons_append, List.nil_append] at h
                        first
                        | omega
                        | skip
                          omega
      refine cEnds_at gX10_stories_m22 rfl ?_
      refine d_br (fun h => ?_) (fun h => ?_)
      · simp only [cCmp, cE2, sev, svl, cen, List.cons_append, List.nil_append] at h
        omega
      · refine d_cut [w, wBt b k, (k : Int), 0, ((0 : Nat) : Int)] (by simp [cE2, sev, svl, cen] <;> omega) ?_
        exact l34 6 0 (by omega) 0 (Or.inr ⟨rfl, fun ⟨_, _, j, y, _⟩ => absurd y (Nat.not_lt_zero _)⟩)
  refine d_br (fun h => ?_) (fun h => ?_)
  · simp only [cCmp, cE2, sev, svl, cen, List.cons_append, List.nil_append] at h
    first
    | omega
    | skip
      refine d_cut [w, wBt b 0, ((0 : Nat) : Int)] (by simp [cE2, sev, svl, cen, wBt]) ?_
      exact l22 (by omega) 6 0 (by omega)
  · simp only [cCmp, cE2, sev, svl, cen, List.cons_append, List.nil_append] at h
    first
    | omega
    | skip
      refine d_fld 0 (by simp only [cE2, sev, svl, cen, List.cons_append, List.nil_append]; omega) ?_
      rw [e32]
      exact wret1 ((L.length : Nat) : Int) (by simp only [cE2, sev, svl, cen, List.cons_append, List.nil_append]; omega) (by omega) (hPo _ _ ⟨hF, _, rfl, by omega⟩)
end CS18
