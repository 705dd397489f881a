/-! stories: the reference finds them all -/
def sCk (s : Nat → Int) : Nat → Int
  | 0 => 0
  | k + 1 => 6 * sCk s k + s k
def b6k : Nat → Int
  | 0 => 0
  | k + 1 => 6 * b6k k + 5
theorem b6k_le : ∀ k, k ≤ 6 → b6k k ≤ 46655 := by
  intro k hk
  match k, hk with
  | 0, _ => decide
  | 1, _ => decide
  | 2, _ => decide
  | 3, _ => decide
  | 4, _ => decide
  | 5, _ => decide
  | 6, _ => decide
theorem sCk_b {s : Nat → Int} (h : ∀ i, i < 6 → 0 ≤ s i ∧ s i ≤ 5) : ∀ k, k ≤ 6 → 0 ≤ sCk s k ∧ sCk s k ≤ b6k k := by
  intro k
  induction k with
  | zero => intro _; exact ⟨Int.le_refl _, Int.le_refl _⟩
  | succ k ih =>
    intro hk
    have := ih (by omega)
    have := h k (by omega)
    show 0 ≤ 6 * sCk s k + s k ∧ 6 * sCk s k + s k ≤ 6 * b6k k + 5
    omega
theorem cfn13_6 {c : Int} (h : 0 ≤ c ∧ c ≤ 1000000) : cfn 13 c 6 = c / 6 := by
  show (Int32.ofInt c / Int32.ofInt 6).toInt = c / 6
  rw [Int32.toInt_div, Int32.toInt_ofInt_of_le (by omega) (by omega), show (Int32.ofInt 6).toInt = 6 from rfl, Int.tdiv_eq_ediv_of_nonneg (by omega)]
  exact sbm32 (by omega) (by omega)
theorem cfn14_6 {c : Int} (h : 0 ≤ c ∧ c ≤ 1000000) : cfn 14 c 6 = c % 6 := by
  show (Int32.ofInt c - Int32.ofInt c / Int32.ofInt 6 * Int32.ofInt 6).toInt = c % 6
  have e1 : (Int32.ofInt c / Int32.ofInt 6).toInt = c / 6 := cfn13_6 h
  have e2 : (Int32.ofInt c / Int32.ofInt 6 * Int32.ofInt 6).toInt = c / 6 * 6 := simul (by omega) (by rw [e1, show (Int32.ofInt 6).toInt = 6 from rfl])
  rw [Int32.toInt_sub, e2, Int32.toInt_ofInt_of_le (by omega) (by omega), sbm32 (by omega) (by omega)]
  omega
/-- what the reference holds found out is so -/
def sKm (Z : STZ) (dt : Nat → Int) (M : SMem) : Prop := M 1 0 34 = 0 ∧ (M 1 0 28 = 0 → M 1 0 32 = (((stS Z dt).length : Nat) : Int) ∧ (∀ (i : Nat) (s : Nat → Int), (stS Z dt)[i]? = some s → M 36 0 i = sCk s 6) ∧ ∀ h, h < 6 → M 35 0 h = cond (sBb Z h) 1 0)
theorem stS_rng {Z : STZ} {dt : Nat → Int} (hZ : sWf Z) {s : Nat → Int} (hs : s ∈ stS Z dt) : ∀ i, i < 6 → 0 ≤ s i ∧ s i ≤ 5 := by
  obtain ⟨h1, h2⟩ := stS_in hs
  intro i hi
  by_cases hb : sBz Z i
  · exact (h1.1 i hi hb).1
  · rw [h2 i hb]
    omega
section CS17
variable {EX : SEx} {l : Launch} {dC : Nat → ClassId} {dI : Nat → Nat → Nat} {cA : Nat → ClassId} {ad : SAd} {scrS d : Nat}
set_option maxHeartbeats 4000000 in
theorem m_begins (hp : cPl tm tc tf EX) {Z : STZ} {M : SMem} (hI : sI tg M) (hZ : sWf Z) (hz : sMz Z M) : cBG tm tf EX l dC dI cA ad scrS (d + 2) kX10_beginsStories [(2, 1, 0), (0, 0, 0)] M (fun rr MM => rr = [] ∧ sI tg MM ∧ (∀ f j i, f ≠ 34 → f ≠ 35 → ¬ (f = 1 ∧ (i = 32 ∨ i = 34)) → MM f j i = M f j i) ∧ MM 1 0 34 = 0 ∧ MM 1 0 32 = 0 ∧ (∀ g, g < 6 → MM 34 0 g = -1) ∧ ∀ g, g < 6 → MM 35 0 g = cond (sBb Z g) 1 0) := by
  refine cMeth (v := [0]) (Fd := 90) hp (by decide) gX10_beginsStories_ok gX10_beginsStories_m0 (by simp [cAs, cE2, sev, svl, cen]) ?_
  suffices H : ∀ Po : List Int → SMem → Prop, (∀ rr MM, (rr = [] ∧ sI tg MM ∧ (∀ f j i, f ≠ 34 → f ≠ 35 → ¬ (f = 1 ∧ (i = 32 ∨ i = 34)) → MM f j i = M f j i) ∧ MM 1 0 34 = 0 ∧ MM 1 0 32 = 0 ∧ (∀ g, g < 6 → MM 34 0 g = -1) ∧ ∀ g, g < 6 → MM 35 0 g = cond (sBb Z g) 1 0) → Po rr MM) → cEnds (cBG tm tf EX l dC dI cA ad scrS (d + 1)) Po 90 gX10_beginsStories 0 [0] M from H _ (fun _ _ h => h)
  intro Po hPo
  have mz : ∀ N : SMem, (∀ f j i, f ≠ 34 → f ≠ 35 → ¬ (f = 1 ∧ (i = 32 ∨ i = 34)) → N f j i = M f j i) → sMz Z N := fun N fN => sMz_cg (fun f hf => by
    funext j i
    simp only [lVF, List.mem_cons, List.not_mem_nil, or_false] at hf
    exact fN f j i (by omega) (by omega) (by omega)) hz
  -- the walls
  have l40 : ∀ (m p : Nat), p + m = 12 → ∀ N : SMem, sI tg N → (∀ f j i, f ≠ 34 → f ≠ 35 → ¬ (f = 1 ∧ (i = 32 ∨ i = 34)) → N f j i = M f j i) → N 1 0 34 = 0 → N 1 0 32 = 0 → (∀ g, g < 6 → N 34 0 g = -1) → ((∀ g, g < 6 → (N 35 0 g = 1 ∧ (∃ p' l', ((p' < p ∧ l' < Z.1 p') ∨ (p' = p ∧ l' < 0)) ∧ Z.2.1 p' l' = g)) ∨ (N 35 0 g = 0 ∧ ¬ (∃ p' l', ((p' < p ∧ l' < Z.1 p') ∨ (p' = p ∧ l' < 0)) ∧ Z.2.1 p' l' = g)))) → cEnds (cBG tm tf EX l dC dI cA ad scrS (d + 1)) Po 90 gX10_beginsStories 40 [(p : Int)] N := by
    intro m
    induction m with
    | zero =>
      intro p hpm N iN fN n34 n32 nr nh
      have ep : p = 12 := by omega
      subst ep
      refine cEnds_at gX10_beginsStories_m40 rfl ?_
      refine d_br (fun h => ?_) (fun h => ?_)
      · refine d_ret [] rfl (by decide) (hPo _ _ ⟨rfl, iN, fN, n34, n32, nr, fun g hg => ?_⟩)
        rcases nh g hg with ⟨q, p', l', z1, z2⟩ | ⟨q, z⟩
        · rw [q, sBb_y.mpr ⟨p', l', by omega, by omega, z2⟩]
          rfl
        · rw [q, sBb_n.mpr (fun ⟨p', l', z1, z2, z3⟩ => z ⟨p', l', Or.inl ⟨z1, z2⟩, z3⟩)]
          rfl
      · simp only [cCmp, cE2, sev, svl, cen, List.cons_append, List.nil_append] at h
        omega
    | succ m ih =>
      intro p hpm N iN fN n34 n32 nr nh
      have hp9 : p < 12 := by omega
      have s6 := (hz.1 p hp9).2.2
      have l48 : ∀ (n ly : Nat), ly + n = Z.1 p → ∀ N : SMem, sI tg N → (∀ f j i, f ≠ 34 → f ≠ 35 → ¬ (f = 1 ∧ (i = 32 ∨ i = 34)) → N f j i = M f j i) → N 1 0 34 = 0 → N 1 0 32 = 0 → (∀ g, g < 6 → N 34 0 g = -1) → ((∀ g, g < 6 → (N 35 0 g = 1 ∧ (∃ p' l', ((p' < p ∧ l' < Z.1 p') ∨ (p' = p ∧ l' < ly)) ∧ Z.2.1 p' l' = g)) ∨ (N 35 0 g = 0 ∧ ¬ (∃ p' l', ((p' < p ∧ l' < Z.1 p') ∨ (p' = p ∧ l' < ly)) ∧ Z.2.1 p' l' = g)))) → cEnds (cBG tm tf EX l dC dI cA ad scrS (d + 1)) Po 90 gX10_beginsStories 48 [(p : Int), (ly : Int)] N := by
        intro n
        induction n with
        | zero =>
          intro ly hl N iN fN n34 n32 nr nh
          refine cEnds_at gX10_beginsStories_m48 rfl ?_
          refine d_call (m_cutsOf hp (Z := Z) (p := p) (mz N fN) n34 hp9) (by simp [cAs, cE2, sev, svl, cen]) ?_
          rintro rr N' ⟨rfl, rfl⟩
          refine ⟨rfl, ?_⟩
          refine d_br (fun h => ?_) (fun h => ?_)
          · refine d_rng (by simp only [clo, chi, cE2, sev, svl, cen, List.cons_append, List.nil_append]; omega) ?_
            refine d_cut [((p + 1 : Nat) : Int)] (by simp [cE2, sev, svl, cen] <;> omega) ?_
            refine ih (p + 1) (by omega) N' iN fN n34 n32 nr (fun g hg => ?_)
            refine (nh g hg).imp (fun ⟨q, p', l', z1, z2⟩ => ⟨q, p', l', Or.inl (by rcases z1 with z1 | ⟨rfl, z1⟩; { exact ⟨by omega, z1.2⟩ }; { exact ⟨by omega, by omega⟩ }), z2⟩) (fun ⟨q, z⟩ => ⟨q, fun ⟨p', l', z1, z2⟩ => z ⟨p', l', ?_, z2⟩⟩)
            rcases z1 with z1 | z1
            · by_cases e : p' = p
              · subst e
                exact Or.inr ⟨rfl, by omega⟩
              · exact Or.inl ⟨by omega, z1.2⟩
            · exact absurd z1.2 (Nat.not_lt_zero _)
          · simp only [cCmp, cE2, sev, svl, cen, List.cons_append, List.nil_append] at h
            omega
        | succ n ihn =>
          intro ly hl N iN fN n34 n32 nr nh
          obtain ⟨hh, ehh⟩ : ∃ hh : Nat, hh = Z.2.1 p ly := ⟨_, rfl⟩
          have hh6 : hh < 6 := by rw [ehh]; exact hZ.1 p ly
          have e28 : N 28 0 (6 * p + ly) = (hh : Int) := by rw [((mz N fN).2.1 p ly hp9 (by omega)).1, ehh]
          refine cEnds_at gX10_beginsStories_m48 rfl ?_
          refine d_call (m_cutsOf hp (Z := Z) (p := p) (mz N fN) n34 hp9) (by simp [cAs, cE2, sev, svl, cen]) ?_
          rintro rr N' ⟨rfl, rfl⟩
          refine ⟨rfl, ?_⟩
          refine d_br (fun h => ?_) (fun h => ?_)
          · simp only [cCmp, cE2, sev, svl, cen, List.cons_append, List.nil_append] at h
            omega
          · clear h
            refine d_rng (by simp only [clo, chi, cE2, sev, svl, cen, List.cons_append, List.nil_append]; omega) ?_
            refine d_rng (by simp only [clo, chi, cE2, sev, svl, cen, List.cons_append, List.nil_append]; omega) ?_
            refine d_row 0 (6 * p + ly) (by simp only [cE2, sev, svl, cen, List.cons_append, List.nil_append]; omega) (by simp only [cE2, sev, svl, cen, List.cons_append, List.nil_append]; omega) (by omega) ?_
            rw [e28]
            refine d_rng (by simp only [clo, chi, cE2, sev, svl, cen, List.cons_append, List.nil_append]; omega) ?_
            refine d_set 0 hh 1 (by simp only [cE2, sev, svl, cen, List.cons_append, List.nil_append]; omega) (by simp only [cE2, sev, svl, cen, List.cons_append, List.nil_append]; omega) hh6 (by simp only [cE2, sev, svl, cen, List.cons_append, List.nil_append]; omega) ?_
            refine d_rng (by simp only [clo, chi, cE2, sev, svl, cen, List.cons_append, List.nil_append]; omega) ?_
            refine d_cut [(p : Int), ((ly + 1 : Nat) : Int)] (by simp [cE2, sev, svl, cen] <;> omega) ?_
            refine ihn (ly + 1) (by omega) _ (wI (lo := 0) (hi := 1) iN rfl ⟨by omega, by omega⟩) (fun f j i y1 y2 y3 => by rw [supd_f y2, fN f j i y1 y2 y3]) (by rw [supd_f (by decide)]; exact n34) (by rw [supd_f (by decide)]; exact n32) (fun g hg => by rw [supd_f (by decide)]; exact nr g hg) (fun g hg => ?_)
            by_cases e : g = hh
            · rw [e, supd_at]
              exact Or.inl ⟨rfl, p, ly, Or.inr ⟨rfl, by omega⟩, ehh.symm⟩
            · rw [supd_i e]
              refine (nh g hg).imp (fun ⟨q, p', l', z1, z2⟩ => ⟨q, p', l', z1.imp id (fun y => ⟨y.1, by omega⟩), z2⟩) (fun ⟨q, z⟩ => ⟨q, fun ⟨p', l', z1, z2⟩ => ?_⟩)
              rcases z1 with z1 | ⟨z1, z3⟩
              · exact z ⟨p', l', Or.inl z1, z2⟩
              · by_cases e2 : l' = ly
                · rw [z1, e2, ← ehh] at z2
                  exact e z2.symm
                · exact z ⟨p', l', Or.inr ⟨z1, by omega⟩, z2⟩
      refine cEnds_at gX10_beginsStories_m40 rfl ?_
      refine d_br (fun h => ?_) (fun h => ?_)
      · simp only [cCmp, cE2, sev, svl, cen, List.cons_append, List.nil_append] at h
        omega
      · refine d_cut [(p : Int), ((0 : Nat) : Int)] (by simp [cE2, sev, svl, cen] <;> omega) ?_
        exact l48 (Z.1 p) 0 (by omega) N iN fN n34 n32 nr nh
  have l12 : ∀ (m k : Nat), k + m = 6 → ∀ N : SMem, sI tg N → (∀ f j i, f ≠ 34 → f ≠ 35 → ¬ (f = 1 ∧ (i = 32 ∨ i = 34)) → N f j i = M f j i) → N 1 0 34 = 0 → N 1 0 32 = 0 → (∀ g, g < k → N 34 0 g = -1 ∧ N 35 0 g = 0) → cEnds (cBG tm tf EX l dC dI cA ad scrS (d + 1)) Po 90 gX10_beginsStories 12 [(k : Int)] N := by
    intro m
    induction m with
    | zero =>
      intro k hk N iN fN n34 n32 nr
      have ek : k = 6 := by omega
      subst ek
      refine cEnds_at gX10_beginsStories_m12 rfl ?_
      refine d_br (fun h => ?_) (fun h => ?_)
      · refine d_cut [((0 : Nat) : Int)] (by simp [cE2, sev, svl, cen] <;> omega) ?_
        exact l40 12 0 (by omega) N iN fN n34 n32 (fun g hg => (nr g hg).1) (fun g hg => Or.inr ⟨(nr g hg).2, fun ⟨p', l', z1, z2⟩ => z1.elim (fun y => absurd y.1 (Nat.not_lt_zero _)) (fun y => absurd y.2 (Nat.not_lt_zero _))⟩)
      · simp only [cCmp, cE2, sev, svl, cen, List.cons_append, List.nil_append] at h
        omega
    | succ m ih =>
      intro k hk N iN fN n34 n32 nr
      refine cEnds_at gX10_beginsStories_m12 rfl ?_
      refine d_br (fun h => ?_) (fun h => ?_)
      · simp only [cCmp, cE2, sev, svl, cen, List.cons_append, List.nil_append] at h
        omega
      · clear h
        refine d_rng (by simp only [clo, chi, cE2, sev, svl, cen, List.cons_append, List.nil_append]; omega) ?_
        refine d_set 0 k 0 (by simp only [cE2, sev, svl, cen, List.cons_append, List.nil_append]; omega) (by simp only [cE2, sev, svl, cen, List.cons_append, List.nil_append]; omega) (by omega) (by simp only [cE2, sev, svl, cen, List.cons_append, List.nil_append]; omega) ?_
        refine d_set 0 k (-1) (by simp only [cE2, sev, svl, cen, List.cons_append, List.nil_append]; omega) (by simp only [cE2, sev, svl, cen, List.cons_append, List.nil_append]; omega) (by omega) (by simp only [cE2, sev, svl, cen, List.cons_append, List.nil_append]; omega) ?_
        refine d_rng (by simp only [clo, chi, cE2, sev, svl, cen, List.cons_append, List.nil_append]; omega) ?_
        refine d_cut [((k + 1 : Nat) : Int)] (by simp [cE2, sev, svl, cen] <;> omega) ?_
        refine ih (k + 1) (by omega) _ (wI (lo := -1) (hi := 5) (wI (lo := 0) (hi := 1) iN rfl ⟨by omega, by omega⟩) rfl ⟨by omega, by omega⟩) (fun f j i y1 y2 y3 => by rw [supd_f y1, supd_f y2, fN f j i y1 y2 y3]) (by rw [supd_f (by decide), supd_f (by decide)]; exact n34) (by rw [supd_f (by decide), supd_f (by decide)]; exact n32) (fun g hg => ?_)
        by_cases e : g = k
        · rw [e, supd_at, supd_f (by decide), supd_at]
          exact ⟨rfl, rfl⟩
        · rw [supd_i e, supd_f (by decide), supd_f (by decide), supd_i e]
          exact nr g (by omega)
  refine cEnds_at gX10_beginsStories_m0 rfl ?_
  refine d_put 0 0 (by simp only [cE2, sev, svl, cen, List.cons_append, List.nil_append]; omega) (by simp only [cE2, sev, svl, cen, List.cons_append, List.nil_append]; omega) ?_
  refine d_put 0 0 (by simp only [cE2, sev, svl, cen, List.cons_append, List.nil_append]; omega) (by simp only [cE2, sev, svl, cen, List.cons_append, List.nil_append]; omega) ?_
  refine d_cut [((0 : Nat) : Int)] (by simp [cE2, sev, svl, cen] <;> omega) ?_
  refine l12 6 0 (by omega) _ (wI (lo := 0) (hi := 46656) (wI (lo := -2147483648) (hi := 2147483647) hI rfl ⟨by omega, by omega⟩) rfl ⟨by omega, by omega⟩) (fun f j i y1 y2 y3 => ?_) ?_ (supd_at _ _ _ _ _) (fun g hg => absurd hg (Nat.not_lt_zero _))
  · rw [show supd (supd M 1 0 34 0) 1 0 32 0 f j i = supd M 1 0 34 0 f j i from if_neg (fun q => y3 ⟨q.1, Or.inl q.2.2⟩)]
    exact if_neg (fun q => y3 ⟨q.1, Or.inr q.2.2⟩)
  · rw [supd_i (by decide), supd_at]
set_option maxHeartbeats 4000000 in
theorem m_tells (hp : cPl tm tc tf EX) {Z : STZ} {dt : Nat → Int} (hZ : sWf Z) : ∀ (k : Nat), k ≤ 6 → ∀ (r : Nat → Int) (n : Nat) (M : SMem), sI tg M → sX M → sMz Z M → M 1 0 34 = 0 → M 33 0 = dt → (∀ g, g < 6 → M 35 0 g = cond (sBb Z g) 1 0) → M 1 0 32 = (n : Int) → n + 6 ^ k ≤ 46656 → (∀ i, i < 6 - k → sBb Z i = true → M 34 0 i = r i ∧ 0 ≤ r i ∧ r i ≤ 5 ∧ (dt i = -1 ∨ dt i = r i)) → (∀ i, i < 6 → (6 - k ≤ i ∨ sBb Z i = false) → M 34 0 i = -1) → (∀ i, sBb Z i = false → r i = 0) → sAll Z (M 34 0) → cBG tm tf EX l dC dI cA ad scrS (d + k + 10) kX10_tells [(2, 1, 0), (0, 0, ((6 - k : Nat) : Int)), (0, 0, 0)] M (fun rr MM => rr = [] ∧ sI tg MM ∧ (∀ f j i, f ≠ 34 → f ≠ 36 → ¬ (f = 1 ∧ i = 32) → MM f j i = M f j i) ∧ (∀ i, i < 6 → MM 34 0 i = M 34 0 i) ∧ MM 1 0 32 = ((n + (stL (sBb Z) (stV Z dt) k r).length : Nat) : Int) ∧ (∀ i, i < n → MM 36 0 i = M 36 0 i) ∧ ∀ (i : Nat) (s : Nat → Int), (stL (sBb Z) (stV Z dt) k r)[i]? = some s → MM 36 0 (n + i) = sCk s 6) := by
  intro k
  induction k with
  | zero =>
    intro _ r n M hI hX hz h34 hdt h35 hn hn9 hr hno hr0 hA
    refine cMeth (v := [((6 - 0 : Nat) : Int), 0]) (Fd := 90) hp (by decide) gX10_tells_ok gX10_tells_m0 (by simp [cAs, cE2, sev, svl, cen]) ?_
    suffices H : ∀ Po : List Int → SMem → Prop, (∀ rr MM, (rr = [] ∧ sI tg MM ∧ (∀ f j i, f ≠ 34 → f ≠ 36 → ¬ (f = 1 ∧ i = 32) → MM f j i = M f j i) ∧ (∀ i, i < 6 → MM 34 0 i = M 34 0 i) ∧ MM 1 0 32 = ((n + (stL (sBb Z) (stV Z dt) 0 r).length : Nat) : Int) ∧ (∀ i, i < n → MM 36 0 i = M 36 0 i) ∧ ∀ (i : Nat) (s : Nat → Int), (stL (sBb Z) (stV Z dt) 0 r)[i]? = some s → MM 36 0 (n + i) = sCk s 6) → Po rr MM) → cEnds (cBG tm tf EX l dC dI cA ad scrS (d + 0 + 9)) Po 90 gX10_tells 0 [((6 - 0 : Nat) : Int), 0] M from H _ (fun _ _ h => h)
    intro Po hPo
    have hbz6 : ∀ i, sBb Z i = true → i < 6 := fun i hi => sBz_6 hZ (sBb_y.mp hi)
    have hV : stV Z dt r := ⟨fun i hi hb => by have := hr i (by omega) (sBb_y.mpr hb); exact ⟨⟨this.2.1, this.2.2.1⟩, this.2.2.2⟩, sAll_cg (fun i hb => (hr i (by have := sBz_6 hZ hb; omega) (sBb_y.mpr hb)).1.symm) hA⟩
    have rng : ∀ i, i < 6 → 0 ≤ r i ∧ r i ≤ 5 := fun i hi => by
      cases e : sBb Z i with
      | true => have := hr i (by omega) e; exact ⟨this.2.1, this.2.2.1⟩
      | false => rw [hr0 i e]; omega
    have loop : ∀ (m j : Nat), j + m = 6 → cEnds (cBG tm tf EX l dC dI cA ad scrS (d + 0 + 9)) Po 90 gX10_tells 23 [sCk r j, (j : Int)] M := by
      intro m
      induction m with
      | zero =>
        intro j hj
        have ej : j = 6 := by omega
        subst ej
        have b := sCk_b rng 6 (Nat.le_refl _)
        have b9 := b6k_le 6 (Nat.le_refl _)
        refine cEnds_at gX10_tells_m23 rfl ?_
        refine d_br (fun h => ?_) (fun h => ?_)
        · clear h
          refine d_fld 0 (by simp only [cE2, sev, svl, cen, List.cons_append, List.nil_append]; omega) ?_
          rw [hn]
          refine d_set 0 n (sCk r 6) (by simp only [cE2, sev, svl, cen, List.cons_append, List.nil_append]; omega) (by simp only [cE2, sev, svl, cen, List.cons_append, List.nil_append]; omega) (by omega) (by simp only [cE2, sev, svl, cen, List.cons_append, List.nil_append]; omega) ?_
          refine d_fld 0 (by simp only [cE2, sev, svl, cen, List.cons_append, List.nil_append]; omega) ?_
          rw [supd_f (by decide), hn]
          refine d_rng (by simp only [clo, chi, cE2, sev, svl, cen, List.cons_append, List.nil_append]; omega) ?_
          refine d_put 0 ((n + 1 : Nat) : Int) (by simp only [cE2, sev, svl, cen, List.cons_append, List.nil_append]; omega) (by simp only [cE2, sev, svl, cen, List.cons_append, List.nil_append]; omega) ?_
          refine d_ret [] rfl (by decide) (hPo _ _ ⟨rfl, wI (lo := 0) (hi := 46656) (wI (lo := -2147483648) (hi := 2147483647) hI rfl ⟨by omega, by omega⟩) rfl ⟨by omega, by omega⟩, fun f j i y1 y2 y3 => ?_, fun i hi => ?_, ?_, fun i hi => ?_, fun i s hs => ?_⟩)
          · rw [show supd (supd M 36 0 n (sCk r 6)) 1 0 32 ((n + 1 : Nat) : Int) f j i = supd M 36 0 n (sCk r 6) f j i from if_neg (fun q => y3 ⟨q.1, q.2.2⟩), supd_f y2]
          · rw [supd_f (by decide), supd_f (by decide)]
          · rw [supd_at, stL_0y hV]
            rfl
          · rw [supd_f (by decide), supd_i (by omega)]
          · rw [stL_0y hV] at hs
            match i, hs with
            | 0, hs =>
              cases hs
              rw [supd_f (by decide), Nat.add_zero, supd_at]
            | i + 1, hs => cases hs
        · simp only [cCmp, cE2, sev, svl, cen, List.cons_append, List.nil_append] at h
          omega
      | succ m ih =>
        intro j hj
        have b := sCk_b rng j (by omega)
        have b9 := b6k_le j (by omega)
        have e34 : (M 34 0 j = -1 ∧ r j = 0) ∨ (M 34 0 j ≠ -1 ∧ M 34 0 j = r j) := by
          cases e : sBb Z j with
          | true =>
            have := hr j (by omega) e
            exact Or.inr ⟨by omega, this.1⟩
          | false => exact Or.inl ⟨hno j (by omega) (Or.inr e), hr0 j e⟩
        have b34 := wIb (f := 34) (i := j) (lo := -1) (hi := 5) hI 0 rfl
        have es : sCk r (j + 1) = 6 * sCk r j + r j := rfl
        refine cEnds_at gX10_tells_m23 rfl ?_
        refine d_br (fun h => ?_) (fun h => ?_)
        · simp only [cCmp, cE2, sev, svl, cen, List.cons_append, List.nil_append] at h
          first
          | omega
          | skip
            refine d_fld 0 (by simp only [cE2, sev, svl, cen, List.cons_append, List.nil_append]; omega) ?_
            refine d_set 0 (((M 1 0 32)).toNat) (sCk r j) (by simp only [cE2, sev, svl, cen, List.cons_append, List.nil_append]; omega) (by simp only [cE2, sev, svl, cen, List.cons_append, List.nil_append]; omega) (by omega) (by simp only [cE2, sev, svl, cen, List.cons_append, List.nil_append]; omega) ?_
            refine d_fld 0 (by simp only [cE2, sev, svl, cen, List.cons_append, List.nil_append]; omega) ?_
            rw [supd_f (by decide)]
            refine d_rng (by simp only [clo, chi, cE2, sev, svl, cen, List.cons_append, List.nil_append]; omega) ?_
            refine d_put 0 ((M 1 0 32) + 1) (by simp only [cE2, sev, svl, cen, List.cons_append, List.nil_append]; omega) (by simp only [cE2, sev, svl, cen, List.cons_append, List.nil_append]; omega) ?_
            exact d_ret [] rfl (by decide) (hPo _ _ (by omega))
        · simp only [cCmp, cE2, sev, svl, cen, List.cons_append, List.nil_append] at h
          first
          | omega
          | skip
            refine d_rng (by simp only [clo, chi, cE2, sev, svl, cen, List.cons_append, List.nil_append]; omega) ?_
            refine d_row 0 j (by simp only [cE2, sev, svl, cen, List.cons_append, List.nil_append]; omega) (by simp only [cE2, sev, svl, cen, List.cons_append, List.nil_append]; omega) (by omega) ?_
            refine d_br (fun h => ?_) (fun h => ?_)
            · simp only [cCmp, cE2, sev, svl, cen, List.cons_append, List.nil_append] at h
              first
              | omega
              | skip
                refine d_row 0 j (by simp only [cE2, sev, svl, cen, List.cons_append, List.nil_append]; omega) (by simp only [cE2, sev, svl, cen, List.cons_append, List.nil_append]; omega) (by omega) ?_
                refine d_rng (by simp only [clo, chi, cE2, sev, svl, cen, List.cons_append, List.nil_append]; omega) ?_
                refine d_rng (by simp only [clo, chi, cE2, sev, svl, cen, List.cons_append, List.nil_append]; omega) ?_
                refine d_cut [sCk r (j + 1), ((j + 1 : Nat) : Int)] (by simp [cE2, sev, svl, cen] <;> omega) ?_
                exact ih (j + 1) (by omega)
            · simp only [cCmp, cE2, sev, svl, cen, List.cons_append, List.nil_append] at h
              first
              | omega
              | skip
                refine d_rng (by simp only [clo, chi, cE2, sev, svl, cen, List.cons_append, List.nil_append]; omega) ?_
                refine d_rng (by simp only [clo, chi, cE2, sev, svl, cen, List.cons_append, List.nil_append]; omega) ?_
                refine d_cut [sCk r (j + 1), ((j + 1 : Nat) : Int)] (by simp [cE2, sev, svl, cen] <;> omega) ?_
                exact ih (j + 1) (by omega)
    refine cEnds_at gX10_tells_m0 rfl ?_
    refine d_br (fun h => ?_) (fun h => ?_)
    · clear h
      refine d_br (fun h => ?_) (fun h => ?_)
      · simp only [cCmp, cE2, sev, svl, cen, List.cons_append, List.nil_append] at h
        omega
      · refine d_cut [sCk r 0, ((0 : Nat) : Int)] (by simp [cE2, sev, svl, cen, sCk]) ?_
        exact loop 6 0 (by omega)
    · simp only [cCmp, cE2, sev, svl, cen, List.cons_append, List.nil_append] at h
      omega
  | succ k ih =>
    intro hk r n M hI hX hz h34 hdt h35 hn hn9 hr hno hr0 hA
    obtain ⟨g, eg⟩ : ∃ g : Nat, g = 5 - k := ⟨_, rfl⟩
    have e1 : (6 - (k + 1) : Nat) = g := by omega
    have e2 : (6 - k : Nat) = g + 1 := by omega
    have g6 : g < 6 := by omega
    have ih' := ih (by omega)
    rw [e2] at ih'
    rw [e1] at hr hno
    rw [e1]
    have hp6 : 6 ^ (k + 1) = 6 * 6 ^ k := by rw [Nat.pow_succ, Nat.mul_comm]
    have hl9 := fun r => stL_len (bz := sBb Z) (V := stV Z dt) k r
    refine cMeth (v := [(g : Int), 0]) (Fd := 90) hp (by decide) gX10_tells_ok gX10_tells_m0 (by simp [cAs, cE2, sev, svl, cen]) ?_
    suffices H : ∀ Po : List Int → SMem → Prop, (∀ rr MM, (rr = [] ∧ sI tg MM ∧ (∀ f j i, f ≠ 34 → f ≠ 36 → ¬ (f = 1 ∧ i = 32) → MM f j i = M f j i) ∧ (∀ i, i < 6 → MM 34 0 i = M 34 0 i) ∧ MM 1 0 32 = ((n + (stL (sBb Z) (stV Z dt) (k + 1) r).length : Nat) : Int) ∧ (∀ i, i < n → MM 36 0 i = M 36 0 i) ∧ ∀ (i : Nat) (s : Nat → Int), (stL (sBb Z) (stV Z dt) (k + 1) r)[i]? = some s → MM 36 0 (n + i) = sCk s 6) → Po rr MM) → cEnds (cBG tm tf EX l dC dI cA ad scrS (d + k + 10)) Po 90 gX10_tells 0 [(g : Int), 0] M from H _ (fun _ _ h => h)
    intro Po hPo
    cases hb : sBb Z g with
    | false =>
      have eL : stL (sBb Z) (stV Z dt) (k + 1) r = stL (sBb Z) (stV Z dt) k r := stL_n (by rw [← eg]; exact hb)
      have nb : ∀ i, sBb Z i = true → i ≠ g := fun i hi z => by
        rw [z, hb] at hi
        cases hi
      have e35 : M 35 0 g = 0 := by rw [h35 g g6, hb]; rfl
      refine cEnds_at gX10_tells_m0 rfl ?_
      refine d_br (fun h => ?_) (fun h => ?_)
      · clear h
        refine d_br (fun h => ?_) (fun h => ?_)
        · simp only [cCmp, cE2, sev, svl, cen, List.cons_append, List.nil_append] at h
          first
          | omega
          | skip
            refine d_row 0 g (by simp only [cE2, sev, svl, cen, List.cons_append, List.nil_append]; omega) (by simp only [cE2, sev, svl, cen, List.cons_append, List.nil_append]; omega) (by omega) ?_
            rw [e35]
            refine d_br (fun h => ?_) (fun h => ?_)
            · simp only [cCmp, cE2, sev, svl, cen, List.cons_append, List.nil_append] at h
              omega
            · clear h
              refine d_rng (by simp only [clo, chi, cE2, sev, svl, cen, List.cons_append, List.nil_append]; omega) ?_
              refine d_call (ih' r n M hI hX hz h34 hdt h35 hn (by omega) (fun i hi hbi => hr i (by have := nb i hbi; omega) hbi) (fun i hi q => hno i hi (q.imp (fun z => by omega) id)) hr0 hA) (by simp [cAs, cE2, sev, svl, cen] <;> omega) ?_
              intro rr M' hq
              have hpost := hq
              have h0 := hpost.1
              subst h0
              refine ⟨rfl, ?_⟩
              rw [← eL] at hpost
              exact d_ret [] rfl (by decide) (hPo _ _ hpost)
        · simp only [cCmp, cE2, sev, svl, cen, List.cons_append, List.nil_append] at h
          first
          | omega
          | skip
            refine d_cut [0, 0] (by simp [cE2, sev, svl, cen] <;> omega) ?_
            exact hPo _ _ (by omega)
      · simp only [cCmp, cE2, sev, svl, cen, List.cons_append, List.nil_append] at h
        omega
    | true =>
      have e35 : M 35 0 g = 1 := by rw [h35 g g6, hb]; rfl
      have eT : stL (sBb Z) (stV Z dt) (k + 1) r = stP (sBb Z) (stV Z dt) k g r 6 := by
        rw [eg]
        exact stP_6 (by rw [← eg]; exact hb)
      have loop : ∀ (m x : Nat), x + m = 6 → ∀ M1 : SMem, sI tg M1 → (∀ f j i, f ≠ 34 → f ≠ 36 → ¬ (f = 1 ∧ i = 32) → M1 f j i = M f j i) → (∀ i, i < 6 → i ≠ g → M1 34 0 i = M 34 0 i) → M1 1 0 32 = ((n + (stP (sBb Z) (stV Z dt) k g r x).length : Nat) : Int) → (∀ i, i < n → M1 36 0 i = M 36 0 i) → (∀ (i : Nat) (s : Nat → Int), (stP (sBb Z) (stV Z dt) k g r x)[i]? = some s → M1 36 0 (n + i) = sCk s 6) → cEnds (cBG tm tf EX l dC dI cA ad scrS (d + k + 10)) Po 90 gX10_tells 105 [(g : Int), 0, (x : Int)] M1 := by
        intro m
        induction m with
        | zero =>
          intro x hx M1 i1 f1 g1 n1 k1 l1
          have ex : x = 6 := by omega
          subst ex
          refine cEnds_at gX10_tells_m105 rfl ?_
          refine d_br (fun h => ?_) (fun h => ?_)
          · clear h
            refine d_set 0 g (-1) (by simp only [cE2, sev, svl, cen, List.cons_append, List.nil_append]; omega) (by simp only [cE2, sev, svl, cen, List.cons_append, List.nil_append]; omega) g6 (by simp only [cE2, sev, svl, cen, List.cons_append, List.nil_append]; omega) ?_
            refine d_ret [] rfl (by decide) (hPo _ _ ⟨rfl, wI (lo := -1) (hi := 5) i1 rfl ⟨by omega, by omega⟩, fun f j i y1 y2 y3 => by rw [supd_f y1, f1 f j i y1 y2 y3], fun i hi => ?_, by rw [supd_f (by decide), n1, eT], fun i hi => by rw [supd_f (by decide), k1 i hi], fun i s hs => by rw [supd_f (by decide)]; rw [eT] at hs; exact l1 i s hs⟩)
            by_cases e : i = g
            · rw [e, supd_at, hno g g6 (Or.inl (Nat.le_refl _))]
            · rw [supd_i e, g1 i hi e]
          · simp only [cCmp, cE2, sev, svl, cen, List.cons_append, List.nil_append] at h
            omega
        | succ m ihm =>
          intro x hx M1 i1 f1 g1 n1 k1 l1
          have hl := stP_len (h := g) (r := r) hl9 x
          have c3 : x * 6 ^ k ≤ 5 * 6 ^ k := Nat.mul_le_mul_right _ (by omega)
          have es : (stP (sBb Z) (stV Z dt) k g r (x + 1)).length = (stP (sBb Z) (stV Z dt) k g r x).length + (stL (sBb Z) (stV Z dt) k (wSt r g (x : Int))).length := by rw [stP_s, List.length_append]
          have jI : sI tg (supd M1 34 0 g (x : Int)) := wI (lo := -1) (hi := 5) i1 rfl ⟨by omega, by omega⟩
          have jf : ∀ f j i, f ≠ 34 → f ≠ 36 → ¬ (f = 1 ∧ i = 32) → supd M1 34 0 g (x : Int) f j i = M f j i := fun f j i y1 y2 y3 => by rw [supd_f y1, f1 f j i y1 y2 y3]
          have jrow : ∀ f, f ≠ 34 → f ≠ 36 → f ≠ 1 → supd M1 34 0 g (x : Int) f = M f := fun f y1 y2 y3 => by
            funext j i
            exact jf f j i y1 y2 (fun q => y3 q.1)
          have jz : sMz Z (supd M1 34 0 g (x : Int)) := sMz_cg (fun f hf => by
            simp only [lVF, List.mem_cons, List.not_mem_nil, or_false] at hf
            exact jrow f (by omega) (by omega) (by omega)) hz
          have jX : sX (supd M1 34 0 g (x : Int)) := sX_congr (jrow 29 (by decide) (by decide) (by decide)) (jrow 27 (by decide) (by decide) (by decide)) (jrow 50 (by decide) (by decide) (by decide)) hX
          have jh34 : supd M1 34 0 g (x : Int) 1 0 34 = 0 := by rw [jf 1 0 34 (by decide) (by decide) (by decide), h34]
          have jr : ∀ i, i < 6 → i ≠ g → supd M1 34 0 g (x : Int) 34 0 i = M 34 0 i := fun i hi y => by rw [supd_i y, g1 i hi y]
          have e33 : M1 33 0 g = dt g := by rw [f1 33 0 g (by decide) (by decide) (by omega), hdt]
          -- nothing found with this reign
          have skip : stL (sBb Z) (stV Z dt) k (wSt r g (x : Int)) = [] → cEnds (cBG tm tf EX l dC dI cA ad scrS (d + k + 10)) Po 90 gX10_tells 105 [(g : Int), 0, ((x + 1 : Nat) : Int)] (supd M1 34 0 g (x : Int)) := by
            intro hnil
            have eP : stP (sBb Z) (stV Z dt) k g r (x + 1) = stP (sBb Z) (stV Z dt) k g r x := by rw [stP_s, hnil, List.append_nil]
            exact ihm (x + 1) (by omega) _ jI jf jr (by rw [supd_f (by decide), n1, eP]) (fun i hi => by rw [supd_f (by decide), k1 i hi]) (fun i s hs => by rw [supd_f (by decide)]; rw [eP] at hs; exact l1 i s hs)
          have agree : ∀ s : Nat → Int, (∀ i, (i < 6 - k ∨ sBb Z i = false ∨ 6 ≤ i) → s i = wSt r g (x : Int) i) → s g = (x : Int) ∧ ∀ i, i < g → s i = r i := fun s hs => ⟨by rw [hs g (Or.inl (by omega)), wSt_at], fun i hi => by rw [hs i (Or.inl (by omega)), wSt_ne (by omega)]⟩
          have nodate : ¬ (dt g = -1 ∨ dt g = (x : Int)) → stL (sBb Z) (stV Z dt) k (wSt r g (x : Int)) = [] := fun hd => stL_nil (by omega) (fun s hv hs => hd (by
            have := (hv.1 g g6 (sBb_y.mp hb)).2
            rw [(agree s hs).1] at this
            exact this))
          have nolets : ¬ sAll Z (supd M1 34 0 g (x : Int) 34 0) → stL (sBb Z) (stV Z dt) k (wSt r g (x : Int)) = [] := fun hd => stL_nil (by omega) (fun s hv hs => hd (by
            refine sAll_less hZ (fun i hbi => (hv.1 i (sBz_6 hZ hbi) hbi).1.1) (fun i hi => ?_) hv.2
            by_cases e : i = g
            · rw [e, supd_at, (agree s hs).1]
              exact Or.inl rfl
            · rw [jr i hi e]
              cases hbi : sBb Z i with
              | true =>
                by_cases h1 : i < g
                · rw [(agree s hs).2 i h1]
                  exact Or.inl (hr i h1 hbi).1
                · exact Or.inr (hno i hi (Or.inl (by omega)))
              | false => exact Or.inr (hno i hi (Or.inr hbi))))
          refine cEnds_at gX10_tells_m105 rfl ?_
          refine d_br (fun h => ?_) (fun h => ?_)
          · simp only [cCmp, cE2, sev, svl, cen, List.cons_append, List.nil_append] at h
            first
            | omega
            | skip
              refine d_set 0 g (-1) (by simp only [cE2, sev, svl, cen, List.cons_append, List.nil_append]; omega) (by simp only [cE2, sev, svl, cen, List.cons_append, List.nil_append]; omega) (by omega) (by simp only [cE2, sev, svl, cen, List.cons_append, List.nil_append]; omega) ?_
              exact d_ret [] rfl (by decide) (hPo _ _ (by omega))
          · simp only [cCmp, cE2, sev, svl, cen, List.cons_append, List.nil_append] at h
            first
            | omega
            | skip
              refine d_set 0 g (x : Int) (by simp only [cE2, sev, svl, cen, List.cons_append, List.nil_append]; omega) (by simp only [cE2, sev, svl, cen, List.cons_append, List.nil_append]; omega) (by omega) (by simp only [cE2, sev, svl, cen, List.cons_append, List.nil_append]; omega) ?_
              refine d_row 0 g (by simp only [cE2, sev, svl, cen, List.cons_append, List.nil_append]; omega) (by simp only [cE2, sev, svl, cen, List.cons_append, List.nil_append]; omega) (by omega) ?_
              rw [supd_f (by decide)]
              rw [e33]
              refine d_br (fun h => ?_) (fun h => ?_)
              · simp only [cCmp, cE2, sev, svl, cen, List.cons_append, List.nil_append] at h
                first
                | omega
                | skip
                  refine d_call (m_letsAll (d := d + k + 1) hp (Z := Z) jI jX hZ jz jh34) (by simp [cAs, cE2, sev, svl, cen] <;> omega) ?_
                  intro rr M' hq
                  obtain ⟨hM', hq⟩ := hq
                  rw [hM']
                  rcases hq with ⟨rfl, q4⟩ | ⟨rfl, q4⟩
                  · refine ⟨rfl, ?_⟩
                    refine d_br (fun h => ?_) (fun h => ?_)
                    · simp only [cCmp, cE2, sev, svl, cen, List.cons_append, List.nil_append] at h
                      omega
                    · clear h
                      refine d_rng (by simp only [clo, chi, cE2, sev, svl, cen, List.cons_append, List.nil_append]; omega) ?_
                      refine d_call (ih' (wSt r g (x : Int)) (n + (stP (sBb Z) (stV Z dt) k g r x).length) (supd M1 34 0 g (x : Int)) jI jX jz jh34 (by rw [jrow 33 (by decide) (by decide) (by decide), hdt]) (fun i hi => by rw [jf 35 0 i (by decide) (by decide) (by omega), h35 i hi]) (by rw [supd_f (by decide), n1]) (by omega) (fun i hi hbi => by by_cases e : i = g; { rw [e, supd_at, wSt_at]; exact ⟨rfl, by omega, by omega, by omega⟩ }; { rw [jr i (by omega) e, wSt_ne e]; exact hr i (by omega) hbi }) (fun i hi q => by by_cases e : i = g; { subst e; rw [hb] at q; exact absurd q (fun q => q.elim (fun z => by omega) (fun z => by cases z)) }; { rw [jr i hi e]; exact hno i hi (q.imp (fun z => by omega) id) }) (fun i hbi => by by_cases e : i = g; { rw [e, hb] at hbi; cases hbi }; { rw [wSt_ne e]; exact hr0 i hbi }) (by assumption)) (by simp [cAs, cE2, sev, svl, cen] <;> omega) ?_
                      intro rr M' hq
                      obtain ⟨rfl, i2, f2, g2, n2, k2, l2⟩ := hq
                      have fin : cEnds (cBG tm tf EX l dC dI cA ad scrS (d + k + 10)) Po 90 gX10_tells 105 [(g : Int), 0, ((x + 1 : Nat) : Int)] M' := ihm (x + 1) (by omega) M' i2 (fun f j i y1 y2 y3 => by rw [f2 f j i y1 y2 y3, jf f j i y1 y2 y3]) (fun i hi y => by rw [g2 i hi, jr i hi y]) (by rw [n2, es, Nat.add_assoc]) (fun i hi => by rw [k2 i (by omega), supd_f (by decide), k1 i hi]) (fun i s hs => by by_cases e : i < (stP (sBb Z) (stV Z dt) k g r x).length; { rw [k2 (n + i) (by omega), supd_f (by decide)]; rw [stP_s, List.getElem?_append_left e] at hs; exact l1 i s hs }; { rw [stP_s, List.getElem?_append_right (by omega)] at hs; have := l2 _ s hs; rw [show n + (stP (sBb Z) (stV Z dt) k g r x).length + (i - (stP (sBb Z) (stV Z dt) k g r x).length) = n + i by omega] at this; exact this })
                      refine ⟨rfl, ?_⟩
                      refine d_rng (by simp only [clo, chi, cE2, sev, svl, cen, List.cons_append, List.nil_append]; omega) ?_
                      refine d_cut [(g : Int), 0, ((x + 1 : Nat) : Int)] (by simp [cE2, sev, svl, cen] <;> omega) ?_
                      exact fin
                  · refine ⟨rfl, ?_⟩
                    refine d_br (fun h => ?_) (fun h => ?_)
                    · clear h
                      refine d_rng (by simp only [clo, chi, cE2, sev, svl, cen, List.cons_append, List.nil_append]; omega) ?_
                      refine d_cut [(g : Int), 0, ((x + 1 : Nat) : Int)] (by simp [cE2, sev, svl, cen] <;> omega) ?_
                      exact skip (nolets (by assumption))
                    · simp only [cCmp, cE2, sev, svl, cen, List.cons_append, List.nil_append] at h
                      omega
              · simp only [cCmp, cE2, sev, svl, cen, List.cons_append, List.nil_append] at h
                first
                | omega
                | skip
                  refine d_row 0 g (by simp only [cE2, sev, svl, cen, List.cons_append, List.nil_append]; omega) (by simp only [cE2, sev, svl, cen, List.cons_append, List.nil_append]; omega) (by omega) ?_
                  rw [supd_f (by decide)]
                  rw [e33]
                  refine d_br (fun h => ?_) (fun h => ?_)
                  · simp only [cCmp, cE2, sev, svl, cen, List.cons_append, List.nil_append] at h
                    first
                    | omega
                    | skip
                      refine d_rng (by simp only [clo, chi, cE2, sev, svl, cen, List.cons_append, List.nil_append]; omega) ?_
                      refine d_cut [(g : Int), 0, ((x + 1 : Nat) : Int)] (by simp [cE2, sev, svl, cen] <;> omega) ?_
                      exact skip (nodate (by omega))
                  · simp only [cCmp, cE2, sev, svl, cen, List.cons_append, List.nil_append] at h
                    first
                    | omega
                    | skip
                      refine d_call (m_letsAll (d := d + k + 1) hp (Z := Z) jI jX hZ jz jh34) (by simp [cAs, cE2, sev, svl, cen] <;> omega) ?_
                      intro rr M' hq
                      obtain ⟨hM', hq⟩ := hq
                      rw [hM']
                      rcases hq with ⟨rfl, q5⟩ | ⟨rfl, q5⟩
                      · refine ⟨rfl, ?_⟩
                        refine d_br (fun h => ?_) (fun h => ?_)
                        · simp only [cCmp, cE2, sev, svl, cen, List.cons_append, List.nil_append] at h
                          omega
                        · clear h
                          refine d_rng (by simp only [clo, chi, cE2, sev, svl, cen, List.cons_append, List.nil_append]; omega) ?_
                          refine d_call (ih' (wSt r g (x : Int)) (n + (stP (sBb Z) (stV Z dt) k g r x).length) (supd M1 34 0 g (x : Int)) jI jX jz jh34 (by rw [jrow 33 (by decide) (by decide) (by decide), hdt]) (fun i hi => by rw [jf 35 0 i (by decide) (by decide) (by omega), h35 i hi]) (by rw [supd_f (by decide), n1]) (by omega) (fun i hi hbi => by by_cases e : i = g; { rw [e, supd_at, wSt_at]; exact ⟨rfl, by omega, by omega, by omega⟩ }; { rw [jr i (by omega) e, wSt_ne e]; exact hr i (by omega) hbi }) (fun i hi q => by by_cases e : i = g; { subst e; rw [hb] at q; exact absurd q (fun q => q.elim (fun z => by omega) (fun z => by cases z)) }; { rw [jr i hi e]; exact hno i hi (q.imp (fun z => by omega) id) }) (fun i hbi => by by_cases e : i = g; { rw [e, hb] at hbi; cases hbi }; { rw [wSt_ne e]; exact hr0 i hbi }) (by assumption)) (by simp [cAs, cE2, sev, svl, cen] <;> omega) ?_
                          intro rr M' hq
                          obtain ⟨rfl, i2, f2, g2, n2, k2, l2⟩ := hq
                          have fin : cEnds (cBG tm tf EX l dC dI cA ad scrS (d + k + 10)) Po 90 gX10_tells 105 [(g : Int), 0, ((x + 1 : Nat) : Int)] M' := ihm (x + 1) (by omega) M' i2 (fun f j i y1 y2 y3 => by rw [f2 f j i y1 y2 y3, jf f j i y1 y2 y3]) (fun i hi y => by rw [g2 i hi, jr i hi y]) (by rw [n2, es, Nat.add_assoc]) (fun i hi => by rw [k2 i (by omega), supd_f (by decide), k1 i hi]) (fun i s hs => by by_cases e : i < (stP (sBb Z) (stV Z dt) k g r x).length; { rw [k2 (n + i) (by omega), supd_f (by decide)]; rw [stP_s, List.getElem?_append_left e] at hs; exact l1 i s hs }; { rw [stP_s, List.getElem?_append_right (by omega)] at hs; have := l2 _ s hs; rw [show n + (stP (sBb Z) (stV Z dt) k g r x).length + (i - (stP (sBb Z) (stV Z dt) k g r x).length) = n + i by omega] at this; exact this })
                          refine ⟨rfl, ?_⟩
                          refine d_rng (by simp only [clo, chi, cE2, sev, svl, cen, List.cons_append, List.nil_append]; omega) ?_
                          refine d_cut [(g : Int), 0, ((x + 1 : Nat) : Int)] (by simp [cE2, sev, svl, cen] <;> omega) ?_
                          exact fin
                      · refine ⟨rfl, ?_⟩
                        refine d_br (fun h => ?_) (fun h => ?_)
                        · clear h
                          refine d_rng (by simp only [clo, chi, cE2, sev, svl, cen, List.cons_append, List.nil_append]; omega) ?_
                          refine d_cut [(g : Int), 0, ((x + 1 : Nat) : Int)] (by simp [cE2, sev, svl, cen] <;> omega) ?_
                          exact skip (nolets (by assumption))
                        · simp only [cCmp, cE2, sev, svl, cen, List.cons_append, List.nil_append] at h
                          omega
      refine cEnds_at gX10_tells_m0 rfl ?_
      refine d_br (fun h => ?_) (fun h => ?_)
      · clear h
        refine d_br (fun h => ?_) (fun h => ?_)
        · simp only [cCmp, cE2, sev, svl, cen, List.cons_append, List.nil_append] at h
          first
          | omega
          | skip
            refine d_row 0 g (by simp only [cE2, sev, svl, cen, List.cons_append, List.nil_append]; omega) (by simp only [cE2, sev, svl, cen, List.cons_append, List.nil_append]; omega) (by omega) ?_
            rw [e35]
            refine d_br (fun h => ?_) (fun h => ?_)
            · clear h
              refine d_cut [(g : Int), 0, ((0 : Nat) : Int)] (by simp [cE2, sev, svl, cen] <;> omega) ?_
              exact loop 6 0 (by omega) M hI (fun _ _ _ _ _ _ => rfl) (fun _ _ _ => rfl) (by rw [stP_0]; exact hn) (fun _ _ => rfl) (fun i s hs => by rw [stP_0] at hs; cases hs)
            · simp only [cCmp, cE2, sev, svl, cen, List.cons_append, List.nil_append] at h
              omega
        · simp only [cCmp, cE2, sev, svl, cen, List.cons_append, List.nil_append] at h
          first
          | omega
          | skip
            refine d_cut [0, 0] (by simp [cE2, sev, svl, cen] <;> omega) ?_
            exact hPo _ _ (by omega)
      · simp only [cCmp, cE2, sev, svl, cen, List.cons_append, List.nil_append] at h
        omega
theorem m_findStories (hp : cPl tm tc tf EX) {Z : STZ} {dt : Nat → Int} {M : SMem} (hI : sI tg M) (hX : sX M) (hZ : sWf Z) (hz : sMz Z M) (hdt : M 33 0 = dt) (hK : sKm Z dt M) : cBG tm tf EX l dC dI cA ad scrS (d + 17) kX10_findStories [(2, 1, 0)] M (fun rr MM => rr = [] ∧ sI tg MM ∧ (∀ f j i, f ≠ 34 → f ≠ 35 → f ≠ 36 → ¬ (f = 1 ∧ (i = 28 ∨ i = 32 ∨ i = 34)) → MM f j i = M f j i) ∧ MM 1 0 28 = 0 ∧ sKm Z dt MM) := by
  refine cMeth (v := []) (Fd := 90) hp (by decide) gX10_findStories_ok gX10_findStories_m0 (by simp [cAs, cE2, sev, svl, cen]) ?_
  refine cEnds_at gX10_findStories_m0 rfl ?_
  refine d_fld 0 (by simp only [cE2, sev, svl, cen, List.cons_append, List.nil_append]; omega) ?_
  refine d_br (fun h => ?_) (fun h => ?_)
  · simp only [cCmp, cE2, sev, svl, cen, List.cons_append, List.nil_append] at h
    exact d_ret [] rfl (by decide) ⟨rfl, hI, fun _ _ _ _ _ _ _ => rfl, by omega, hK⟩
  · clear h
    refine d_call (m_begins (d := d + 14) hp (Z := Z) hI hZ hz) (by simp [cAs, cE2, sev, svl, cen]) ?_
    rintro rr M1 ⟨rfl, i1, f1, a34, a32, ar, ab⟩
    refine ⟨rfl, ?_⟩
    have row : ∀ f, f ≠ 34 → f ≠ 35 → f ≠ 1 → M1 f = M f := fun f y1 y2 y3 => by
      funext j i
      exact f1 f j i y1 y2 (fun q => y3 q.1)
    have z1 : sMz Z M1 := sMz_cg (fun f hf => by
      simp only [lVF, List.mem_cons, List.not_mem_nil, or_false] at hf
      exact row f (by omega) (by omega) (by omega)) hz
    have x1 : sX M1 := sX_congr (row 29 (by decide) (by decide) (by decide)) (row 27 (by decide) (by decide) (by decide)) (row 50 (by decide) (by decide) (by decide)) hX
    have hA : sAll Z (M1 34 0) := fun p hp9 ly hl => Or.inl (ar _ (hZ.1 p ly))
    refine d_call (m_tells (d := d) hp (Z := Z) (dt := dt) hZ 6 (Nat.le_refl _) (fun _ => 0) 0 M1 i1 x1 z1 a34 (by rw [row 33 (by decide) (by decide) (by decide), hdt]) ab a32 (by decide) (fun i hi => absurd hi (by omega)) (fun i hi _ => ar i hi) (fun _ _ => rfl) hA) (by simp [cAs, cE2, sev, svl, cen]) ?_
    rintro rr M2 ⟨rfl, i2, f2, -, n2, -, l2⟩
    refine ⟨rfl, ?_⟩
    refine d_rng (by simp only [clo, chi, cE2, sev, svl, cen, List.cons_append, List.nil_append]; omega) ?_
    refine d_put 0 0 (by simp only [cE2, sev, svl, cen, List.cons_append, List.nil_append]; omega) (by simp only [cE2, sev, svl, cen, List.cons_append, List.nil_append]; omega) ?_
    have e34 : supd M2 1 0 28 0 1 0 34 = 0 := by rw [supd_i (by decide), f2 1 0 34 (by decide) (by decide) (by decide), a34]
    refine d_ret [] rfl (by decide) ⟨rfl, wI (lo := 0) (hi := 1) i2 rfl ⟨by omega, by omega⟩, fun f j i y1 y2 y3 y4 => ?_, supd_at _ _ _ _ _, e34, fun _ => ⟨?_, fun i s hs => ?_, fun g hg => ?_⟩⟩
    · rw [show supd M2 1 0 28 0 f j i = M2 f j i from if_neg (fun q => y4 ⟨q.1, Or.inl q.2.2⟩), f2 f j i y1 y3 (fun q => y4 ⟨q.1, Or.inr (Or.inl q.2)⟩), f1 f j i y1 y2 (fun q => y4 ⟨q.1, Or.inr q.2⟩)]
    · rw [supd_i (by decide), n2, Nat.zero_add]
      rfl
    · rw [supd_f (by decide)]
      have := l2 i s hs
      rw [Nat.zero_add] at this
      exact this
    · rw [supd_f (by decide), f2 35 0 g (by decide) (by decide) (by omega)]
      exact ab g hg
theorem m_reignIn (hp : cPl tm tc tf EX) {i g : Nat} {s : Nat → Int} {M : SMem} (hi : i < 46656) (e36 : M 36 0 i = sCk s 6) (hs : ∀ j, j < 6 → 0 ≤ s j ∧ s j ≤ 5) (hg : g < 6) : cBG tm tf EX l dC dI cA ad scrS (d + 1) kX10_reignIn [(2, 1, 0), (0, 0, (i : Int)), (0, 0, (g : Int))] M (fun rr MM => MM = M ∧ rr = [s g]) := by
  refine cMeth (v := [(i : Int), (g : Int)]) (Fd := 90) hp (by decide) gX10_reignIn_ok gX10_reignIn_m0 (by simp [cAs, cE2, sev, svl, cen]) ?_
  have loop : ∀ (m j : Nat), j = g + m → j < 6 → cEnds (cBG tm tf EX l dC dI cA ad scrS d) (fun rr MM => MM = M ∧ rr = [s g]) 90 gX10_reignIn 10 [(g : Int), sCk s (j + 1), (j : Int)] M := by
    intro m
    induction m with
    | zero =>
      intro j hj hj6
      have ej : j = g := by omega
      subst ej
      have b := sCk_b hs (j + 1) (by omega)
      have b9 := b6k_le (j + 1) (by omega)
      have b2 := sCk_b hs j (by omega)
      have es : sCk s (j + 1) = 6 * sCk s j + s j := rfl
      have bj := hs j hj6
      have e14 : cfn 14 (sCk s (j + 1)) 6 = s j := by rw [cfn14_6 (by omega), es]; omega
      refine cEnds_at gX10_reignIn_m10 rfl ?_
      refine d_br (fun h => ?_) (fun h => ?_)
      · simp only [cCmp, cE2, sev, svl, cen, List.cons_append, List.nil_append] at h
        first
        | omega
        | skip
          refine d_opw (sCk s (j + 1)) 6 (by simp [cE2, sev, svl, cen] <;> omega) (by simp [cE2, sev, svl, cen] <;> omega) ?_
          rw [e14]
          exact wret1 (s j) (by simp only [cE2, sev, svl, cen, List.cons_append, List.nil_append]; omega) (by omega) ⟨rfl, rfl⟩
      · simp only [cCmp, cE2, sev, svl, cen, List.cons_append, List.nil_append] at h
        first
        | omega
        | skip
          refine d_opw (sCk s (j + 1)) 6 (by simp [cE2, sev, svl, cen] <;> omega) (by simp [cE2, sev, svl, cen] <;> omega) ?_
          refine d_rng (by simp only [clo, chi, cE2, sev, svl, cen, List.cons_append, List.nil_append]; omega) ?_
          refine d_cut [(j : Int), (cfn 13 (sCk s (j + 1)) 6), ((j : Int) - 1)] (by simp [cE2, sev, svl, cen] <;> omega) ?_
          exact (by omega)
    | succ m ih =>
      intro j hj hj6
      obtain ⟨j', rfl⟩ : ∃ j', j = j' + 1 := ⟨j - 1, by omega⟩
      have b := sCk_b hs (j' + 1 + 1) (by omega)
      have b9 := b6k_le (j' + 1 + 1) (by omega)
      have b2 := sCk_b hs (j' + 1) (by omega)
      have es : sCk s (j' + 1 + 1) = 6 * sCk s (j' + 1) + s (j' + 1) := rfl
      have bj := hs (j' + 1) hj6
      have e13 : cfn 13 (sCk s (j' + 1 + 1)) 6 = sCk s (j' + 1) := by rw [cfn13_6 (by omega), es]; omega
      refine cEnds_at gX10_reignIn_m10 rfl ?_
      refine d_br (fun h => ?_) (fun h => ?_)
      · simp only [cCmp, cE2, sev, svl, cen, List.cons_append, List.nil_append] at h
        first
        | omega
        | skip
          refine d_opw (sCk s (j' + 1 + 1)) 6 (by simp [cE2, sev, svl, cen] <;> omega) (by simp [cE2, sev, svl, cen] <;> omega) ?_
          exact wret1 (cfn 14 (sCk s (j' + 1 + 1)) 6) (by simp only [cE2, sev, svl, cen, List.cons_append, List.nil_append]; omega) (by omega) (by omega)
      · simp only [cCmp, cE2, sev, svl, cen, List.cons_append, List.nil_append] at h
        first
        | omega
        | skip
          refine d_opw (sCk s (j' + 1 + 1)) 6 (by simp [cE2, sev, svl, cen] <;> omega) (by simp [cE2, sev, svl, cen] <;> omega) ?_
          rw [e13]
          refine d_rng (by simp only [clo, chi, cE2, sev, svl, cen, List.cons_append, List.nil_append]; omega) ?_
          refine d_cut [(g : Int), sCk s (j' + 1), (j' : Int)] (by simp [cE2, sev, svl, cen] <;> omega) ?_
          exact ih j' (by omega) (by omega)
  refine cEnds_at gX10_reignIn_m0 rfl ?_
  refine d_row 0 i (by simp only [cE2, sev, svl, cen, List.cons_append, List.nil_append]; omega) (by simp only [cE2, sev, svl, cen, List.cons_append, List.nil_append]; omega) hi ?_
  rw [e36]
  refine d_cut [(g : Int), sCk s (5 + 1), ((5 : Nat) : Int)] (by simp [cE2, sev, svl, cen] <;> omega) ?_
  exact loop (5 - g) 5 (by omega) (by omega)
theorem m_countOf (hp : cPl tm tc tf EX) {L : List (Nat → Int)} {g : Nat} {x : Int} {M : SMem} (hL : L.length ≤ 46656) (e32 : M 1 0 32 = ((L.length : Nat) : Int)) (e36 : ∀ (i : Nat) (s : Nat → Int), L[i]? = some s → M 36 0 i = sCk s 6) (hs : ∀ s, s ∈ L → ∀ j, j < 6 → 0 ≤ s j ∧ s j ≤ 5) (hg : g < 6) : cBG tm tf EX l dC dI cA ad scrS (d + 2) kX10_countOf [(2, 1, 0), (0, 0, (g : Int)), (0, 0, x)] M (fun rr MM => MM = M ∧ rr = [((stC L g x : Nat) : Int)]) := by
  refine cMeth (v := [(g : Int), x]) (Fd := 90) hp (by decide) gX10_countOf_ok gX10_countOf_m0 (by simp [cAs, cE2, sev, svl, cen]) ?_
  have loop : ∀ (m k : Nat), k + m = L.length → cEnds (cBG tm tf EX l dC dI cA ad scrS (d + 1)) (fun rr MM => MM = M ∧ rr = [((stC L g x : Nat) : Int)]) 90 gX10_countOf 5 [(g : Int), x, ((stC (L.take k) g x : Nat) : Int), (k : Int)] M := by
    intro m
    induction m with
    | zero =>
      intro k hk
      have ek : k = L.length := by omega
      subst ek
      have hc := stC_le (L := L) (a := g) (x := x)
      rw [List.take_length]
      refine cEnds_at gX10_countOf_m5 rfl ?_
      refine d_fld 0 (by simp only [cE2, sev, svl, cen, List.cons_append, List.nil_append]; omega) ?_
      rw [e32]
      refine d_br (fun h => ?_) (fun h => ?_)
      · simp only [cCmp, cE2, sev, svl, cen, List.cons_append, List.nil_append] at h
        first
        | omega
        | skip
          exact wret1 ((stC L g x : Nat) : Int) (by simp only [cE2, sev, svl, cen, List.cons_append, List.nil_append]; omega) (by omega) ⟨rfl, rfl⟩
      · simp only [cCmp, cE2, sev, svl, cen, List.cons_append, List.nil_append] at h
        first
        | omega
        | skip
          omega
    | succ m ih =>
      intro k hk
      have hc := stC_le (L := L.take k) (a := g) (x := x)
      have hc2 : (L.take k).length ≤ 46656 := by rw [List.length_take]; omega
      obtain ⟨s, hsk⟩ : ∃ s, L[k]? = some s := ⟨L[k]'(by omega), List.getElem?_eq_getElem (by omega)⟩
      have hm := List.mem_of_getElem? hsk
      have et : stC (L.take (k + 1)) g x = stC (L.take k) g x + stC [s] g x := by
        rw [List.take_succ, hsk, stC_app]
        rfl
      have nx := ih (k + 1) (by omega)
      rw [et] at nx
      refine cEnds_at gX10_countOf_m5 rfl ?_
      by_cases e : s g = x
      · have e1 : stC [s] g x = 1 := stC_all (L := [s]) (fun s' hs' => by rw [List.mem_singleton.mp hs']; exact e)
        rw [e1] at nx
        refine d_fld 0 (by simp only [cE2, sev, svl, cen, List.cons_append, List.nil_append]; omega) ?_
        rw [e32]
        refine d_br (fun h => ?_) (fun h => ?_)
        · simp only [cCmp, cE2, sev, svl, cen, List.cons_append, List.nil_append] at h
          first
          | omega
          | skip
            exact wret1 ((stC (L.take k) g x : Nat) : Int) (by simp only [cE2, sev, svl, cen, List.cons_append, List.nil_append]; omega) (by omega) (by omega)
        · simp only [cCmp, cE2, sev, svl, cen, List.cons_append, List.nil_append] at h
          first
          | omega
          | skip
            refine d_call (m_reignIn hp (i := k) (g := g) (s := s) (by omega) (e36 k s hsk) (hs s hm) hg) (by simp [cAs, cE2, sev, svl, cen] <;> omega) ?_
            intro rr M' hq
            obtain ⟨hM', rfl⟩ := hq
            rw [hM']
            refine ⟨rfl, ?_⟩
            refine d_br (fun h => ?_) (fun h => ?_)
            · simp only [cCmp, cE2, sev, svl, cen, List.cons_append, List.nil_append] at h
              first
              | omega
              | skip
                refine d_rng (by simp only [clo, chi, cE2, sev, svl, cen, List.cons_append, List.nil_append]; omega) ?_
                refine d_rng (by simp only [clo, chi, cE2, sev, svl, cen, List.cons_append, List.nil_append]; omega) ?_
                refine d_cut [(g : Int), x, ((stC (L.take k) g x : Nat) : Int), ((k : Int) + 1)] (by simp [cE2, sev, svl, cen] <;> omega) ?_
                exact (by omega)
            · simp only [cCmp, cE2, sev, svl, cen, List.cons_append, List.nil_append] at h
              first
              | omega
              | skip
                refine d_rng (by simp only [clo, chi, cE2, sev, svl, cen, List.cons_append, List.nil_append]; omega) ?_
                refine d_rng (by simp only [clo, chi, cE2, sev, svl, cen, List.cons_append, List.nil_append]; omega) ?_
                refine d_cut [(g : Int), x, ((stC (L.take k) g x + 1 : Nat) : Int), ((k + 1 : Nat) : Int)] (by simp [cE2, sev, svl, cen] <;> omega) ?_
                exact nx
      · have e1 : stC [s] g x = 0 := stC_none (L := [s]) (fun s' hs' => by rw [List.mem_singleton.mp hs']; exact e)
        rw [e1] at nx
        refine d_fld 0 (by simp only [cE2, sev, svl, cen, List.cons_append, List.nil_append]; omega) ?_
        rw [e32]
        refine d_br (fun h => ?_) (fun h => ?_)
        · simp only [cCmp, cE2, sev, svl, cen, List.cons_append, List.nil_append] at h
          first
          | omega
          | skip
            exact wret1 ((stC (L.take k) g x : Nat) : Int) (by simp only [cE2, sev, svl, cen, List.cons_append, List.nil_append]; omega) (by omega) (by omega)
        · simp only [cCmp, cE2, sev, svl, cen, List.cons_append, List.nil_append] at h
          first
          | omega
          | skip
            refine d_call (m_reignIn hp (i := k) (g := g) (s := s) (by omega) (e36 k s hsk) (hs s hm) hg) (by simp [cAs, cE2, sev, svl, cen] <;> omega) ?_
            intro rr M' hq
            obtain ⟨hM', rfl⟩ := hq
            rw [hM']
            refine ⟨rfl, ?_⟩
            refine d_br (fun h => ?_) (fun h => ?_)
            · simp only [cCmp, cE2, sev, svl, cen, List.cons_append, List.nil_append] at h
              first
              | omega
              | skip
                refine d_rng (by simp only [clo, chi, cE2, sev, svl, cen, List.cons_append, List.nil_append]; omega) ?_
                refine d_rng (by simp only [clo, chi, cE2, sev, svl, cen, List.cons_append, List.nil_append]; omega) ?_
                refine d_cut [(g : Int), x, ((stC (L.take k) g x + 0 : Nat) : Int), ((k + 1 : Nat) : Int)] (by simp [cE2, sev, svl, cen] <;> omega) ?_
                exact nx
            · simp only [cCmp, cE2, sev, svl, cen, List.cons_append, List.nil_append] at h
              first
              | omega
              | skip
                refine d_rng (by simp only [clo, chi, cE2, sev, svl, cen, List.cons_append, List.nil_append]; omega) ?_
                refine d_rng (by simp only [clo, chi, cE2, sev, svl, cen, List.cons_append, List.nil_append]; omega) ?_
                refine d_cut [(g : Int), x, (((stC (L.take k) g x : Nat) : Int) + 1), ((k : Int) + 1)] (by simp [cE2, sev, svl, cen] <;> omega) ?_
                exact (by omega)
  refine cEnds_at gX10_countOf_m0 rfl ?_
  refine d_cut [(g : Int), x, ((stC (L.take 0) g x : Nat) : Int), ((0 : Nat) : Int)] (by simp [cE2, sev, svl, cen, stC]) ?_
  exact loop L.length 0 (by omega)
end CS17
