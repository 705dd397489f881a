/-! stories: what the walls ask, and what the class's rules say of it -/
/-- sizes, hands, doings, the names that fit, their reigns -/
abbrev STZ : Type := (Nat → Nat) × (Nat → Nat → Nat) × (Nat → Nat → Int) × (Nat → Nat → Nat → Prop) × (Nat → Int)
/-- a name that fits, of a reign not behind a and ahead of b -/
def sThr (Z : STZ) (p l : Nat) (a b : Int) : Prop := ∃ n, n < 8 ∧ Z.2.2.2.1 p l n ∧ Z.2.2.2.2 n ≤ a ∧ Z.2.2.2.2 n < b
/-- what one cut asks of the reigns of the hands; -1: not set yet -/
def sLet (Z : STZ) (r : Nat → Int) (p l : Nat) : Prop := r (Z.2.1 p l) = -1 ∨ ((∀ k, k < l → r (Z.2.1 p k) ≤ r (Z.2.1 p l)) ∧ (((Z.2.2.1 p l = 0 ∨ Z.2.2.1 p l = 3) ∧ sThr Z p l (r (Z.2.1 p l)) 6) ∨ (Z.2.2.1 p l = 4 ∧ sThr Z p l 6 6 ∧ (r (Z.2.1 p (l - 1)) = -1 ∨ r (Z.2.1 p (l - 1)) < r (Z.2.1 p l))) ∨ ((Z.2.2.1 p l = 1 ∨ Z.2.2.1 p l = 2) ∧ ((r (Z.2.1 p (l - 1)) = -1 ∧ Z.2.2.1 p (l - 1) ≠ 4) ∨ sThr Z p (l - 1) (if Z.2.2.1 p (l - 1) = 4 then 6 else r (Z.2.1 p (l - 1))) (r (Z.2.1 p l))))))
def sAll (Z : STZ) (r : Nat → Int) : Prop := ∀ p, p < 12 → ∀ l, l < Z.1 p → sLet Z r p l
/-- the hand has a cut -/
def sBz (Z : STZ) (h : Nat) : Prop := ∃ p l, p < 12 ∧ l < Z.1 p ∧ Z.2.1 p l = h
/-- the layers are as they must be: a first name, then away and in turn by turn -/
def sWf (Z : STZ) : Prop := (∀ p l, Z.2.1 p l < 6) ∧ (∀ n, 0 ≤ Z.2.2.2.2 n ∧ Z.2.2.2.2 n ≤ 5) ∧ ∀ p l, p < 12 → l < Z.1 p → ((l = 0 ∧ Z.2.2.1 p l = 0) ∨ (l % 2 = 1 ∧ (Z.2.2.1 p l = 1 ∨ Z.2.2.1 p l = 2)) ∨ (l % 2 = 0 ∧ 0 < l ∧ (Z.2.2.1 p l = 3 ∨ Z.2.2.1 p l = 4)))
/-- fewer hands set: no more is asked -/
theorem sAll_less {Z : STZ} {r r' : Nat → Int} (hZ : sWf Z) (h0 : ∀ h, sBz Z h → 0 ≤ r h) (hr : ∀ h, h < 6 → r' h = r h ∨ r' h = -1) (h : sAll Z r) : sAll Z r' := by
  intro p hp l hl
  have hb : ∀ k, k < Z.1 p → 0 ≤ r (Z.2.1 p k) := fun k hk => h0 _ ⟨p, k, hp, hk, rfl⟩
  have own := hb l hl
  rcases hr (Z.2.1 p l) (hZ.1 p l) with eo | eo
  · rcases h p hp l hl with q | ⟨q1, q2⟩
    · omega
    · refine Or.inr ⟨fun k hk => ?_, ?_⟩
      · have := q1 k hk
        have := hb k (by omega)
        rcases hr (Z.2.1 p k) (hZ.1 p k) with e | e <;> omega
      · rcases q2 with q2 | ⟨q2, q3, q4⟩ | ⟨q2, q3⟩
        · exact Or.inl ⟨q2.1, by rw [eo]; exact q2.2⟩
        · refine Or.inr (Or.inl ⟨q2, q3, ?_⟩)
          rcases hr (Z.2.1 p (l - 1)) (hZ.1 p (l - 1)) with e | e
          · have := hb (l - 1) (by omega)
            right
            rw [e, eo]
            omega
          · exact Or.inl e
        · refine Or.inr (Or.inr ⟨q2, ?_⟩)
          rcases hr (Z.2.1 p (l - 1)) (hZ.1 p (l - 1)) with e | e
          · rw [e, eo]
            exact q3
          · by_cases d4 : Z.2.2.1 p (l - 1) = 4
            · rw [eo]
              rcases q3 with q3 | q3
              · exact absurd d4 q3.2
              · right
                rw [if_pos d4] at q3 ⊢
                exact q3
            · exact Or.inl ⟨e, d4⟩
  · exact Or.inl eo
/-- the class's rules -/
def sRul (fl ce st : Nat → Int) (r : Nat → Int) : Prop := (∀ h, h < 6 → fl h ≤ r h ∧ r h ≤ ce h) ∧ ∀ a b, a < 6 → b < 6 → 0 ≤ st (6 * a + b) → r a + st (6 * a + b) ≤ r b
/-- the least reign of the names that fit; 6: none fits -/
def sLs (Z : STZ) (p l : Nat) (m : Int) : Prop := (∀ n, n < 8 → Z.2.2.2.1 p l n → m ≤ Z.2.2.2.2 n) ∧ ((m = 6 ∧ ∀ n, n < 8 → ¬ Z.2.2.2.1 p l n) ∨ ∃ n, n < 8 ∧ Z.2.2.2.1 p l n ∧ Z.2.2.2.2 n = m)
/-- the rules are those of the walls: from below, each rule has its ground; from above, each ground its rule -/
def sGat (Z : STZ) (dt lst fl ce st : Nat → Int) (barred : Prop) : Prop :=
  (∀ p l, p < 12 → l < Z.1 p → l % 2 = 0 → sLs Z p l (lst (6 * p + l))) ∧
  (∀ h, h < 6 → ce h = if dt h = -1 then 5 else dt h) ∧
  (∀ h, h < 6 → (∀ x, (x = (if dt h = -1 then 0 else dt h) ∨ ∃ p l, p < 12 ∧ l < Z.1 p ∧ Z.2.1 p l = h ∧ ((l % 2 = 0 ∧ Z.2.2.1 p l ≠ 4 ∧ x = lst (6 * p + l)) ∨ (l % 2 = 1 ∧ x = lst (6 * p + l - 1) + 1))) → x ≤ fl h) ∧ (fl h = (if dt h = -1 then 0 else dt h) ∨ fl h = 0 ∨ ∃ p l, p < 12 ∧ l < Z.1 p ∧ Z.2.1 p l = h ∧ ((l % 2 = 0 ∧ Z.2.2.1 p l ≠ 4 ∧ fl h = lst (6 * p + l)) ∨ (l % 2 = 1 ∧ fl h = lst (6 * p + l - 1) + 1)))) ∧
  (∀ a b, a < 6 → b < 6 → (∀ p l, p < 12 → 0 < l → l < Z.1 p → Z.2.1 p (l - 1) = a → Z.2.1 p l = b → (if Z.2.2.1 p l = 4 then 1 else 0) ≤ st (6 * a + b)) ∧ (st (6 * a + b) = -1 ∨ ∃ p l, p < 12 ∧ 0 < l ∧ l < Z.1 p ∧ Z.2.1 p (l - 1) = a ∧ Z.2.1 p l = b ∧ st (6 * a + b) = if Z.2.2.1 p l = 4 then 1 else 0)) ∧
  (barred ↔ ∃ p l, p < 12 ∧ l < Z.1 p ∧ l % 2 = 0 ∧ lst (6 * p + l) = 6)
theorem sThr_ls {Z : STZ} {p l : Nat} {m a b : Int} (hZ : sWf Z) (h : sLs Z p l m) (hb : b ≤ 6) : sThr Z p l a b ↔ (m ≤ a ∧ m < b) := by
  constructor
  · rintro ⟨n, n8, f, h1, h2⟩
    have := h.1 n n8 f
    omega
  · rintro ⟨h1, h2⟩
    rcases h.2 with ⟨e, -⟩ | ⟨n, n8, f, e⟩
    · omega
    · exact ⟨n, n8, f, by omega, by omega⟩
/-- a story is what keeps the rules -/
theorem sAll_iff {Z : STZ} {dt lst fl ce st : Nat → Int} {barred : Prop} (hZ : sWf Z) (hG : sGat Z dt lst fl ce st barred) {r : Nat → Int} (hr : ∀ h, h < 6 → 0 ≤ r h ∧ r h ≤ 5) : (sAll Z r ∧ ∀ h, h < 6 → dt h = -1 ∨ dt h = r h) ↔ (¬ barred ∧ sRul fl ce st r) := by
  obtain ⟨g1, g2, g3, g4, g5⟩ := hG
  obtain ⟨z1, z2, z3⟩ := hZ
  constructor
  · rintro ⟨hA, hD⟩
    have lets : ∀ p l, p < 12 → l < Z.1 p → _ := fun p l hp hl => (hA p hp l hl).resolve_left (by have := hr _ (z1 p l); omega)
    refine ⟨fun hb => ?_, fun h h6 => ⟨?_, ?_⟩, fun a b ha hb hs => ?_⟩
    · obtain ⟨p, l, hp, hl, he, e6⟩ := g5.mp hb
      have hls := g1 p l hp hl he
      rw [e6] at hls
      obtain ⟨-, q⟩ := lets p l hp hl
      rcases q with ⟨-, q⟩ | ⟨-, q, -⟩ | ⟨q, -⟩
      · have := (sThr_ls ⟨z1, z2, z3⟩ hls (by omega)).mp q
        omega
      · have := (sThr_ls ⟨z1, z2, z3⟩ hls (by omega)).mp q
        omega
      · rcases z3 p l hp hl with y | y | y <;> omega
    · rcases (g3 h h6).2 with e | e | ⟨p, l, hp, hl, eh, e⟩
      · rw [e]
        rcases hD h h6 with d | d
        · rw [if_pos d]; exact (hr h h6).1
        · split
          · exact (hr h h6).1
          · omega
      · rw [e]; exact (hr h h6).1
      · obtain ⟨-, q⟩ := lets p l hp hl
        rw [eh] at q
        rcases e with ⟨e1, e2, e3⟩ | ⟨e1, e3⟩
        · have hls := g1 p l hp hl e1
          rw [e3]
          rcases q with ⟨-, q⟩ | ⟨q, -⟩ | ⟨q, -⟩
          · exact ((sThr_ls ⟨z1, z2, z3⟩ hls (by omega)).mp q).1
          · exact absurd q e2
          · rcases z3 p l hp hl with y | y | y <;> omega
        · have hls := g1 p (l - 1) hp (by omega) (by omega)
          rw [show 6 * p + (l - 1) = 6 * p + l - 1 by omega] at hls
          rw [e3]
          have hd : Z.2.2.1 p l = 1 ∨ Z.2.2.1 p l = 2 := by rcases z3 p l hp hl with y | y | y <;> omega
          have q3 : sThr Z p (l - 1) (if Z.2.2.1 p (l - 1) = 4 then 6 else r (Z.2.1 p (l - 1))) (r h) := by
            rcases q with ⟨q, -⟩ | ⟨q, -⟩ | ⟨-, q | q⟩
            · omega
            · omega
            · have := hr _ (z1 p (l - 1))
              omega
            · exact q
          have b6 := hr h h6
          have := ((sThr_ls ⟨z1, z2, z3⟩ hls (by omega)).mp q3).2
          omega
    · rw [g2 h h6]
      rcases hD h h6 with d | d
      · rw [if_pos d]; exact (hr h h6).2
      · split
        · exact (hr h h6).2
        · omega
    · rcases (g4 a b ha hb).2 with e | ⟨p, l, hp, h0, hl, ea, eb, e⟩
      · omega
      · obtain ⟨q1, q⟩ := lets p l hp hl
        have q0 := q1 (l - 1) (by omega)
        rw [ea, eb] at q0
        rw [e]
        split
        · rename_i d4
          rcases q with ⟨q, -⟩ | ⟨-, -, q⟩ | ⟨q, -⟩
          · omega
          · rw [ea, eb] at q
            have := hr a ha
            omega
          · omega
        · omega
  · rintro ⟨hB, hF, hS⟩
    have lt6 : ∀ p l, p < 12 → l < Z.1 p → l % 2 = 0 → lst (6 * p + l) < 6 := fun p l hp hl he => by
      have hls := g1 p l hp hl he
      rcases hls.2 with ⟨e, -⟩ | ⟨n, -, -, e⟩
      · exact absurd (g5.mpr ⟨p, l, hp, hl, he, e⟩) hB
      · have := z2 n
        omega
    have stp : ∀ p l, p < 12 → 0 < l → l < Z.1 p → r (Z.2.1 p (l - 1)) + (if Z.2.2.1 p l = 4 then 1 else 0) ≤ r (Z.2.1 p l) := fun p l hp h0 hl => by
      have q := (g4 _ _ (z1 p (l - 1)) (z1 p l)).1 p l hp h0 hl rfl rfl
      have w := hS _ _ (z1 p (l - 1)) (z1 p l) (by split at q <;> omega)
      omega
    have chain : ∀ p, p < 12 → ∀ m k, k + m < Z.1 p → r (Z.2.1 p k) ≤ r (Z.2.1 p (k + m)) := by
      intro p hp m
      induction m with
      | zero => intro k _; exact Int.le_refl _
      | succ m ih =>
        intro k hk
        have a1 := ih k (by omega)
        have a2 := stp p (k + (m + 1)) hp (by omega) hk
        rw [show k + (m + 1) - 1 = k + m by omega] at a2
        split at a2 <;> omega
    refine ⟨fun p hp l hl => Or.inr ⟨fun k hk => ?_, ?_⟩, fun h h6 => ?_⟩
    · have := chain p hp (l - k) k (by omega)
      rw [show k + (l - k) = l by omega] at this
      exact this
    · have fl1 : ∀ x, _ → x ≤ fl (Z.2.1 p l) := (g3 _ (z1 p l)).1
      have ow := hF _ (z1 p l)
      by_cases he : l % 2 = 0
      · have hls := g1 p l hp hl he
        have h6 := lt6 p l hp hl he
        by_cases d4 : Z.2.2.1 p l = 4
        · refine Or.inr (Or.inl ⟨d4, (sThr_ls ⟨z1, z2, z3⟩ hls (by omega)).mpr ⟨by omega, h6⟩, Or.inr ?_⟩)
          have h0 : 0 < l := by rcases z3 p l hp hl with y | y | y <;> omega
          have := stp p l hp h0 hl
          rw [if_pos d4] at this
          omega
        · refine Or.inl ⟨by rcases z3 p l hp hl with y | y | y <;> omega, (sThr_ls ⟨z1, z2, z3⟩ hls (by omega)).mpr ⟨?_, h6⟩⟩
          have := fl1 _ (Or.inr ⟨p, l, hp, hl, rfl, Or.inl ⟨he, d4, rfl⟩⟩)
          omega
      · have hls := g1 p (l - 1) hp (by omega) (by omega)
        rw [show 6 * p + (l - 1) = 6 * p + l - 1 by omega] at hls
        refine Or.inr (Or.inr ⟨by rcases z3 p l hp hl with y | y | y <;> omega, Or.inr ((sThr_ls ⟨z1, z2, z3⟩ hls (by have := hr _ (z1 p l); omega)).mpr ⟨?_, ?_⟩)⟩)
        · by_cases d4 : Z.2.2.1 p (l - 1) = 4
          · rw [if_pos d4]
            have := lt6 p (l - 1) hp (by omega) (by omega)
            rw [show 6 * p + (l - 1) = 6 * p + l - 1 by omega] at this
            omega
          · rw [if_neg d4]
            have a1 := (g3 _ (z1 p (l - 1))).1 (lst (6 * p + (l - 1))) (Or.inr ⟨p, l - 1, hp, by omega, rfl, Or.inl ⟨by omega, d4, rfl⟩⟩)
            have a2 := hF _ (z1 p (l - 1))
            rw [show 6 * p + (l - 1) = 6 * p + l - 1 by omega] at a1
            omega
        · have := fl1 _ (Or.inr ⟨p, l, hp, hl, rfl, Or.inr ⟨by omega, rfl⟩⟩)
          omega
    · by_cases d : dt h = -1
      · exact Or.inl d
      · have a1 := (g3 h h6).1 _ (Or.inl rfl)
        have a2 := hF h h6
        have a3 := g2 h h6
        rw [if_neg d] at a1 a3
        right
        omega
