/-! stories: the rules gathered from the walls, layer by layer -/
def sBase (dt : Nat → Int) (h : Nat) : Int := if dt h = -1 then 0 else dt h
/-- what a layer raises its hand's floor to -/
def sFlr (Z : STZ) (lst : Nat → Int) (p l : Nat) : Int := if l % 2 = 1 then lst (6 * p + l - 1) + 1 else if Z.2.2.1 p l = 4 then 0 else lst (6 * p + l)
def sBy (Z : STZ) (p l : Nat) : Int := if Z.2.2.1 p l = 4 then 1 else 0
/-- the rules of the layers D -/
def sGt (Z : STZ) (D : Nat → Nat → Prop) (dt lst fl ce st : Nat → Int) (barred : Prop) (busy : Nat → Prop) : Prop :=
  (∀ h, h < 6 → ce h = if dt h = -1 then 5 else dt h) ∧
  (∀ h, h < 6 → sBase dt h ≤ fl h ∧ (∀ p l, D p l → Z.2.1 p l = h → sFlr Z lst p l ≤ fl h) ∧ (fl h = sBase dt h ∨ ∃ p l, D p l ∧ Z.2.1 p l = h ∧ fl h = sFlr Z lst p l)) ∧
  (∀ a b, a < 6 → b < 6 → (∀ p l, D p l → 0 < l → Z.2.1 p (l - 1) = a → Z.2.1 p l = b → sBy Z p l ≤ st (6 * a + b)) ∧ (st (6 * a + b) = -1 ∨ ∃ p l, D p l ∧ 0 < l ∧ Z.2.1 p (l - 1) = a ∧ Z.2.1 p l = b ∧ st (6 * a + b) = sBy Z p l)) ∧
  (barred ↔ ∃ p l, D p l ∧ l % 2 = 0 ∧ lst (6 * p + l) = 6) ∧
  ∀ h, h < 6 → (busy h ↔ ∃ p l, D p l ∧ Z.2.1 p l = h)
def sMx (a b : Int) : Int := if a < b then b else a
theorem sMx_c {a b : Int} : (a < b ∧ sMx a b = b) ∨ (b ≤ a ∧ sMx a b = a) := by
  unfold sMx
  by_cases h : a < b
  · rw [if_pos h]; exact Or.inl ⟨h, rfl⟩
  · rw [if_neg h]; exact Or.inr ⟨by omega, rfl⟩
/-- one layer more -/
theorem sGt_add {Z : STZ} {D D' : Nat → Nat → Prop} {dt lst fl ce st : Nat → Int} {barred barred' : Prop} {busy busy' : Nat → Prop} {p l : Nat} (hh : ∀ p l, Z.2.1 p l < 6) (hD : ∀ p' l', D' p' l' ↔ (D p' l' ∨ (p' = p ∧ l' = l))) (hb : barred' ↔ (barred ∨ (l % 2 = 0 ∧ lst (6 * p + l) = 6))) (hz : ∀ h, h < 6 → (busy' h ↔ (busy h ∨ h = Z.2.1 p l))) (h : sGt Z D dt lst fl ce st barred busy) : sGt Z D' dt lst (wSt fl (Z.2.1 p l) (sMx (fl (Z.2.1 p l)) (sFlr Z lst p l))) ce (if 0 < l then wSt st (6 * Z.2.1 p (l - 1) + Z.2.1 p l) (sMx (st (6 * Z.2.1 p (l - 1) + Z.2.1 p l)) (sBy Z p l)) else st) barred' busy' := by
  obtain ⟨g1, g2, g3, g4, g5⟩ := h
  refine ⟨g1, fun h h6 => ?_, fun a b ha hb6 => ?_, ?_, fun h h6 => ?_⟩
  · obtain ⟨a1, a2, a3⟩ := g2 h h6
    by_cases e : h = Z.2.1 p l
    · have m := @sMx_c (fl h) (sFlr Z lst p l)
      rw [← e, wSt_at]
      refine ⟨by omega, fun p' l' hd' eh => ?_, ?_⟩
      · rcases (hD p' l').mp hd' with q | ⟨rfl, rfl⟩
        · have := a2 p' l' q eh
          omega
        · omega
      · rcases m with ⟨-, m⟩ | ⟨-, m⟩
        · exact Or.inr ⟨p, l, (hD p l).mpr (Or.inr ⟨rfl, rfl⟩), e.symm, m⟩
        · rw [m]
          rcases a3 with q | ⟨p', l', q1, q2, q3⟩
          · exact Or.inl q
          · exact Or.inr ⟨p', l', (hD p' l').mpr (Or.inl q1), q2, q3⟩
    · rw [wSt_ne e]
      refine ⟨a1, fun p' l' hd' eh => ?_, ?_⟩
      · rcases (hD p' l').mp hd' with q | ⟨rfl, rfl⟩
        · exact a2 p' l' q eh
        · exact absurd eh.symm e
      · rcases a3 with q | ⟨p', l', q1, q2, q3⟩
        · exact Or.inl q
        · exact Or.inr ⟨p', l', (hD p' l').mpr (Or.inl q1), q2, q3⟩
  · obtain ⟨a1, a2⟩ := g3 a b ha hb6
    have h1 := hh p (l - 1)
    have h2 := hh p l
    by_cases h0 : 0 < l
    · rw [if_pos h0]
      by_cases e : a = Z.2.1 p (l - 1) ∧ b = Z.2.1 p l
      · obtain ⟨e1, e2⟩ := e
        have m := @sMx_c (st (6 * a + b)) (sBy Z p l)
        rw [← e1, ← e2, wSt_at]
        refine ⟨fun p' l' hd' y1 y2 y3 => ?_, ?_⟩
        · rcases (hD p' l').mp hd' with q | ⟨rfl, rfl⟩
          · have := a1 p' l' q y1 y2 y3
            omega
          · omega
        · rcases m with ⟨-, m⟩ | ⟨-, m⟩
          · exact Or.inr ⟨p, l, (hD p l).mpr (Or.inr ⟨rfl, rfl⟩), h0, e1.symm, e2.symm, m⟩
          · rw [m]
            rcases a2 with q | ⟨p', l', q1, q2⟩
            · exact Or.inl q
            · exact Or.inr ⟨p', l', (hD p' l').mpr (Or.inl q1), q2⟩
      · rw [wSt_ne (by omega)]
        refine ⟨fun p' l' hd' y1 y2 y3 => ?_, ?_⟩
        · rcases (hD p' l').mp hd' with q | ⟨rfl, rfl⟩
          · exact a1 p' l' q y1 y2 y3
          · exact absurd ⟨y2.symm, y3.symm⟩ e
        · rcases a2 with q | ⟨p', l', q1, q2⟩
          · exact Or.inl q
          · exact Or.inr ⟨p', l', (hD p' l').mpr (Or.inl q1), q2⟩
    · rw [if_neg h0]
      refine ⟨fun p' l' hd' y1 y2 y3 => ?_, ?_⟩
      · rcases (hD p' l').mp hd' with q | ⟨rfl, rfl⟩
        · exact a1 p' l' q y1 y2 y3
        · exact absurd y1 h0
      · rcases a2 with q | ⟨p', l', q1, q2⟩
        · exact Or.inl q
        · exact Or.inr ⟨p', l', (hD p' l').mpr (Or.inl q1), q2⟩
  · rw [hb, g4]
    constructor
    · rintro (⟨p', l', q1, q2⟩ | q)
      · exact ⟨p', l', (hD p' l').mpr (Or.inl q1), q2⟩
      · exact ⟨p, l, (hD p l).mpr (Or.inr ⟨rfl, rfl⟩), q⟩
    · rintro ⟨p', l', q1, q2⟩
      rcases (hD p' l').mp q1 with q | ⟨rfl, rfl⟩
      · exact Or.inl ⟨p', l', q, q2⟩
      · exact Or.inr q2
  · rw [hz h h6, g5 h h6]
    constructor
    · rintro (⟨p', l', q1, q2⟩ | q)
      · exact ⟨p', l', (hD p' l').mpr (Or.inl q1), q2⟩
      · exact ⟨p, l, (hD p l).mpr (Or.inr ⟨rfl, rfl⟩), q.symm⟩
    · rintro ⟨p', l', q1, q2⟩
      rcases (hD p' l').mp q1 with q | ⟨rfl, rfl⟩
      · exact Or.inl ⟨p', l', q, q2⟩
      · exact Or.inr q2.symm
/-- all layers: the rules of the walls -/
theorem sGt_all {Z : STZ} {dt lst fl ce st : Nat → Int} {barred : Prop} {busy : Nat → Prop} (hl : ∀ p l, p < 12 → l < Z.1 p → l % 2 = 0 → sLs Z p l (lst (6 * p + l))) (hls : ∀ k, 0 ≤ lst k) (hdt : ∀ h, -1 ≤ dt h) (h : sGt Z (fun p l => p < 12 ∧ l < Z.1 p) dt lst fl ce st barred busy) : sGat Z dt lst fl ce st barred := by
  obtain ⟨g1, g2, g3, g4, g5⟩ := h
  refine ⟨hl, g1, fun h h6 => ⟨fun x hx => ?_, ?_⟩, fun a b ha hb => ⟨fun p l hp h0 hl e1 e2 => (g3 a b ha hb).1 p l ⟨hp, hl⟩ h0 e1 e2, ?_⟩, ?_⟩
  · obtain ⟨a1, a2, -⟩ := g2 h h6
    rcases hx with rfl | ⟨p, l, hp, hl, eh, q⟩
    · exact a1
    · have := a2 p l ⟨hp, hl⟩ eh
      unfold sFlr at this
      rcases q with ⟨e1, e2, rfl⟩ | ⟨e1, rfl⟩
      · rw [if_neg (by omega), if_neg e2] at this
        exact this
      · rw [if_pos e1] at this
        exact this
  · obtain ⟨-, -, a3⟩ := g2 h h6
    rcases a3 with q | ⟨p, l, ⟨hp, hl⟩, eh, q⟩
    · exact Or.inl q
    · unfold sFlr at q
      by_cases e1 : l % 2 = 1
      · rw [if_pos e1] at q
        exact Or.inr (Or.inr ⟨p, l, hp, hl, eh, Or.inr ⟨e1, q⟩⟩)
      · rw [if_neg e1] at q
        by_cases e2 : Z.2.2.1 p l = 4
        · rw [if_pos e2] at q
          exact Or.inr (Or.inl q)
        · rw [if_neg e2] at q
          exact Or.inr (Or.inr ⟨p, l, hp, hl, eh, Or.inl ⟨by omega, e2, q⟩⟩)
  · rcases (g3 a b ha hb).2 with q | ⟨p, l, ⟨hp, hl⟩, h0, e1, e2, q⟩
    · exact Or.inl q
    · exact Or.inr ⟨p, l, hp, h0, hl, e1, e2, q⟩
  · rw [g4]
    exact ⟨fun ⟨p, l, q1, q2⟩ => ⟨p, l, q1.1, q1.2, q2⟩, fun ⟨p, l, q1, q2, q3⟩ => ⟨p, l, ⟨q1, q2⟩, q3⟩⟩
