/-! stories: more of bits -/
theorem wBt_0 {b : Nat → Bool} : ∀ k, (∀ i, i < k → b i = false) → wBt b k = 0 := by
  intro k
  induction k with
  | zero => intro _; rfl
  | succ k ih =>
    intro h
    rw [wBt_n (h k (by omega)), ih (fun i hi => h i (by omega))]
/-- the last of them -/
theorem w6_last : ∀ (b0 b1 b2 b3 b4 b5 : Bool) (g : Fin 6), (cfn 3 (wBt (w6 b0 b1 b2 b3 b4 b5) 6) ((g.val : Nat) : Int) = 1) ↔ (w6 b0 b1 b2 b3 b4 b5 g.val = true ∧ ∀ i : Fin 6, g.val < i.val → w6 b0 b1 b2 b3 b4 b5 i.val = false) := by decide +kernel
theorem wBt6_last {b : Nat → Bool} {g : Nat} (hg : g < 6) : cfn 3 (wBt b 6) (g : Int) = 1 ↔ (b g = true ∧ ∀ i, g < i → i < 6 → b i = false) := by
  have h := w6_last (b 0) (b 1) (b 2) (b 3) (b 4) (b 5) ⟨g, hg⟩
  rw [wBt_cg 6 (w6_eq b), h, ← w6_eq b g hg]
  constructor
  · rintro ⟨h1, h2⟩
    exact ⟨h1, fun i h3 h4 => by rw [w6_eq b i h4]; exact h2 ⟨i, h4⟩ h3⟩
  · rintro ⟨h1, h2⟩
    exact ⟨h1, fun i h3 => by rw [← w6_eq b i.val i.isLt]; exact h2 i.val h3 i.isLt⟩
theorem cBG_post {zm : List ZMe} {fm : List SF} {EX : SEx} {l : Launch} {dC : Nat → ClassId} {dI : Nat → Nat → Nat} {cA : Nat → ClassId} {ad : SAd} {scrS d kc : Nat} {as : List CA} {M : SMem} {post post' : List Int → SMem → Prop} (h : cBG zm fm EX l dC dI cA ad scrS d kc as M post) (hq : ∀ rr MM, post rr MM → post' rr MM) : cBG zm fm EX l dC dI cA ad scrS d kc as M post' := by
  intro me hme ws cas hH hs p e R s m args below meth c Q A ls F hP hD hl hend
  refine h me hme ws cas hH hs p e R s m args below meth c Q A ls F hP hD hl (fun pc' ls' r ws' H locs nc ns h1 h2 h3 h4 h5 h6 h7 => ?_)
  obtain ⟨r9, M', h8, h9, h10⟩ := h2
  exact hend pc' ls' r ws' H locs nc ns h1 ⟨r9, M', h8, h9, hq _ _ h10⟩ h3 h4 h5 h6 h7
theorem cfn11 {a b : Int} : (a < b ∧ cfn 11 a b = b) ∨ (b ≤ a ∧ cfn 11 a b = a) := by
  show (a < b ∧ (if a < b then b else a) = b) ∨ (b ≤ a ∧ (if a < b then b else a) = a)
  by_cases h : a < b
  · rw [if_pos h]; exact Or.inl ⟨h, rfl⟩
  · rw [if_neg h]; exact Or.inr ⟨by omega, rfl⟩
