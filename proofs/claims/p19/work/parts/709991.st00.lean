/-! stories: bits -/
theorem wDc_iff {P : Nat → Prop} {i : Nat} : wDc P i = true ↔ P i := by
  by_cases hp : P i
  · rw [wDc_y hp]; exact ⟨fun _ => hp, fun _ => rfl⟩
  · rw [wDc_n hp]; exact ⟨fun z => (by cases z), fun z => absurd z hp⟩
/-- six of them, by hand -/
def w6 (b0 b1 b2 b3 b4 b5 : Bool) (i : Nat) : Bool := match i with
  | 0 => b0
  | 1 => b1
  | 2 => b2
  | 3 => b3
  | 4 => b4
  | _ => b5
theorem w6_eq (b : Nat → Bool) : ∀ i, i < 6 → b i = w6 (b 0) (b 1) (b 2) (b 3) (b 4) (b 5) i := by
  intro i hi
  match i, hi with
  | 0, _ => rfl
  | 1, _ => rfl
  | 2, _ => rfl
  | 3, _ => rfl
  | 4, _ => rfl
  | 5, _ => rfl
theorem w6_or : ∀ (b0 b1 b2 b3 b4 b5 : Bool) (g : Fin 6), cfn 1 (wBt (w6 b0 b1 b2 b3 b4 b5) 6) (cfn 2 1 ((g.val : Nat) : Int)) = wBt (fun i => w6 b0 b1 b2 b3 b4 b5 i || Nat.beq i g.val) 6 := by decide +kernel
theorem wBt_or {S : Nat → Prop} {g : Nat} (hg : g < 6) : cfn 1 (wBt (wDc S) 6) (cfn 2 1 (g : Int)) = wBt (wDc (fun x => S x ∨ x = g)) 6 := by
  have e1 := wBt_cg 6 (w6_eq (wDc S))
  rw [e1, w6_or _ _ _ _ _ _ ⟨g, hg⟩]
  refine wBt_cg 6 (fun i hi => ?_)
  rw [← w6_eq (wDc S) i hi]
  by_cases h : i = g
  · rw [wDc_y (P := fun x => S x ∨ x = g) (Or.inr h), show Nat.beq i g = true from Nat.beq_eq.mpr h, Bool.or_true]
  · rw [show Nat.beq i g = false from by cases hb : Nat.beq i g with | true => exact absurd (Nat.beq_eq.mp hb) h | false => rfl, Bool.or_false]
    exact wDc_cg ⟨Or.inl, fun z => z.elim id (fun z => absurd z h)⟩
