/-! what is taken of the kinds and the bounds, by the kernel -/
def spl (fm : List SF) (f : Nat) : List (Nat × Nat × Nat) := match fm with
  | [] => []
  | en :: r => (List.range en.2.2.1).map (fun j => (spos en j, f, j)) ++ spl r (f + 1)
def slook (p : Nat) : List (Nat × Nat × Nat) → Option (Nat × Nat)
  | [] => none
  | q :: r => cond (Nat.beq q.1 p) (some q.2) (slook p r)
def schJ (L : List (Nat × Nat × Nat)) (en : SF) (f : Nat) : Nat → Bool
  | 0 => true
  | j + 1 => cond (match slook (spos en j) L with
    | some q => Nat.beq q.1 f && Nat.beq q.2 j
    | none => false) (schJ L en f j) false
def schI (L : List (Nat × Nat × Nat)) : List SF → Nat → Bool
  | [], _ => true
  | en :: r, f => cond (schJ L en f en.2.2.1) (schI L r (f + 1)) false
theorem schJ_ok {L : List (Nat × Nat × Nat)} {en : SF} {f : Nat} : ∀ {n : Nat}, schJ L en f n = true → ∀ j, j < n → slook (spos en j) L = some (f, j) := by
  intro n
  induction n with
  | zero => intro _ j hj; omega
  | succ n ih =>
    intro h j hj
    unfold schJ at h
    obtain ⟨h1, h2⟩ := bcond h
    by_cases hjn : j = n
    · subst hjn
      cases hs : slook (spos en j) L with
      | none => rw [hs] at h1; cases h1
      | some q =>
        rw [hs] at h1
        simp only [Bool.and_eq_true] at h1
        obtain ⟨q1, q2⟩ := q
        have z1 : q1 = f := Nat.beq_eq.mp h1.1
        have z2 : q2 = j := Nat.beq_eq.mp h1.2
        rw [z1, z2]
    · exact ih h2 j (by omega)
theorem schI_ok {L : List (Nat × Nat × Nat)} : ∀ {fm : List SF} {f0 : Nat}, schI L fm f0 = true → ∀ (f : Nat) (en : SF), fm[f]? = some en → ∀ j, j < en.2.2.1 → slook (spos en j) L = some (f0 + f, j) := by
  intro fm
  induction fm with
  | nil => intro f0 _ f en h; cases h
  | cons a r ih =>
    intro f0 h f en hf j hj
    unfold schI at h
    obtain ⟨h1, h2⟩ := bcond h
    cases f with
    | zero =>
      cases hf
      exact schJ_ok h1 j hj
    | succ f =>
      have := ih h2 f en (by simpa using hf) j hj
      rw [this]
      congr 2
      omega
theorem sInj_of {fm : List SF} (h : schI (spl fm 0) fm 0 = true) : sInj fm := by
  intro f f' en en' h1 h2 j j' hj hj' hp
  have e1 := schI_ok h f en h1 j hj
  have e2 := schI_ok h f' en' h2 j' hj'
  rw [hp, e2] at e1
  simp only [Option.some.injEq, Prod.mk.injEq, Nat.zero_add] at e1
  exact ⟨e1.1.symm, e1.2.symm⟩
theorem tInj : sInj tf := sInj_of (by decide +kernel)
def cfm (en : SF) : Bool := match en.2.2.2 with
  | .inr a => Nat.beq a.2.1 0 || Nat.beq a.2.2.1 106
  | .inl _ => true
theorem tcfm : ∀ en ∈ tf, cfm en = true := List.all_eq_true.mp (by decide +kernel)
theorem tvar {f : Nat} {en : SF} {a : Nat × Nat × Nat × Nat} (h : tf[f]? = some en) (ha : en.2.2.2 = .inr a) (hz : a.2.1 ≠ 0) : a.2.2.1 = 106 := by
  have h1 := tcfm en (List.mem_of_getElem? h)
  unfold cfm at h1
  rw [ha] at h1
  simp only [Bool.or_eq_true] at h1
  rcases h1 with h1 | h1
  · exact absurd (Nat.beq_eq.mp h1) hz
  · exact Nat.beq_eq.mp h1
theorem tfmok : sfmok tf := by
  intro f en a h ha hz
  rw [tvar h ha hz]
  exact Nat.le_of_ble_eq_true (by decide +kernel)
def crw : List SF → List (Nat × List (Int × Int)) → Bool
  | [], _ => true
  | _ :: _, [] => false
  | en :: r, q :: t => cond (match en.2.2.2 with
    | .inr _ => !(Nat.beq q.1 0)
    | .inl _ => true) (crw r t) false
theorem crw_ok {a : Nat × Nat × Nat × Nat} : ∀ {fm : List SF} {rg : List (Nat × List (Int × Int))}, crw fm rg = true → ∀ (f : Nat) (en : SF), fm[f]? = some en → en.2.2.2 = .inr a → ∃ q, rg[f]? = some q ∧ Nat.beq q.1 0 = false := by
  intro fm
  induction fm with
  | nil => intro rg _ f en h; cases h
  | cons e0 r ih =>
    intro rg h f en hf ha
    cases rg with
    | nil => cases h
    | cons q t =>
      unfold crw at h
      obtain ⟨h1, h2⟩ := bcond h
      cases f with
      | zero =>
        cases hf
        rw [ha] at h1
        exact ⟨q, rfl, snot h1⟩
      | succ f => exact ih h2 f en (by simpa using hf) ha
theorem tcrw : crw tf tg.1 = true := by decide +kernel
theorem trow {f : Nat} {en : SF} {a : Nat × Nat × Nat × Nat} (h : tf[f]? = some en) (ha : en.2.2.2 = .inr a) (x : Nat) : srg tg f x = srg tg f 0 ∧ scl tg f x = 0 := by
  obtain ⟨q, h1, h2⟩ := crw_ok tcrw f en h ha
  unfold srg scl
  rw [h1]
  simp only [h2, cond_false, and_self]
theorem tkone : ∀ f, f ∈ [27, 29, 37, 40, 41, 42, 50, 104] → ∀ en, tf[f]? = some en → en.2.2.1 = 1 := by
  intro f hf en h
  simp only [List.mem_cons, List.not_mem_nil, or_false] at hf
  rcases hf with rfl | rfl | rfl | rfl | rfl | rfl | rfl | rfl <;> (cases h; rfl)
theorem tST : sST tf tg := ⟨tInj, tfmok, rfl, fun _ => rfl, rfl, fun _ _ _ h ha x => trow h ha x, tkone, fun _ _ _ h ha hz x => by rw [tvar h ha hz]; rfl, fun _ => rfl⟩
theorem tDP : sDP tg := by
  intro k ps q hq i h1 h2
  unfold sfdv at hq
  split at hq
  all_goals (first | (simp only [List.mem_cons, List.not_mem_nil, or_false] at hq) | (exact absurd hq List.not_mem_nil))
  · rcases hq with rfl | rfl <;> rfl
  · rcases hq with rfl | rfl | rfl <;> rfl
  · rcases hq with rfl | rfl | rfl | rfl <;> rfl
  · rcases hq with rfl | rfl <;> rfl
  · rcases hq with rfl | rfl | rfl | rfl <;> rfl
  · rcases hq with rfl | rfl <;> rfl
  · rcases hq with rfl | rfl | rfl
    · simp only at h1 h2
      have : i = 0 := by omega
      subst this
      rfl
    · rfl
    · rfl
  · rcases hq with rfl
    rfl
theorem tcl2 : ∀ i, scl tg 2 i = 0 := fun _ => rfl
