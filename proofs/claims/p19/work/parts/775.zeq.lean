/-! states of the machine of known values are alike -/
def zenc (e : ZE) : Nat × (Nat × Nat × ZL) × List Value := match e with
  | .inl x => (0, (x.1, x.2.1, x.2.2), [])
  | .inr x => (1, (x.1, 0, []), x.2)
theorem zenc_inj {a b : ZE} (h : zenc a = zenc b) : a = b := by
  cases a with
  | inl x =>
    cases b with
    | inl y =>
      obtain ⟨x1, x2, x3⟩ := x
      obtain ⟨y1, y2, y3⟩ := y
      simp only [zenc, Prod.mk.injEq] at h
      obtain ⟨-, ⟨rfl, rfl, rfl⟩, -⟩ := h
      rfl
    | inr y => simp [zenc] at h
  | inr x =>
    cases b with
    | inl y => simp [zenc] at h
    | inr y =>
      obtain ⟨x1, x2⟩ := x
      obtain ⟨y1, y2⟩ := y
      simp only [zenc, Prod.mk.injEq] at h
      obtain ⟨-, ⟨rfl, -⟩, rfl⟩ := h
      rfl
def zeh : List ZE → List ZE → Bool
  | [], [] => true
  | a :: r, b :: t => decide ((zenc a).1 = (zenc b).1) && (decide ((zenc a).2.1.1 = (zenc b).2.1.1) && (decide ((zenc a).2.1.2.1 = (zenc b).2.1.2.1) && (decide ((zenc a).2.1.2.2 = (zenc b).2.1.2.2) && (decide ((zenc a).2.2 = (zenc b).2.2) && zeh r t))))
  | _, _ => false
theorem zeh_ok : ∀ {a b : List ZE}, zeh a b = true → a = b := by
  intro a
  induction a with
  | nil =>
    intro b h
    cases b with
    | nil => rfl
    | cons y b => cases h
  | cons x a ih =>
    intro b h
    cases b with
    | nil => cases h
    | cons y b =>
      simp only [zeh, Bool.and_eq_true, decide_eq_true_eq] at h
      obtain ⟨h1, h2, h3, h4, h5, h6⟩ := h
      rw [zenc_inj (a := x) (b := y) (Prod.ext h1 (Prod.ext (Prod.ext h2 (Prod.ext h3 h4)) h5)), ih h6]
def zeq (x : ZX) (r : ZS) : Bool := match x with
  | .ok q => decide (q.1 = r.1) && (decide (q.2.1 = r.2.1) && (decide (q.2.2.1 = r.2.2.1) && (zeh q.2.2.2.1 r.2.2.2.1 && (decide (q.2.2.2.2.1 = r.2.2.2.2.1) && decide (q.2.2.2.2.2 = r.2.2.2.2.2)))))
  | .error _ => false
theorem zeq_ok {x : ZX} {r : ZS} (h : zeq x r = true) : x = .ok r := by
  cases x with
  | ok q =>
    obtain ⟨q1, q2, q3, q4, q5, q6⟩ := q
    obtain ⟨r1, r2, r3, r4, r5, r6⟩ := r
    simp only [zeq, Bool.and_eq_true, decide_eq_true_eq] at h
    obtain ⟨rfl, rfl, rfl, h4, rfl, rfl⟩ := h
    rw [zeh_ok h4]
  | error q => cases h
