/-! the law, from its entry to its loop's head -/
/-- what a throw of the class needs of a state: two statics of Throwable, the text, the class's own cast -/
def zYd (U : State) : Prop := va_Nw (.declares (Bundle.initS "java/lang/RuntimeException")) U ∧ va_Nw (.declares (Bundle.initS "java/lang/Exception")) U ∧ va_Nw (.declares (Bundle.initS "java/lang/Throwable")) U
def zY (A : Nat → Prop) (sa : Nat) (U : State) : Prop := vx_Zq Bundle.tN "UNASSIGNED_STACK" Bundle.steD A U U.heap ∧ vx_Zq Bundle.tN "SUPPRESSED_SENTINEL" Bundle.listD A U U.heap ∧ vk_R RX9 147 "no such cut" sa U ∧ va_Nw (.castable "java/util/NoSuchElementException" "java/util/NoSuchElementException") U ∧ zYd U
def zL8 (l : Launch) (s : State) (A : Nat → Prop) : Prop := l.stackTraces = false ∧ ∃ sa : Nat, zY A sa s
theorem zY_call {A B : Nat → Prop} {sa : Nat} {s U : State} {H : Heap} {locs : List Loc} (h : zY A sa s) (hS : va_S A s.heap H locs) (hAB : ∀ q, B q → A q) (hU : U.heap = H) (hW : s.WarmedH U.vm) : zY B sa U := by
  obtain ⟨h1, h2, h3, h4, h5, h6, h7⟩ := h
  refine ⟨?_, ?_, vk_R.warm hW h3, va_Nw.warmC hW h4, va_Nw.warmD hW h5, va_Nw.warmD hW h6, va_Nw.warmD hW h7⟩
  · rw [hU]
    exact ((h1.kept (fun a q1 q2 => hS.2.1 a q1 q2)).narrow hAB).moved hW.alike
  · rw [hU]
    exact ((h2.kept (fun a q1 q2 => hS.2.1 a q1 q2)).narrow hAB).moved hW.alike
theorem zY_same {A : Nat → Prop} {sa : Nat} {u U : State} (hv : u.vm = U.vm) (hh : U.heap = u.heap) (h : zY A sa u) : zY A sa U := by
  obtain ⟨h1, h2, h3, h4, h5, h6, h7⟩ := h
  have ha : u.vm.Alike U.vm := by rw [hv]; exact Vm.Alike.refl _
  refine ⟨?_, ?_, vk_R.same hv.symm h3, va_Nw.same rfl hv h4, va_Nw.same rfl hv h5, va_Nw.same rfl hv h6, va_Nw.same rfl hv h7⟩
  · rw [hh]
    exact h1.moved ha
  · rw [hh]
    exact h2.moved ha
def zenc (e : ZE) : Nat × (Nat × Nat × ZL) × List Value := match e with
  | .inl x => (0, (x.1, x.2.1, x.2.2), [])
  | .inr x => (1, (x.1, 0, []), x.2)
theorem zenc_inj {a b : ZE} (h : zenc a = zenc b) : a = b := by
  cases a with
  | inl x =>
    cases b with
    | inl y =>
      obtain ⟨x1, x2, x3⟩ := x
      obtain ⟨y1, y2, y3⟩ := y
      simp only [zenc, Prod.mk.injEq] at h
      obtain ⟨-, ⟨rfl, rfl, rfl⟩, -⟩ := h
      rfl
    | inr y => simp [zenc] at h
  | inr x =>
    cases b with
    | inl y => simp [zenc] at h
    | inr y =>
      obtain ⟨x1, x2⟩ := x
      obtain ⟨y1, y2⟩ := y
      simp only [zenc, Prod.mk.injEq] at h
      obtain ⟨-, ⟨rfl, -⟩, rfl⟩ := h
      rfl
def zeh : List ZE → List ZE → Bool
  | [], [] => true
  | a :: r, b :: t => decide ((zenc a).1 = (zenc b).1) && (decide ((zenc a).2.1.1 = (zenc b).2.1.1) && (decide ((zenc a).2.1.2.1 = (zenc b).2.1.2.1) && (decide ((zenc a).2.1.2.2 = (zenc b).2.1.2.2) && (decide ((zenc a).2.2 = (zenc b).2.2) && zeh r t))))
  | _, _ => false
theorem zeh_ok : ∀ {a b : List ZE}, zeh a b = true → a = b := by
  intro a
  induction a with
  | nil =>
    intro b h
    cases b with
    | nil => rfl
    | cons y b => cases h
  | cons x a ih =>
    intro b h
    cases b with
    | nil => cases h
    | cons y b =>
      simp only [zeh, Bool.and_eq_true, decide_eq_true_eq] at h
      obtain ⟨h1, h2, h3, h4, h5, h6⟩ := h
      rw [zenc_inj (a := x) (b := y) (Prod.ext h1 (Prod.ext (Prod.ext h2 (Prod.ext h3 h4)) h5)), ih h6]
def zeq (x : ZX) (r : ZS) : Bool := match x with
  | .ok q => decide (q.1 = r.1) && (decide (q.2.1 = r.2.1) && (decide (q.2.2.1 = r.2.2.1) && (zeh q.2.2.2.1 r.2.2.2.1 && (decide (q.2.2.2.2.1 = r.2.2.2.2.1) && decide (q.2.2.2.2.2 = r.2.2.2.2.2)))))
  | .error _ => false
theorem zeq_ok {x : ZX} {r : ZS} (h : zeq x r = true) : x = .ok r := by
  cases x with
  | ok q =>
    obtain ⟨q1, q2, q3, q4, q5, q6⟩ := q
    obtain ⟨r1, r2, r3, r4, r5, r6⟩ := r
    simp only [zeq, Bool.and_eq_true, decide_eq_true_eq] at h
    obtain ⟨rfl, rfl, rfl, h4, rfl, rfl⟩ := h
    rw [zeh_ok h4]
  | error q => cases h
/-- as zOK, with no addresses given ahead, on a launch without stack traces -/
def zOK0 (box : ZN) : Prop := ∀ (p : Program) (l : Launch) (e : Env) (s : State) (m : MethodId) (args : Array Value) (below : List Frame) (meth : Method) (c : Code) (Q : State → Prop) (dC : Nat → ClassId) (dI : Nat → Nat → Nat) (cA : Nat → ClassId) (g : ZG) (A : Nat → Prop), g.2.2 = [] → zL8 l s A → zen box g → (∀ E, zen E g → zF E 7 0 20 zme0 p room_1 s m args meth c dC dI cA g A) → (∀ (lv : ZL) (hp : List ZE) (nc ns : Nat), nc ≤ 600002 → ns ≤ 7302232 → zW p l e room_1 s m args below meth c Q dC dI cA g A 7 1506 lv [.int 1] hp nc ns) → zW p l e room_1 s m args below meth c Q dC dI cA g A 7 23 zzl [] zzh zzn zzs
