/-! stories: those that the walls let are those of the rules -/
/-- a story, by what the walls ask -/
def stV (Z : STZ) (dt : Nat → Int) (r : Nat → Int) : Prop := (∀ h, h < 6 → sBz Z h → (0 ≤ r h ∧ r h ≤ 5) ∧ (dt h = -1 ∨ dt h = r h)) ∧ sAll Z r
/-- by the rules of the hands that have cuts -/
def stW (bz : Nat → Bool) (fl ce st : Nat → Int) (r : Nat → Int) : Prop := (∀ h, h < 6 → bz h = true → fl h ≤ r h ∧ r h ≤ ce h) ∧ ∀ a b, a < 6 → b < 6 → bz a = true → bz b = true → 0 ≤ st (6 * a + b) → r a + st (6 * a + b) ≤ r b
noncomputable def sBb (Z : STZ) : Nat → Bool := wDc (sBz Z)
theorem sBb_y {Z : STZ} {h : Nat} : sBb Z h = true ↔ sBz Z h := wDc_iff
theorem sBb_n {Z : STZ} {h : Nat} : sBb Z h = false ↔ ¬ sBz Z h := by
  rw [← Bool.not_eq_true, sBb_y]
/-- all stories, in their order -/
noncomputable def stS (Z : STZ) (dt : Nat → Int) : List (Nat → Int) := stL (sBb Z) (stV Z dt) 6 (fun _ => 0)
theorem sAll_cg {Z : STZ} {r r' : Nat → Int} (h : ∀ h, sBz Z h → r' h = r h) (hA : sAll Z r) : sAll Z r' := by
  intro p hp l hl
  have e1 : ∀ k, k < Z.1 p → r' (Z.2.1 p k) = r (Z.2.1 p k) := fun k hk => h _ ⟨p, k, hp, hk, rfl⟩
  have q := hA p hp l hl
  unfold sLet at q ⊢
  rw [e1 l hl, e1 (l - 1) (by omega)]
  rcases q with q | ⟨q1, q2⟩
  · exact Or.inl q
  · exact Or.inr ⟨fun k hk => by rw [e1 k (by omega)]; exact q1 k hk, q2⟩
theorem sBz_6 {Z : STZ} (hZ : sWf Z) {h : Nat} (hb : sBz Z h) : h < 6 := by
  obtain ⟨p, l, -, -, e⟩ := hb
  rw [← e]
  exact hZ.1 p l
theorem stV_cg {Z : STZ} {dt : Nat → Int} (hZ : sWf Z) {r s : Nat → Int} (h : ∀ i, i < 6 → sBb Z i = true → r i = s i) (hv : stV Z dt r) : stV Z dt s :=
  ⟨fun i h6 hb => by rw [← h i h6 (sBb_y.mpr hb)]; exact hv.1 i h6 hb, sAll_cg (fun i hb => (h i (sBz_6 hZ hb) (sBb_y.mpr hb)).symm) hv.2⟩
/-- filled up where no cut is -/
def stF (bz : Nat → Bool) (dt r : Nat → Int) (h : Nat) : Int := cond (bz h) (r h) (if dt h = -1 then 0 else dt h)
theorem stF_y {bz : Nat → Bool} {dt r : Nat → Int} {h : Nat} (hb : bz h = true) : stF bz dt r h = r h := by
  unfold stF
  rw [hb, cond_true]
theorem stF_n {bz : Nat → Bool} {dt r : Nat → Int} {h : Nat} (hb : bz h = false) : stF bz dt r h = (if dt h = -1 then 0 else dt h) := by
  unfold stF
  rw [hb, cond_false]
section SWV
variable {Z : STZ} {dt lst fl ce st : Nat → Int} {barred : Prop} {bu : Nat → Prop}
theorem sGt_nb (hG : sGt Z (fun p l => p < 12 ∧ l < Z.1 p) dt lst fl ce st barred bu) : (∀ h, h < 6 → ¬ sBz Z h → fl h = sBase dt h) ∧ ∀ a b, a < 6 → b < 6 → (¬ sBz Z a ∨ ¬ sBz Z b) → st (6 * a + b) = -1 := by
  obtain ⟨g1, g2, g3, g4, g5⟩ := hG
  refine ⟨fun h h6 hn => ?_, fun a b ha hb hn => ?_⟩
  · rcases (g2 h h6).2.2 with e | ⟨p, l, ⟨q1, q2⟩, q3, -⟩
    · exact e
    · exact absurd ⟨p, l, q1, q2, q3⟩ hn
  · rcases (g3 a b ha hb).2 with e | ⟨p, l, ⟨q1, q2⟩, q3, q4, q5, -⟩
    · exact e
    · rcases hn with hn | hn
      · exact absurd ⟨p, l - 1, q1, by omega, q4⟩ hn
      · exact absurd ⟨p, l, q1, q2, q5⟩ hn
theorem stW_rul (hdt : ∀ h, -1 ≤ dt h ∧ dt h ≤ 5) (hG : sGt Z (fun p l => p < 12 ∧ l < Z.1 p) dt lst fl ce st barred bu) {r : Nat → Int} : stW (sBb Z) fl ce st r ↔ sRul fl ce st (stF (sBb Z) dt r) := by
  obtain ⟨n1, n2⟩ := sGt_nb hG
  constructor
  · rintro ⟨w1, w2⟩
    refine ⟨fun h h6 => ?_, fun a b ha hb hs => ?_⟩
    · cases e : sBb Z h with
      | true => rw [stF_y e]; exact w1 h h6 e
      | false =>
        rw [stF_n e, n1 h h6 (sBb_n.mp e), hG.1 h h6]
        unfold sBase
        have := hdt h
        by_cases z : dt h = -1
        · rw [if_pos z, if_pos z]; omega
        · rw [if_neg z, if_neg z]; omega
    · have ba : sBz Z a := Classical.byContradiction (fun z => by have := n2 a b ha hb (Or.inl z); omega)
      have bb : sBz Z b := Classical.byContradiction (fun z => by have := n2 a b ha hb (Or.inr z); omega)
      rw [stF_y (sBb_y.mpr ba), stF_y (sBb_y.mpr bb)]
      exact w2 a b ha hb (sBb_y.mpr ba) (sBb_y.mpr bb) hs
  · rintro ⟨w1, w2⟩
    refine ⟨fun h h6 e => ?_, fun a b ha hb ea eb hs => ?_⟩
    · have := w1 h h6
      rw [stF_y e] at this
      exact this
    · have := w2 a b ha hb hs
      rw [stF_y ea, stF_y eb] at this
      exact this
theorem stV_iff (hZ : sWf Z) (hdt : ∀ h, -1 ≤ dt h ∧ dt h ≤ 5) (hl : ∀ p l, p < 12 → l < Z.1 p → l % 2 = 0 → sLs Z p l (lst (6 * p + l))) (hls : ∀ k, 0 ≤ lst k) (hG : sGt Z (fun p l => p < 12 ∧ l < Z.1 p) dt lst fl ce st barred bu) {r : Nat → Int} : stV Z dt r ↔ (¬ barred ∧ stW (sBb Z) fl ce st r) := by
  have hA := sGt_all hl hls (fun h => (hdt h).1) hG
  rw [stW_rul hdt hG]
  have key : (∀ h, h < 6 → 0 ≤ stF (sBb Z) dt r h ∧ stF (sBb Z) dt r h ≤ 5) → (stV Z dt r ↔ (¬ barred ∧ sRul fl ce st (stF (sBb Z) dt r))) := by
    intro hr
    rw [← sAll_iff hZ hA hr]
    constructor
    · rintro ⟨v1, v2⟩
      refine ⟨sAll_cg (fun h hz => stF_y (sBb_y.mpr hz)) v2, fun h h6 => ?_⟩
      cases e : sBb Z h with
      | true => rw [stF_y e]; exact (v1 h h6 (sBb_y.mp e)).2
      | false =>
        rw [stF_n e]
        by_cases z : dt h = -1
        · exact Or.inl z
        · exact Or.inr (if_neg z).symm
    · rintro ⟨v1, v2⟩
      refine ⟨fun h h6 hz => ?_, sAll_cg (fun h hz => (stF_y (sBb_y.mpr hz)).symm) v1⟩
      have e := stF_y (dt := dt) (r := r) (sBb_y.mpr hz)
      have q1 := hr h h6
      have q2 := v2 h h6
      rw [e] at q1 q2
      exact ⟨q1, q2⟩
  constructor
  · intro v
    refine (key (fun h h6 => ?_)).mp v
    cases e : sBb Z h with
    | true => rw [stF_y e]; exact (v.1 h h6 (sBb_y.mp e)).1
    | false =>
      rw [stF_n e]
      have := hdt h
      by_cases z : dt h = -1
      · rw [if_pos z]; omega
      · rw [if_neg z]; omega
  · intro v
    refine (key (fun h h6 => ?_)).mpr v
    have q := v.2.1 h h6
    have f := (hG.2.1 h h6).1
    have c := hG.1 h h6
    have := hdt h
    unfold sBase at f
    by_cases z : dt h = -1
    · rw [if_pos z] at f c; omega
    · rw [if_neg z] at f c; omega
theorem stV_eq (hZ : sWf Z) (hdt : ∀ h, -1 ≤ dt h ∧ dt h ≤ 5) (hl : ∀ p l, p < 12 → l < Z.1 p → l % 2 = 0 → sLs Z p l (lst (6 * p + l))) (hls : ∀ k, 0 ≤ lst k) (hG : sGt Z (fun p l => p < 12 ∧ l < Z.1 p) dt lst fl ce st barred bu) (hb : ¬ barred) : stV Z dt = stW (sBb Z) fl ce st := by
  funext r
  exact propext ((stV_iff hZ hdt hl hls hG).trans ⟨fun q => q.2, fun q => ⟨hb, q⟩⟩)
/-- the earliest reigns bound all -/
theorem stW_low (hdt : ∀ h, -1 ≤ dt h ∧ dt h ≤ 5) (hG : sGt Z (fun p l => p < 12 ∧ l < Z.1 p) dt lst fl ce st barred bu) {E : Nat → Int} (hE : ∀ r, sRul fl ce st r → ∀ h, h < 6 → E h ≤ r h) {r : Nat → Int} (hr : stW (sBb Z) fl ce st r) : ∀ h, h < 6 → sBb Z h = true → E h ≤ r h := by
  intro h h6 hb
  have := hE _ ((stW_rul hdt hG).mp hr) h h6
  rw [stF_y hb] at this
  exact this
/-- where no reigns keep the rules there is no story, and where some do there is one -/
theorem stS_nil_iff (hZ : sWf Z) (hdt : ∀ h, -1 ≤ dt h ∧ dt h ≤ 5) (hl : ∀ p l, p < 12 → l < Z.1 p → l % 2 = 0 → sLs Z p l (lst (6 * p + l))) (hls : ∀ k, 0 ≤ lst k) (hG : sGt Z (fun p l => p < 12 ∧ l < Z.1 p) dt lst fl ce st barred bu) : stS Z dt = [] ↔ (barred ∨ ∀ r, ¬ sRul fl ce st r) := by
  constructor
  · intro h
    by_cases hb : barred
    · exact Or.inl hb
    · refine Or.inr (fun r hr => ?_)
      have hw : stW (sBb Z) fl ce st r := ⟨fun h h6 _ => hr.1 h h6, fun a b ha hb _ _ hs => hr.2 a b ha hb hs⟩
      have hv : stV Z dt r := by rw [stV_eq hZ hdt hl hls hG hb]; exact hw
      obtain ⟨s, hs, -⟩ := stL_all (bz := sBb Z) (V := stV Z dt) (fun r s => stV_cg hZ) 6 (Nat.le_refl _) (fun _ => 0) r hv (fun i hi => absurd hi (by omega)) (fun i _ h6 hbz => (hv.1 i h6 (sBb_y.mp hbz)).1)
      have h : stL (sBb Z) (stV Z dt) 6 (fun _ => 0) = [] := h
      rw [h] at hs
      cases hs
  · intro h
    refine stL_nil (Nat.le_refl _) (fun s hs _ => ?_)
    obtain ⟨h1, h2⟩ := (stV_iff hZ hdt hl hls hG).mp hs
    rcases h with h | h
    · exact h1 h
    · exact h _ ((stW_rul hdt hG).mp h2)
end SWV
/-- in how many a hand is of a reign -/
def stC (L : List (Nat → Int)) (a : Nat) (x : Int) : Nat := L.countP (fun s => decide (s a = x))
theorem stC_nil {a : Nat} {x : Int} : stC [] a x = 0 := rfl
theorem stC_app {L K : List (Nat → Int)} {a : Nat} {x : Int} : stC (L ++ K) a x = stC L a x + stC K a x := List.countP_append ..
theorem stC_le {L : List (Nat → Int)} {a : Nat} {x : Int} : stC L a x ≤ L.length := List.countP_le_length ..
theorem stC_all {L : List (Nat → Int)} {a : Nat} {x : Int} (h : ∀ s, s ∈ L → s a = x) : stC L a x = L.length := List.countP_eq_length.mpr (fun s hs => decide_eq_true (h s hs))
theorem stC_none {L : List (Nat → Int)} {a : Nat} {x : Int} (h : ∀ s, s ∈ L → s a ≠ x) : stC L a x = 0 := List.countP_eq_zero.mpr (fun s hs => by rw [decide_eq_false (h s hs)]; exact Bool.false_ne_true)
/-- those of the first reigns of a hand -/
noncomputable def stP (bz : Nat → Bool) (V : (Nat → Int) → Prop) (k h : Nat) (r : Nat → Int) (y : Nat) : List (Nat → Int) := (List.range y).flatMap (fun x : Nat => stL bz V k (wSt r h (x : Int)))
section STP
variable {bz : Nat → Bool} {V : (Nat → Int) → Prop} {k h : Nat} {r : Nat → Int}
theorem stP_0 : stP bz V k h r 0 = [] := rfl
theorem stP_s {y : Nat} : stP bz V k h r (y + 1) = stP bz V k h r y ++ stL bz V k (wSt r h (y : Int)) := by
  unfold stP
  rw [List.range_succ, List.flatMap_append, List.flatMap_cons, List.flatMap_nil, List.append_nil]
theorem stP_6 (hb : bz (5 - k) = true) : stL bz V (k + 1) r = stP bz V k (5 - k) r 6 := stL_b hb
theorem stP_len {m : Nat} (hm : ∀ r, (stL bz V k r).length ≤ m) : ∀ y, (stP bz V k h r y).length ≤ y * m := by
  intro y
  induction y with
  | zero => rw [stP_0]; exact Nat.zero_le _
  | succ y ih =>
    have := hm (wSt r h (y : Int))
    rw [stP_s, List.length_append, Nat.succ_mul]
    omega
theorem stP_stay {y : Nat} : ∀ m, (∀ x, y ≤ x → x < y + m → stL bz V k (wSt r h (x : Int)) = []) → stP bz V k h r (y + m) = stP bz V k h r y := by
  intro m
  induction m with
  | zero => intro _; rfl
  | succ m ih =>
    intro hx
    rw [show y + (m + 1) = (y + m) + 1 by omega, stP_s, hx (y + m) (by omega) (by omega), List.append_nil]
    exact ih (fun x h1 h2 => hx x h1 (by omega))
end STP
theorem stL_len {bz : Nat → Bool} {V : (Nat → Int) → Prop} : ∀ k r, (stL bz V k r).length ≤ 6 ^ k := by
  intro k
  induction k with
  | zero =>
    intro r
    by_cases hV : V r
    · rw [stL_0y hV]; exact Nat.le_refl _
    · rw [stL_0n hV]; exact Nat.zero_le _
  | succ k ih =>
    intro r
    cases hb : bz (5 - k) with
    | true =>
      have := stP_len (bz := bz) (V := V) (k := k) (h := 5 - k) (r := r) ih 6
      rw [stP_6 hb, Nat.pow_succ, Nat.mul_comm]
      exact this
    | false =>
      have := ih r
      rw [stL_n hb, Nat.pow_succ]
      omega
/-- behind the last hand -/
theorem stL_last {bz : Nat → Bool} {V : (Nat → Int) → Prop} {r : Nat → Int} (hV : V r) : ∀ k, k ≤ 6 → (∀ i, 6 - k ≤ i → i < 6 → bz i = false) → stL bz V k r = [r] := by
  intro k
  induction k with
  | zero => intro _ _; exact stL_0y hV
  | succ k ih =>
    intro hk hb
    rw [stL_n (hb (5 - k) (by omega) (by omega))]
    exact ih (by omega) (fun i h1 h2 => hb i (by omega) h2)
/-! what the hands set so far keep -/
def stR (bz : Nat → Bool) (E ce st : Nat → Int) (n : Nat) (r : Nat → Int) : Prop := (∀ a, a < n → bz a = true → E a ≤ r a ∧ r a ≤ ce a) ∧ ∀ a b, a < n → b < n → bz a = true → bz b = true → 0 ≤ st (6 * a + b) → r a + st (6 * a + b) ≤ r b
/-- what they let the next have -/
def stQ (E ce st q : Nat → Int) (h : Nat) (x : Int) : Prop := E h ≤ x ∧ x ≤ ce h ∧ ∀ i, i < h → (0 ≤ st (h + 6 * i) → q i + st (h + 6 * i) ≤ x) ∧ (0 ≤ st (6 * h + i) → x + st (6 * h + i) ≤ q i)
theorem stR_0 {bz : Nat → Bool} {E ce st r : Nat → Int} : stR bz E ce st 0 r := ⟨fun a h => absurd h (Nat.not_lt_zero _), fun a b h => absurd h (Nat.not_lt_zero _)⟩
theorem stR_6 {bz : Nat → Bool} {fl E ce st r : Nat → Int} (h1 : ∀ h, h < 6 → fl h ≤ E h) (hR : stR bz E ce st 6 r) : stW bz fl ce st r :=
  ⟨fun h h6 hb => ⟨Int.le_trans (h1 h h6) (hR.1 h h6 hb).1, (hR.1 h h6 hb).2⟩, hR.2⟩
theorem stR_skip {bz : Nat → Bool} {E ce st r : Nat → Int} {n : Nat} (hb : bz n = false) (hR : stR bz E ce st n r) : stR bz E ce st (n + 1) r := by
  have ne : ∀ a, bz a = true → a ≠ n := fun a ha z => by
    rw [z, hb] at ha
    cases ha
  refine ⟨fun a ha hba => hR.1 a (by have := ne a hba; omega) hba, fun a b ha hb' hba hbb => hR.2 a b (by have := ne a hba; omega) (by have := ne b hbb; omega) hba hbb⟩
theorem stR_up {bz : Nat → Bool} {E ce st r : Nat → Int} : ∀ (m n : Nat), (∀ i, n ≤ i → i < n + m → bz i = false) → stR bz E ce st n r → stR bz E ce st (n + m) r := by
  intro m
  induction m with
  | zero => intro n _ h; exact h
  | succ m ih =>
    intro n hb h
    have := stR_skip (hb (n + m) (by omega) (by omega)) (ih n (fun i h1 h2 => hb i h1 (by omega)) h)
    exact this
theorem stR_step {bz : Nat → Bool} {E ce st q r : Nat → Int} {n : Nat} {y : Int} (hself : st (6 * n + n) ≤ 0) (hq : ∀ i, i < n → bz i = true → q i = r i) (hQ : stQ E ce st q n y) (hR : stR bz E ce st n r) : stR bz E ce st (n + 1) (wSt r n y) := by
  obtain ⟨q1, q2, q3⟩ := hQ
  refine ⟨fun a ha hba => ?_, fun a b ha hb hba hbb hs => ?_⟩
  · by_cases e : a = n
    · rw [e, wSt_at]
      exact ⟨q1, q2⟩
    · rw [wSt_ne e]
      exact hR.1 a (by omega) hba
  · by_cases ea : a = n
    · by_cases eb : b = n
      · rw [ea, eb, wSt_at]
        omega
      · subst ea
        rw [wSt_at, wSt_ne eb, ← hq b (by omega) hbb]
        exact (q3 b (by omega)).2 hs
    · by_cases eb : b = n
      · subst eb
        rw [wSt_at, wSt_ne ea, ← hq a (by omega) hba]
        have w := (q3 a (by omega)).1
        rw [show b + 6 * a = 6 * a + b by omega] at w
        exact w hs
      · rw [wSt_ne ea, wSt_ne eb]
        exact hR.2 a b (by omega) (by omega) hba hbb hs
theorem stQ_V {bz : Nat → Bool} {fl E ce st : Nat → Int} (hst : ∀ a b, a < 6 → b < 6 → (bz a = false ∨ bz b = false) → st (6 * a + b) = -1) (hE : ∀ s, stW bz fl ce st s → ∀ h, h < 6 → bz h = true → E h ≤ s h) (h : Nat) (q s : Nat → Int) (h6 : h < 6) (hb : bz h = true) (hq : ∀ i, i < h → bz i = true → q i = s i) (hs : stW bz fl ce st s) : stQ E ce st q h (s h) := by
  refine ⟨hE s hs h h6 hb, (hs.1 h h6 hb).2, fun i hi => ⟨fun z => ?_, fun z => ?_⟩⟩
  · rw [show h + 6 * i = 6 * i + h by omega] at z ⊢
    have hbi : bz i = true := by
      cases e : bz i with
      | true => rfl
      | false =>
        have := hst i h (by omega) h6 (Or.inl e)
        omega
    rw [hq i hi hbi]
    exact hs.2 i h (by omega) h6 hbi hb z
  · have hbi : bz i = true := by
      cases e : bz i with
      | true => rfl
      | false =>
        have := hst h i h6 (by omega) (Or.inr e)
        omega
    rw [hq i hi hbi]
    exact hs.2 h i h6 (by omega) hb hbi z
/-- what is asked of them together -/
def stU (bz : Nat → Bool) (V : (Nat → Int) → Prop) (E ce st : Nat → Int) : Prop := (∀ r, stR bz E ce st 6 r → V r) ∧ (∀ (h : Nat) (q s : Nat → Int), h < 6 → bz h = true → (∀ i, i < h → bz i = true → q i = s i) → V s → stQ E ce st q h (s h)) ∧ ∀ a, a < 6 → st (6 * a + a) ≤ 0
theorem stL_out {bz : Nat → Bool} {V : (Nat → Int) → Prop} {E ce st : Nat → Int} (hU : stU bz V E ce st) {k h : Nat} (hk : k ≤ 5) (eh : h = 5 - k) (hb : bz h = true) {q r : Nat → Int} {x : Int} (hq : ∀ i, i < h → bz i = true → q i = r i) (hno : ¬ stQ E ce st q h x) : stL bz V k (wSt r h x) = [] := by
  refine stL_nil (by omega) (fun s hs ha => hno ?_)
  have e : s h = x := by rw [ha h (Or.inl (by omega)), wSt_at]
  rw [← e]
  exact hU.2.1 h q s (by omega) hb (fun i hi hbi => by rw [ha i (Or.inl (by omega)), wSt_ne (by omega)]; exact hq i hi hbi) hs
/-- of the hands from n on -/
def stA (bz : Nat → Bool) (n : Nat) (L : List (Nat → Int)) (a x : Nat) : Nat := if n ≤ a ∧ bz a = true then stC L a (x : Int) else 0
theorem stA_le {bz : Nat → Bool} {n : Nat} {L : List (Nat → Int)} {a x : Nat} : stA bz n L a x ≤ L.length := by
  unfold stA
  split
  · exact stC_le
  · exact Nat.zero_le _
theorem stA_n {bz : Nat → Bool} {n : Nat} {L : List (Nat → Int)} {a x : Nat} (h : ¬ (n ≤ a ∧ bz a = true)) : stA bz n L a x = 0 := if_neg h
theorem stA_y {bz : Nat → Bool} {n : Nat} {L : List (Nat → Int)} {a x : Nat} (h : n ≤ a ∧ bz a = true) : stA bz n L a x = stC L a (x : Int) := if_pos h
theorem stA_nil {bz : Nat → Bool} {n : Nat} {a x : Nat} : stA bz n [] a x = 0 := by
  unfold stA
  split <;> rfl
theorem stA_skip {bz : Nat → Bool} {n : Nat} {L : List (Nat → Int)} {a x : Nat} (hb : bz n = false) : stA bz n L a x = stA bz (n + 1) L a x := by
  by_cases h : n ≤ a ∧ bz a = true
  · have ne : a ≠ n := fun z => by
      rw [z, hb] at h
      cases h.2
    rw [stA_y h, stA_y ⟨by omega, h.2⟩]
  · rw [stA_n h, stA_n (fun q => h ⟨by omega, q.2⟩)]
theorem stA_step {bz : Nat → Bool} {V : (Nat → Int) → Prop} {k h a x y : Nat} {r : Nat → Int} (hb : bz h = true) (hs : ∀ s, s ∈ stL bz V k (wSt r h (y : Int)) → s h = (y : Int)) : stA bz h (stP bz V k h r (y + 1)) a x = stA bz h (stP bz V k h r y) a x + stA bz (h + 1) (stL bz V k (wSt r h (y : Int))) a x + (if a = h ∧ x = y then (stL bz V k (wSt r h (y : Int))).length else 0) := by
  by_cases ea : a = h
  · subst ea
    rw [stA_y ⟨Nat.le_refl _, hb⟩, stA_y ⟨Nat.le_refl _, hb⟩, stA_n (fun q => absurd q.1 (by omega)), stP_s, stC_app]
    by_cases ex : x = y
    · subst ex
      rw [stC_all hs, if_pos ⟨rfl, rfl⟩]
      omega
    · rw [stC_none (L := stL bz V k (wSt r a (y : Int))) (fun s hm => by rw [hs s hm]; omega), if_neg (fun q => ex q.2)]
  · rw [if_neg (fun q => ea q.1)]
    by_cases h1 : h ≤ a ∧ bz a = true
    · rw [stA_y h1, stA_y h1, stA_y ⟨by omega, h1.2⟩, stP_s, stC_app]
      omega
    · rw [stA_n h1, stA_n h1, stA_n (fun q => h1 ⟨by omega, q.2⟩)]
