/-! numbers that are not known: linear expressions over them, bounds, and what follows -/
abbrev SE : Type := Int × List (Nat × Int)
def svl (ρ : Nat → Int) : List (Nat × Int) → Int
  | [] => 0
  | q :: r => q.2 * ρ q.1 + svl ρ r
def sev (ρ : Nat → Int) (e : SE) : Int := e.1 + svl ρ e.2
def sc (x : Int) : SE := (x, [])
def sy (t : Nat) : SE := (0, [(t, 1)])
theorem sev_c (ρ : Nat → Int) (x : Int) : sev ρ (sc x) = x := by simp [sev, sc, svl]
theorem sev_y (ρ : Nat → Int) (t : Nat) : sev ρ (sy t) = ρ t := by simp [sev, sy, svl]
def sins (q : Nat × Int) : List (Nat × Int) → List (Nat × Int)
  | [] => [q]
  | r :: t => cond (Nat.beq q.1 r.1) (cond (decide (q.2 + r.2 = 0)) t ((q.1, q.2 + r.2) :: t)) (cond (Nat.blt q.1 r.1) (q :: r :: t) (r :: sins q t))
theorem sins_ev (ρ : Nat → Int) (q : Nat × Int) (l : List (Nat × Int)) : svl ρ (sins q l) = q.2 * ρ q.1 + svl ρ l := by
  induction l with
  | nil => rfl
  | cons r t ih =>
    unfold sins
    cases h1 : Nat.beq q.1 r.1 with
    | true =>
      have e1 : q.1 = r.1 := Nat.beq_eq.mp h1
      rw [cond_true]
      by_cases h2 : q.2 + r.2 = 0
      · rw [decide_eq_true h2, cond_true]
        have h3 : q.2 = -r.2 := by omega
        simp only [svl, e1, h3]
        rw [Int.neg_mul]
        omega
      · rw [decide_eq_false h2, cond_false]
        simp only [svl, e1]
        rw [Int.add_mul]
        omega
    | false =>
      rw [cond_false]
      cases h2 : Nat.blt q.1 r.1 with
      | true => rfl
      | false =>
        simp only [cond_false, svl, ih]
        omega
def smrg : List (Nat × Int) → List (Nat × Int) → List (Nat × Int)
  | [], b => b
  | q :: a, b => sins q (smrg a b)
theorem smrg_ev (ρ : Nat → Int) (a b : List (Nat × Int)) : svl ρ (smrg a b) = svl ρ a + svl ρ b := by
  induction a with
  | nil => simp [smrg, svl]
  | cons q a ih =>
    simp only [smrg, sins_ev, svl, ih]
    omega
def sadd (a b : SE) : SE := (a.1 + b.1, smrg a.2 b.2)
theorem sadd_ev (ρ : Nat → Int) (a b : SE) : sev ρ (sadd a b) = sev ρ a + sev ρ b := by
  simp only [sev, sadd, smrg_ev]
  omega
def smulL (k : Int) : List (Nat × Int) → List (Nat × Int)
  | [] => []
  | q :: r => (q.1, k * q.2) :: smulL k r
theorem smulL_ev (ρ : Nat → Int) (k : Int) (l : List (Nat × Int)) : svl ρ (smulL k l) = k * svl ρ l := by
  induction l with
  | nil => simp [smulL, svl]
  | cons q r ih =>
    simp only [smulL, svl, ih]
    rw [Int.mul_add, Int.mul_assoc]
def smul (k : Int) (a : SE) : SE := cond (decide (k = 0)) (0, []) (k * a.1, smulL k a.2)
theorem smul_ev (ρ : Nat → Int) (k : Int) (a : SE) : sev ρ (smul k a) = k * sev ρ a := by
  unfold smul
  by_cases h : k = 0
  · rw [decide_eq_true h, h]
    simp [sev, svl]
  · rw [decide_eq_false h]
    simp only [cond_false, sev, smulL_ev]
    rw [Int.mul_add]
def sneg (a : SE) : SE := smul (-1) a
theorem sneg_ev (ρ : Nat → Int) (a : SE) : sev ρ (sneg a) = - sev ρ a := by
  unfold sneg
  rw [smul_ev]
  omega
def ssub (a b : SE) : SE := sadd a (sneg b)
theorem ssub_ev (ρ : Nat → Int) (a b : SE) : sev ρ (ssub a b) = sev ρ a - sev ρ b := by
  unfold ssub
  rw [sadd_ev, sneg_ev]
  omega
def saddc (a : SE) (x : Int) : SE := (a.1 + x, a.2)
theorem saddc_ev (ρ : Nat → Int) (a : SE) (x : Int) : sev ρ (saddc a x) = sev ρ a + x := by
  simp only [sev, saddc]
  omega
def slbeq : List (Nat × Int) → List (Nat × Int) → Bool
  | [], [] => true
  | q :: a, r :: b => Nat.beq q.1 r.1 && (decide (q.2 = r.2) && slbeq a b)
  | _, _ => false
theorem slbeq_ok : ∀ {a b : List (Nat × Int)}, slbeq a b = true → a = b := by
  intro a
  induction a with
  | nil =>
    intro b h
    cases b with
    | nil => rfl
    | cons r b => cases h
  | cons q a ih =>
    intro b h
    cases b with
    | nil => cases h
    | cons r b =>
      simp only [slbeq, Bool.and_eq_true, decide_eq_true_eq] at h
      obtain ⟨h1, h2, h3⟩ := h
      rw [ih h3]
      rw [Prod.ext (Nat.beq_eq.mp h1) h2]
def sbeq (a b : SE) : Bool := decide (a.1 = b.1) && slbeq a.2 b.2
theorem sbeq_ok {a b : SE} (h : sbeq a b = true) : a = b := by
  simp only [sbeq, Bool.and_eq_true, decide_eq_true_eq] at h
  exact Prod.ext h.1 (slbeq_ok h.2)
/-! bounds: the newest first; relations: expressions that are not negative -/
abbrev SB : Type := List (Nat × Int × Int)
abbrev SK : Type := SB × List SE
def sK (ρ : Nat → Int) (K : SK) : Prop := (∀ q ∈ K.1, q.2.1 ≤ ρ q.1 ∧ ρ q.1 ≤ q.2.2) ∧ ∀ r ∈ K.2, 0 ≤ sev ρ r
def sbd (t : Nat) : SB → Option (Int × Int)
  | [] => none
  | q :: r => cond (Nat.beq q.1 t) (some q.2) (sbd t r)
theorem sbd_ok {ρ : Nat → Int} {t : Nat} {q : Int × Int} : ∀ {B : SB}, (∀ q ∈ B, q.2.1 ≤ ρ q.1 ∧ ρ q.1 ≤ q.2.2) → sbd t B = some q → q.1 ≤ ρ t ∧ ρ t ≤ q.2 := by
  intro B
  induction B with
  | nil =>
    intro _ h
    cases h
  | cons a B ih =>
    intro hB h
    unfold sbd at h
    cases hb : Nat.beq a.1 t with
    | true =>
      rw [hb, cond_true] at h
      cases h
      rw [← Nat.beq_eq.mp hb]
      exact hB a List.mem_cons_self
    | false =>
      rw [hb, cond_false] at h
      exact ih (fun q hq => hB q (List.mem_cons_of_mem _ hq)) h
def smn (B : SB) : List (Nat × Int) → Int → Option Int
  | [], a => some a
  | q :: r, a => match sbd q.1 B with
    | some b => smn B r (a + cond (decide (0 ≤ q.2)) (q.2 * b.1) (q.2 * b.2))
    | none => none
theorem smn_ok {ρ : Nat → Int} {B : SB} (hB : ∀ q ∈ B, q.2.1 ≤ ρ q.1 ∧ ρ q.1 ≤ q.2.2) : ∀ {l : List (Nat × Int)} {a b : Int}, smn B l a = some b → b ≤ a + svl ρ l := by
  intro l
  induction l with
  | nil =>
    intro a b h
    cases h
    simp [svl]
  | cons q r ih =>
    intro a b h
    unfold smn at h
    cases hs : sbd q.1 B with
    | none => rw [hs] at h; cases h
    | some z =>
      rw [hs] at h
      have h1 := ih h
      have h2 := sbd_ok hB hs
      simp only [svl]
      by_cases hc : 0 ≤ q.2
      · rw [decide_eq_true hc, cond_true] at h1
        have := Int.mul_le_mul_of_nonneg_left h2.1 hc
        omega
      · rw [decide_eq_false hc, cond_false] at h1
        have h5 : q.2 * z.2 ≤ q.2 * ρ q.1 := Int.mul_le_mul_of_nonpos_left (by omega) h2.2
        omega
def snn (B : SB) (e : SE) : Bool := match smn B e.2 e.1 with
  | some b => decide (0 ≤ b)
  | none => false
theorem snn_ok {ρ : Nat → Int} {B : SB} (hB : ∀ q ∈ B, q.2.1 ≤ ρ q.1 ∧ ρ q.1 ≤ q.2.2) {e : SE} (h : snn B e = true) : 0 ≤ sev ρ e := by
  unfold snn at h
  cases hm : smn B e.2 e.1 with
  | none => rw [hm] at h; cases h
  | some b =>
    rw [hm] at h
    have h1 := smn_ok hB hm
    have h2 : 0 ≤ b := of_decide_eq_true h
    unfold sev
    omega
def sany {α : Type} (f : α → Bool) : List α → Bool
  | [] => false
  | a :: r => cond (f a) true (sany f r)
theorem sany_ok {α : Type} {f : α → Bool} : ∀ {l : List α}, sany f l = true → ∃ a ∈ l, f a = true := by
  intro l
  induction l with
  | nil => intro h; cases h
  | cons a r ih =>
    intro h
    unfold sany at h
    cases hf : f a with
    | true => exact ⟨a, List.mem_cons_self, hf⟩
    | false =>
      rw [hf, cond_false] at h
      obtain ⟨b, h1, h2⟩ := ih h
      exact ⟨b, List.mem_cons_of_mem _ h1, h2⟩
/-- what can help: a number of both, of the same sign -/
def shp1 (t : Nat) (c : Int) : List (Nat × Int) → Bool
  | [] => false
  | q :: r => cond (Nat.beq q.1 t) (cond (decide (0 < c)) (decide (0 < q.2)) (decide (q.2 < 0))) (shp1 t c r)
def shp0 (e : List (Nat × Int)) : List (Nat × Int) → Bool
  | [] => false
  | q :: r => cond (shp1 q.1 q.2 e) true (shp0 e r)
def shlp (f : SE → Bool) (e : SE) : List SE → Bool
  | [] => false
  | r :: rs => cond (cond (shp0 e.2 r.2) (f (ssub e r)) false) true (shlp f e rs)
theorem shlp_ok {f : SE → Bool} {e : SE} : ∀ {l : List SE}, shlp f e l = true → ∃ r ∈ l, f (ssub e r) = true := by
  intro l
  induction l with
  | nil => intro h; cases h
  | cons a r ih =>
    intro h
    unfold shlp at h
    cases hs : shp0 e.2 a.2 with
    | false =>
      rw [hs, cond_false, cond_false] at h
      obtain ⟨b, h1, h2⟩ := ih h
      exact ⟨b, List.mem_cons_of_mem _ h1, h2⟩
    | true =>
      rw [hs, cond_true] at h
      cases hf : f (ssub e a) with
      | true => exact ⟨a, List.mem_cons_self, hf⟩
      | false =>
        rw [hf, cond_false] at h
        obtain ⟨b, h1, h2⟩ := ih h
        exact ⟨b, List.mem_cons_of_mem _ h1, h2⟩
def snn1 (K : SK) (e : SE) : Bool := cond (snn K.1 e) true (shlp (fun d => snn K.1 d) e K.2)
theorem snn1_ok {ρ : Nat → Int} {K : SK} (hK : sK ρ K) {e : SE} (h : snn1 K e = true) : 0 ≤ sev ρ e := by
  unfold snn1 at h
  cases hs : snn K.1 e with
  | true => exact snn_ok hK.1 hs
  | false =>
    rw [hs, cond_false] at h
    obtain ⟨r, h1, h2⟩ := shlp_ok h
    have h3 := snn_ok hK.1 h2
    rw [ssub_ev] at h3
    have := hK.2 r h1
    omega
/-- what is known says that e is not negative -/
def sent (K : SK) (e : SE) : Bool := cond (snn1 K e) true (shlp (fun d => snn1 K d) e K.2)
theorem sent_ok {ρ : Nat → Int} {K : SK} (hK : sK ρ K) {e : SE} (h : sent K e = true) : 0 ≤ sev ρ e := by
  unfold sent at h
  cases hs : snn1 K e with
  | true => exact snn1_ok hK hs
  | false =>
    rw [hs, cond_false] at h
    obtain ⟨r, h1, h2⟩ := shlp_ok h
    have h3 := snn1_ok hK h2
    rw [ssub_ev] at h3
    have := hK.2 r h1
    omega
/-- a is not above b -/
def sle (K : SK) (a b : SE) : Bool := sent K (ssub b a)
theorem sle_ok {ρ : Nat → Int} {K : SK} (hK : sK ρ K) {a b : SE} (h : sle K a b = true) : sev ρ a ≤ sev ρ b := by
  have := sent_ok hK h
  rw [ssub_ev] at this
  omega
def sin (K : SK) (e : SE) (lo hi : Int) : Bool := sent K (saddc e (-lo)) && sent K (ssub (sc hi) e)
theorem sin_ok {ρ : Nat → Int} {K : SK} (hK : sK ρ K) {e : SE} {lo hi : Int} (h : sin K e lo hi = true) : lo ≤ sev ρ e ∧ sev ρ e ≤ hi := by
  unfold sin at h
  rw [Bool.and_eq_true] at h
  have h1 := sent_ok hK h.1
  have h2 := sent_ok hK h.2
  rw [saddc_ev] at h1
  rw [ssub_ev, sev_c] at h2
  omega
/-! what a branch teaches: an expression that is not negative -/
def sput (K : SK) (e : SE) : SK := match e.2 with
  | [(t, a)] => (match sbd t K.1 with
    | some b => cond (decide (0 < a)) (cond (decide (b.1 < -(e.1 / a))) ((t, -(e.1 / a), b.2) :: K.1, K.2) K) (cond (decide (a < 0)) (cond (decide (e.1 / (-a) < b.2)) ((t, b.1, e.1 / (-a)) :: K.1, K.2) K) K)
    | none => K)
  | [] => K
  | _ => cond (snn K.1 e) K (K.1, e :: K.2)
theorem sput_ok {ρ : Nat → Int} {K : SK} (hK : sK ρ K) {e : SE} (h : 0 ≤ sev ρ e) : sK ρ (sput K e) := by
  obtain ⟨x, l⟩ := e
  match l, h with
  | [], h => exact hK
  | [(t, a)], h =>
    show sK ρ (match sbd t K.1 with
    | some b => cond (decide (0 < a)) (cond (decide (b.1 < -(x / a))) ((t, -(x / a), b.2) :: K.1, K.2) K) (cond (decide (a < 0)) (cond (decide (x / (-a) < b.2)) ((t, b.1, x / (-a)) :: K.1, K.2) K) K)
    | none => K)
    have h : 0 ≤ x + (a * ρ t + 0) := h
    cases hs : sbd t K.1 with
    | none => exact hK
    | some b =>
      have hb := sbd_ok hK.1 hs
      simp only
      by_cases h1 : 0 < a
      · rw [decide_eq_true h1, cond_true]
        by_cases h2 : b.1 < -(x / a)
        · rw [decide_eq_true h2, cond_true]
          refine ⟨fun q hq => ?_, hK.2⟩
          rcases List.mem_cons.mp hq with rfl | hq
          · refine ⟨?_, hb.2⟩
            show -(x / a) ≤ ρ t
            have h3 : -(ρ t) ≤ x / a := by
              rw [Int.le_ediv_iff_mul_le h1]
              rw [Int.neg_mul, Int.mul_comm]
              omega
            omega
          · exact hK.1 q hq
        · rw [decide_eq_false h2]
          exact hK
      · rw [decide_eq_false h1, cond_false]
        by_cases h2 : a < 0
        · rw [decide_eq_true h2, cond_true]
          by_cases h4 : x / (-a) < b.2
          · rw [decide_eq_true h4, cond_true]
            refine ⟨fun q hq => ?_, hK.2⟩
            rcases List.mem_cons.mp hq with rfl | hq
            · refine ⟨hb.1, ?_⟩
              show ρ t ≤ x / (-a)
              rw [Int.le_ediv_iff_mul_le (by omega)]
              rw [Int.mul_neg, Int.mul_comm]
              omega
            · exact hK.1 q hq
          · rw [decide_eq_false h4]
            exact hK
        · rw [decide_eq_false h2]
          exact hK
  | q1 :: q2 :: q3, h =>
    show sK ρ (cond (snn K.1 (x, q1 :: q2 :: q3)) K (K.1, (x, q1 :: q2 :: q3) :: K.2))
    cases snn K.1 (x, q1 :: q2 :: q3) with
    | true => exact hK
    | false =>
      refine ⟨hK.1, fun r hr => ?_⟩
      rcases List.mem_cons.mp hr with rfl | hr
      · exact h
      · exact hK.2 r hr
/-- it can't be that e is not negative -/
def sbad (K : SK) (e : SE) : Bool := sent K (ssub (sc (-1)) e)
theorem sbad_ok {ρ : Nat → Int} {K : SK} (hK : sK ρ K) {e : SE} (h : sbad K e = true) : ¬ 0 ≤ sev ρ e := by
  have := sent_ok hK h
  rw [ssub_ev, sev_c] at this
  omega
/-- e is not 0: an end of its bounds goes -/
def sne (K : SK) (e : SE) : SK := cond (sent K e) (sput K (saddc e (-1))) (cond (sent K (sneg e)) (sput K (saddc (sneg e) (-1))) K)
theorem sne_ok {ρ : Nat → Int} {K : SK} (hK : sK ρ K) {e : SE} (h : sev ρ e ≠ 0) : sK ρ (sne K e) := by
  unfold sne
  cases h1 : sent K e with
  | true =>
    have := sent_ok hK h1
    refine sput_ok hK ?_
    rw [saddc_ev]
    omega
  | false =>
    rw [cond_false]
    cases h2 : sent K (sneg e) with
    | true =>
      have := sent_ok hK h2
      rw [sneg_ev] at this
      refine sput_ok hK ?_
      rw [saddc_ev, sneg_ev]
      omega
    | false => exact hK
/-! made plain, for the kernel -/
def sn {α : Type} (n : Nat) (k : Nat → α) : α := match n with
  | 0 => k 0
  | m + 1 => k (m + 1)
theorem sn_eq {α : Type} (n : Nat) (k : Nat → α) : sn n k = k n := by cases n <;> rfl
def sfi {α : Type} (x : Int) (k : Int → α) : α := match x with
  | .ofNat n => sn n (fun n => k (.ofNat n))
  | .negSucc n => sn n (fun n => k (.negSucc n))
theorem sfi_eq {α : Type} (x : Int) (k : Int → α) : sfi x k = k x := by
  cases x <;> simp [sfi, sn_eq]
def sfl {α : Type} : List (Nat × Int) → (List (Nat × Int) → α) → α
  | [], k => k []
  | q :: r, k => sn q.1 (fun a => sfi q.2 (fun b => sfl r (fun r => k ((a, b) :: r))))
theorem sfl_eq {α : Type} (l : List (Nat × Int)) (k : List (Nat × Int) → α) : sfl l k = k l := by
  induction l generalizing k with
  | nil => rfl
  | cons q r ih => simp only [sfl, sn_eq, sfi_eq, ih]
def sfe {α : Type} (e : SE) (k : SE → α) : α := sfi e.1 (fun a => sfl e.2 (fun l => k (a, l)))
theorem sfe_eq {α : Type} (e : SE) (k : SE → α) : sfe e k = k e := by
  simp only [sfe, sfi_eq, sfl_eq]
def sll {α β : Type} (l : List α) (k : List α → β) : β := match l with
  | [] => k []
  | a :: r => sll r (fun r => k (a :: r))
theorem sll_eq {α β : Type} (l : List α) (k : List α → β) : sll l k = k l := by
  induction l generalizing k with
  | nil => rfl
  | cons a r ih => exact ih (fun r => k (a :: r))
