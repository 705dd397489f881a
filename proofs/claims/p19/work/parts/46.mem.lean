/-! what is kept of the heap's numbers beyond bounds; facts; one number written -/
def cstep (c v : Int) (h : Nat) : Option Nat := if c = 1 then some (h + 1) else if c = 2 then (if 0 ≤ v ∧ v ≤ 6 then some (h + 1) else none) else if c = 3 then (if 1 ≤ h then some h else none) else if 4 ≤ c ∧ c ≤ 10 then (if 2 ≤ h then some (h - 1) else none) else none
/-- codes run one behind another: how high the pile is then -/
def crun (o a : Nat → Int) : Nat → Nat → Nat → Option Nat
  | 0, _, h => some h
  | n + 1, i, h => match cstep (o i) (a i) h with
    | some h' => crun o a n (i + 1) h'
    | none => none
theorem crun_succ (o a : Nat → Int) (n i h : Nat) : crun o a (n + 1) i h = match cstep (o i) (a i) h with
    | some h' => crun o a n (i + 1) h'
    | none => none := rfl
theorem crun_app (o a : Nat → Int) : ∀ (n m i h x : Nat), crun o a n i h = some x → crun o a (n + m) i h = crun o a m (i + n) x := by
  intro n
  induction n with
  | zero =>
    intro m i h x hx
    cases hx
    rw [Nat.zero_add, Nat.add_zero]
  | succ n ih =>
    intro m i h x hx
    have e : n + 1 + m = (n + m) + 1 := by omega
    rw [e, crun_succ]
    rw [crun_succ] at hx
    cases hc : cstep (o i) (a i) h with
    | none => rw [hc] at hx; cases hx
    | some h' =>
      rw [hc] at hx
      simp only at hx ⊢
      rw [ih m (i + 1) h' x hx, show i + 1 + n = i + (n + 1) from by omega]
theorem crun_congr {o a o' a' : Nat → Int} : ∀ (n i k h : Nat), (∀ j, j < n → o' (k + j) = o (i + j) ∧ a' (k + j) = a (i + j)) → crun o' a' n k h = crun o a n i h := by
  intro n
  induction n with
  | zero => intros; rfl
  | succ n ih =>
    intro i k h hj
    rw [crun_succ, crun_succ]
    have h0 := hj 0 (by omega)
    rw [Nat.add_zero, Nat.add_zero] at h0
    rw [h0.1, h0.2]
    cases cstep (o i) (a i) h with
    | none => rfl
    | some h' =>
      refine ih (i + 1) (k + 1) h' (fun j hj2 => ?_)
      have := hj (j + 1) (by omega)
      have e1 : k + (j + 1) = k + 1 + j := by omega
      have e2 : i + (j + 1) = i + 1 + j := by omega
      rw [e1, e2] at this
      exact this
def sSeg (M : SMem) (a b : Int) : Prop := ∃ n a' : Nat, a = (a' : Int) ∧ b = a + (n : Int) ∧ ∀ h, crun (M 41 0) (M 42 0) n (6600 + a') h = some (h + 1)
def sDr (M : SMem) (c n : Int) : Prop := ∀ k : Nat, (k : Int) < n → ∃ a m x : Nat, M 40 0 (72 + k) = (a : Int) ∧ crun (M 41 0) (M 42 0) m (6600 + a) 0 = some x ∧ M 41 0 (6600 + a + m) = 0 ∧ ((a + m : Nat) : Int) < c
def sG (M : SMem) (r : Nat) : Prop := M 37 0 r ≤ 12 ∧ ∀ k : Nat, (k : Int) < M 37 0 r → ∃ a m x : Nat, M 40 0 (12 * r + k) = (a : Int) ∧ crun (M 41 0) (M 42 0) m (1100 * r + a) 0 = some x ∧ M 41 0 (1100 * r + a + m) = 0 ∧ a + m ≤ 1099
def sGa (M : SMem) (x : Int) : Prop := ∀ r : Nat, r < 6 → (r : Int) ≠ x → sG M r
def sCpl (M : SMem) (r k : Int) : Prop := ∀ r' j : Nat, r = (r' : Int) → (j : Int) < k → M 40 0 (12 * r' + j) = M 40 0 (72 + j)
def sCpc (M : SMem) (r k : Int) : Prop := ∀ r' j : Nat, r = (r' : Int) → (j : Int) < k → M 41 0 (1100 * r' + j) = M 41 0 (6600 + j) ∧ M 42 0 (1100 * r' + j) = M 42 0 (6600 + j)
def sWft (M : SMem) (i h : Int) : Prop := ∃ i' h' n x : Nat, i = (i' : Int) ∧ h = (h' : Int) ∧ crun (M 41 0) (M 42 0) n i' h' = some x ∧ M 41 0 (i' + n) = 0 ∧ h' + n ≤ 1099 ∧ i' + n ≤ 7699
def sEa (M : SMem) : Prop := ∀ r l : Nat, l < 12 → (l : Int) < M 74 r 0 → M 99 r l ≤ M 106 r 0
def sEs (M : SMem) (c n : Int) : Prop := ∀ l : Nat, (l : Int) < n → M 104 0 l ≤ c
def sfI (k : Nat) (ps : List Int) (M : SMem) : Prop := match k, ps with
  | 0, [a, b] => sSeg M a b
  | 1, [c, n] => sDr M c n
  | 2, [x] => sGa M x
  | 3, [r, k] => sCpl M r k
  | 4, [r, k] => sCpc M r k
  | 5, [i, h] => sWft M i h
  | 6, [] => sEa M
  | 7, [c, n] => sEs M c n
  | _, _ => False
def sD1 (r : Nat) (v : Int) : Prop := (r = 0 ∧ v = 0) ∨ (r % 2 = 1 ∧ 0 ≤ v ∧ v ≤ 2) ∨ (r % 2 = 0 ∧ 0 < r ∧ (v = 0 ∨ (3 ≤ v ∧ v ≤ 4)))
def sX (M : SMem) : Prop := (∀ i : Nat, sD1 (i % 6) (M 29 0 i)) ∧ (∀ p q : Nat, 1 ≤ q → q < 6 → (q : Int) < M 27 0 p → M 29 0 (6 * p + q) ≠ 0) ∧ ∀ p : Nat, 0 ≤ M 50 0 (6 * p)
/-! one number written -/
def supd (M : SMem) (f j i : Nat) (v : Int) : SMem := fun f' j' i' => if f' = f ∧ j' = j ∧ i' = i then v else M f' j' i'
theorem supd_at (M : SMem) (f j i : Nat) (v : Int) : supd M f j i v f j i = v := if_pos ⟨rfl, rfl, rfl⟩
theorem supd_f {M : SMem} {f j i : Nat} {v : Int} {f' j' i' : Nat} (h : f' ≠ f) : supd M f j i v f' j' i' = M f' j' i' := if_neg (fun q => h q.1)
theorem supd_j {M : SMem} {f j i : Nat} {v : Int} {f' j' i' : Nat} (h : j' ≠ j) : supd M f j i v f' j' i' = M f' j' i' := if_neg (fun q => h q.2.1)
theorem supd_i {M : SMem} {f j i : Nat} {v : Int} {f' j' i' : Nat} (h : i' ≠ i) : supd M f j i v f' j' i' = M f' j' i' := if_neg (fun q => h q.2.2)
theorem supd_ff {M : SMem} {f j i : Nat} {v : Int} {f' : Nat} (h : f' ≠ f) : supd M f j i v f' = M f' := by
  funext j' i'
  exact supd_f h
/-- the kinds: rows whose length is kept have it in a kind of no cells -/
def sfmok (fm : List SF) : Prop := ∀ (f : Nat) (en : SF) (a : Nat × Nat × Nat × Nat), fm[f]? = some en → en.2.2.2 = .inr a → a.2.1 ≠ 0 → fm.length ≤ a.2.2.1
section SMEM
variable {fm : List SF} {rg : SRg} {ad : SAd} {M M' : SMem} {cA : Nat → ClassId} {ws : va_W} {f j : Nat} {en : SF}
theorem slen_congr {a : Nat × Nat × Nat × Nat} (h : a.2.1 ≠ 0 → M' a.2.2.1 j 0 = M a.2.2.1 j 0) : slen M' j a = slen M j a := by
  unfold slen
  cases hb : Nat.beq a.2.1 0 with
  | true => rfl
  | false =>
    have : a.2.1 ≠ 0 := fun q => by rw [q] at hb; cases hb
    rw [cond_false, cond_false, h this]
theorem sHe_congr {w : va_E} (hm : ∀ i, M' f j i = M f j i) (hl : ∀ a, en.2.2.2 = .inr a → a.2.1 ≠ 0 → M' a.2.2.1 j 0 = M a.2.2.1 j 0) (h : sHe ad M cA f j en w) : sHe ad M' cA f j en w := by
  unfold sHe at h ⊢
  cases he : en.2.2.2 with
  | inl o =>
    rw [he] at h
    obtain ⟨gs, h1, h2, h3⟩ := h
    exact ⟨gs, h1, h2, fun i sp hs => ⟨fun q => by rw [hm]; exact (h3 i sp hs).1 q, (h3 i sp hs).2⟩⟩
  | inr a =>
    rw [he] at h
    simp only at h ⊢
    have e := slen_congr (M := M) (M' := M') (j := j) (hl a he)
    unfold sHa at h ⊢
    rw [e]
    refine ⟨fun q => ?_, fun q => ?_, h.2.2⟩
    · obtain ⟨g, h1, h2⟩ := h.1 q
      exact ⟨g, h1, fun i => by rw [hm]; exact h2 i⟩
    · obtain ⟨g, h1, h2⟩ := h.2.1 q
      exact ⟨g, h1, fun i => by rw [hm]; exact h2 i⟩
theorem sH_set (hI : sInj fm) (hk : sfmok fm) (h : sH fm ad M cA ws) (hen : fm[f]? = some en) (hj : j < en.2.2.1) {i : Nat} {v : Int} {w' : va_E} (hw' : sHe ad (supd M f j i v) cA f j en w') : sH fm ad (supd M f j i v) cA (ws.set (spos en j) (ad f j, w')) := by
  intro f' en' hen' j' hj'
  obtain ⟨w0, hw0, -⟩ := h f en hen j hj
  have hlt : spos en j < ws.length := (List.getElem?_eq_some_iff.mp hw0).1
  by_cases hp : spos en' j' = spos en j
  · obtain ⟨rfl, rfl⟩ := hI f' f en' en hen' hen j' j hj' hj hp
    cases hen.symm.trans hen'
    exact ⟨w', by rw [List.getElem?_set_self hlt], hw'⟩
  · obtain ⟨w, h1, h2⟩ := h f' en' hen' j' hj'
    refine ⟨w, by rw [List.getElem?_set_ne (fun q => hp q.symm)]; exact h1, sHe_congr (M := M) (fun i' => ?_) (fun a ha hz => ?_) h2⟩
    · by_cases hf : f' = f
      · subst hf
        cases hen.symm.trans hen'
        have : j' ≠ j := fun q => hp (by rw [q])
        exact supd_j this
      · exact supd_f hf
    · have h3 := hk f' en' a hen' ha hz
      have h4 : f < fm.length := (List.getElem?_eq_some_iff.mp hen).1
      exact supd_f (by omega)
theorem sfr_put {M0 : SMem} {ad0 : SAd} {wr : SWr} {i : Nat} {v : Int} (h : sfr rg M0 M ad0 ad wr) (hw : (f, scl rg f i) ∈ wr.1) (hb : ∀ q ∈ wr.2, q.1 = f → q.2 ≤ (i : Int)) : sfr rg M0 (supd M f j i v) ad0 ad wr := by
  refine ⟨fun f' j' i' hn => ?_, h.2.1, fun q hq j' i' hi => ?_⟩
  · rw [← h.1 f' j' i' hn]
    by_cases hf : f' = f
    · subst hf
      by_cases hi : i' = i
      · subst hi
        exact absurd hw hn
      · exact supd_i hi
    · exact supd_f hf
  · rw [← h.2.2 q hq j' i' hi]
    by_cases hf : q.1 = f
    · have := hb q hq hf
      exact supd_i (by omega)
    · exact supd_f hf
theorem sI_put {i : Nat} {v : Int} (h : sI rg M) (h1 : ∀ q, srg rg f i = some q → q.1 ≤ v ∧ v ≤ q.2) (h2 : ∀ q ∈ rg.2, q.1 ≠ f) : sI rg (supd M f j i v) := by
  refine ⟨fun f' i' q hq j' => ?_, fun q hq j' => ?_⟩
  · by_cases hc : f' = f ∧ j' = j ∧ i' = i
    · obtain ⟨rfl, rfl, rfl⟩ := hc
      rw [supd_at]
      exact h1 q hq
    · rw [show supd M f j i v f' j' i' = M f' j' i' from if_neg hc]
      exact h.1 f' i' q hq j'
  · rw [supd_f (h2 q hq)]
    exact h.2 q hq j'
end SMEM
/-! memos -/
def smf (ms : List SM) (f : Nat) (j i : SE) : Option SE := match ms with
  | [] => none
  | q :: r => cond (Nat.beq q.1 f && (sbeq q.2.2.1 i && sbeq q.2.1 j)) (some q.2.2.2) (smf r f j i)
theorem smf_mem {f : Nat} {j i v : SE} : ∀ {ms : List SM}, smf ms f j i = some v → (f, j, i, v) ∈ ms := by
  intro ms
  induction ms with
  | nil => intro h; cases h
  | cons q r ih =>
    intro h
    unfold smf at h
    cases hb : (Nat.beq q.1 f && (sbeq q.2.2.1 i && sbeq q.2.1 j)) with
    | true =>
      rw [hb, cond_true] at h
      simp only [Bool.and_eq_true] at hb
      obtain ⟨q1, q2, q3, q4⟩ := q
      have e1 := Nat.beq_eq.mp hb.1
      have e2 := sbeq_ok hb.2.1
      have e3 := sbeq_ok hb.2.2
      simp only at e1 e2 e3 h
      cases h
      subst e1 e2 e3
      exact List.mem_cons_self
    | false =>
      rw [hb, cond_false] at h
      exact List.mem_cons_of_mem _ (ih h)
theorem smf_ok {fI : Nat → List Int → SMem → Prop} {ρ : Nat → Int} {M : SMem} {ms : SMS} {f jn i0 : Nat} {j i v : SE} (h : smo fI ρ M ms) (hm : smf ms.1 f j i = some v) (hj : (jn : Int) = sev ρ j) (hi : (i0 : Int) = sev ρ i) : M f jn i0 = sev ρ v := by
  obtain ⟨j', i', h1, h2, h3⟩ := h.1 _ (smf_mem hm)
  have e1 : j' = jn := by simp only at h1; omega
  have e2 : i' = i0 := by simp only at h2; omega
  subst e1 e2
  exact h3
/-- what is written kills memos of the same kind that may be of the same place -/
def sdis (K : SK) (a b : SE) : Bool := sent K (saddc (ssub a b) (-1)) || sent K (saddc (ssub b a) (-1))
theorem sdis_ok {ρ : Nat → Int} {K : SK} (hK : sK ρ K) {a b : SE} (h : sdis K a b = true) : sev ρ a ≠ sev ρ b := by
  unfold sdis at h
  rw [Bool.or_eq_true] at h
  rcases h with h | h
  · have := sent_ok hK h
    rw [saddc_ev, ssub_ev] at this
    omega
  · have := sent_ok hK h
    rw [saddc_ev, ssub_ev] at this
    omega
def smk (K : SK) (f : Nat) (j i : SE) (q : SM) : Bool := cond (Nat.beq q.1 f) (cond (sbeq q.2.1 j && sbeq q.2.2.1 i) false (cond (sdis K q.2.2.1 i) true (sdis K q.2.1 j))) true
theorem smk_ok {ρ : Nat → Int} {K : SK} (hK : sK ρ K) {f jn i0 : Nat} {j i : SE} {q : SM} (h : smk K f j i q = true) (hj : (jn : Int) = sev ρ j) (hi : (i0 : Int) = sev ρ i) {M : SMem} {v : Int} (hq : ∃ j i : Nat, (j : Int) = sev ρ q.2.1 ∧ (i : Int) = sev ρ q.2.2.1 ∧ M q.1 j i = sev ρ q.2.2.2) : ∃ j i : Nat, (j : Int) = sev ρ q.2.1 ∧ (i : Int) = sev ρ q.2.2.1 ∧ supd M f jn i0 v q.1 j i = sev ρ q.2.2.2 := by
  obtain ⟨j', i', h1, h2, h3⟩ := hq
  refine ⟨j', i', h1, h2, ?_⟩
  rw [← h3]
  unfold smk at h
  cases hb : Nat.beq q.1 f with
  | false => exact supd_f (fun e => by rw [Nat.beq_eq.mpr e] at hb; cases hb)
  | true =>
    rw [hb, cond_true] at h
    cases hc : (sbeq q.2.1 j && sbeq q.2.2.1 i) with
    | true => rw [hc] at h; cases h
    | false =>
      rw [hc, cond_false] at h
      cases hd : sdis K q.2.2.1 i with
      | true =>
        have := sdis_ok hK hd
        exact supd_i (fun e => by rw [e] at h2; omega)
      | false =>
        rw [hd, cond_false] at h
        have := sdis_ok hK h
        exact supd_j (fun e => by rw [e] at h1; omega)
