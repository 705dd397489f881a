/-! a state that is as a note says -/
theorem sfd_ok {ρ : Nat → Int} {M : SMem} {K : SK} {ms : List SM} {fs : List SFt} (hK : sK ρ K) (hm : ∀ q ∈ ms, ∃ j i : Nat, (j : Int) = sev ρ q.2.1 ∧ (i : Int) = sev ρ q.2.2.1 ∧ M q.1 j i = sev ρ q.2.2.2) (hf : ∀ q ∈ fs, sfI q.1 (q.2.map (sev ρ)) M) {q : SFt} (h : sfd K ms fs q = true) : sfI q.1 (q.2.map (sev ρ)) M := by
  obtain ⟨k, ps⟩ := q
  unfold sfd at h
  cases c1 : sany (fun p => Nat.beq p.1 k && sall2 (seqv K) p.2 ps) fs with
  | true =>
    obtain ⟨p, h1, h2⟩ := sany_ok c1
    rw [Bool.and_eq_true] at h2
    have h3 := hf p h1
    rw [Nat.beq_eq.mp h2.1, sall2_ev hK h2.2] at h3
    exact h3
  | false =>
    simp only [c1, cond_false] at h
    match k, ps, h with
    | 0, [a, b], h =>
      obtain ⟨h1, h2⟩ := bcond h
      exact sdSeg_ok hK hm hf (sent_ok hK h1) h2
    | 1, [c, n], h => exact sdDr_ok hK hm hf h
    | 2, [a], h => exact sdGa_ok hK hm hf h
    | 3, [r, k], h => exact sdCpl_ok hK hm hf h
    | 4, [r, k], h => exact sdCpc_ok hK hm hf h
    | 5, [i, h0], h => exact sdWft_ok hK hm hf h
    | 7, [c, n], h => exact sdEs_ok hK hm hf h
abbrev SG : Type := List (Nat × SE)
def sgk (g : SG) (t : Nat) : Option SE := match g with
  | [] => none
  | q :: r => cond (Nat.beq q.1 t) (some q.2) (sgk r t)
/-- an expression over a note's numbers, in the state's; those below n are the same -/
def ssbl (n : Nat) (g : SG) : List (Nat × Int) → SE → Option SE
  | [], a => some a
  | q :: r, a => cond (Nat.blt q.1 n) (ssbl n g r (sadd (0, [q]) a)) (match sgk g q.1 with
    | some e => ssbl n g r (sadd (smul q.2 e) a)
    | none => none)
def ssb (n : Nat) (g : SG) (e : SE) : Option SE := ssbl n g e.2 (e.1, [])
/-- the note's numbers -/
def srh (n : Nat) (g : SG) (ρ : Nat → Int) (t : Nat) : Int := if t < n then ρ t else match sgk g t with
  | some e => sev ρ e
  | none => 0
theorem ssbl_ok {n : Nat} {g : SG} {ρ : Nat → Int} : ∀ {l : List (Nat × Int)} {a b : SE}, ssbl n g l a = some b → sev ρ b = sev ρ a + svl (srh n g ρ) l := by
  intro l
  induction l with
  | nil =>
    intro a b h
    cases h
    simp [svl]
  | cons q r ih =>
    intro a b h
    unfold ssbl at h
    cases hc : Nat.blt q.1 n with
    | true =>
      rw [hc, cond_true] at h
      rw [ih h, sadd_ev]
      have hlt := zblt hc
      simp only [svl, sev, srh, if_pos hlt]
      omega
    | false =>
      rw [hc, cond_false] at h
      have hlt : ¬ q.1 < n := fun z => by rw [Nat.blt_eq.mpr z] at hc; cases hc
      cases hg : sgk g q.1 with
      | none => rw [hg] at h; cases h
      | some e =>
        rw [hg] at h
        simp only at h
        rw [ih h, sadd_ev, smul_ev]
        have e1 : srh n g ρ q.1 = sev ρ e := by
          unfold srh
          rw [if_neg hlt, hg]
        simp only [svl, e1]
        omega
theorem ssb_ok {n : Nat} {g : SG} {ρ : Nat → Int} {e b : SE} (h : ssb n g e = some b) : sev ρ b = sev (srh n g ρ) e := by
  rw [ssbl_ok (ρ := ρ) h]
  simp only [sev, svl]
  omega
def ssbL (n : Nat) (g : SG) : List SE → Option (List SE)
  | [] => some []
  | e :: r => match ssb n g e, ssbL n g r with
    | some a, some b => some (a :: b)
    | _, _ => none
theorem ssbL_ok {n : Nat} {g : SG} {ρ : Nat → Int} : ∀ {l b : List SE}, ssbL n g l = some b → b.map (sev ρ) = l.map (sev (srh n g ρ)) := by
  intro l
  induction l with
  | nil =>
    intro b h
    cases h
    rfl
  | cons e r ih =>
    intro b h
    unfold ssbL at h
    cases h1 : ssb n g e with
    | none => rw [h1] at h; cases h
    | some a =>
      cases h2 : ssbL n g r with
      | none => rw [h1, h2] at h; cases h
      | some c =>
        rw [h1, h2] at h
        cases h
        rw [List.map_cons, List.map_cons, ssb_ok h1, ih h2]
/-- the same number, by what is known -/
def sve (n : Nat) (g : SG) (K : SK) (eA eS : SE) : Bool := match ssb n g eA with
  | some e => seqv K e eS
  | none => false
theorem sve_ok {n : Nat} {g : SG} {ρ : Nat → Int} {K : SK} (hK : sK ρ K) {eA eS : SE} (h : sve n g K eA eS = true) : sev (srh n g ρ) eA = sev ρ eS := by
  unfold sve at h
  cases h1 : ssb n g eA with
  | none => rw [h1] at h; cases h
  | some e =>
    rw [h1] at h
    rw [← ssb_ok h1]
    exact seqv_ok hK h
def svv (n : Nat) (g : SG) (K : SK) (a s : SV) : Bool := Nat.beq a.1 s.1 && (Nat.beq a.2.1 s.2.1 && sve n g K a.2.2 s.2.2)
theorem svv_ok {fm : List SF} {scr n : Nat} {g : SG} {ρ : Nat → Int} {ad : SAd} {K : SK} (hK : sK ρ K) {a s : SV} {c : Value} (h : svv n g K a s = true) (hs : sv fm scr ρ ad s c) : sv fm scr (srh n g ρ) ad a c := by
  unfold svv at h
  simp only [Bool.and_eq_true] at h
  obtain ⟨h1, h2, h3⟩ := h
  unfold sv at hs ⊢
  rw [Nat.beq_eq.mp h1, Nat.beq_eq.mp h2, sve_ok hK h3]
  exact hs
def svL (n : Nat) (g : SG) (K : SK) : List SV → List SV → Bool
  | [], [] => true
  | a :: r, s :: q => cond (svv n g K a s) (svL n g K r q) false
  | _, _ => false
theorem svL_ok {fm : List SF} {scr n : Nat} {g : SG} {ρ : Nat → Int} {ad : SAd} {K : SK} (hK : sK ρ K) : ∀ {a s : List SV} {cs : List Value}, svL n g K a s = true → svs fm scr ρ ad s cs → svs fm scr (srh n g ρ) ad a cs := by
  intro a
  induction a with
  | nil =>
    intro s cs h hs
    cases s with
    | nil =>
      cases svs_nil hs
      trivial
    | cons _ _ => cases h
  | cons x a ih =>
    intro s cs h hs
    cases s with
    | nil => cases h
    | cons y s =>
      unfold svL at h
      obtain ⟨h1, h2⟩ := bcond h
      obtain ⟨c, r, rfl, h3, h4⟩ := svs_cons hs
      exact ⟨svv_ok hK h1 h3, ih h2 h4⟩
/-- three of what is known -/
def sent3 (K : SK) (e : SE) : Bool := cond (sent K e) true (shlp (fun d => sent K d) e K.2)
theorem sent3_ok {ρ : Nat → Int} {K : SK} (hK : sK ρ K) {e : SE} (h : sent3 K e = true) : 0 ≤ sev ρ e := by
  unfold sent3 at h
  cases hs : sent K e with
  | true => exact sent_ok hK hs
  | false =>
    rw [hs, cond_false] at h
    obtain ⟨r, h1, h2⟩ := shlp_ok h
    have h3 := sent_ok hK h2
    rw [ssub_ev] at h3
    have := hK.2 r h1
    omega
def svK (n : Nat) (g : SG) (K : SK) (KA : SK) : Bool := sall (fun q => match ssb n g (sy q.1) with
    | some e => sin K e q.2.1 q.2.2
    | none => false) KA.1 && sall (fun r => match ssb n g r with
    | some e => sent3 K e
    | none => false) KA.2
theorem svK_ok {n : Nat} {g : SG} {ρ : Nat → Int} {K KA : SK} (hK : sK ρ K) (h : svK n g K KA = true) : sK (srh n g ρ) KA := by
  unfold svK at h
  rw [Bool.and_eq_true] at h
  refine ⟨fun q hq => ?_, fun r hr => ?_⟩
  · have h1 := sall_ok h.1 q hq
    cases h2 : ssb n g (sy q.1) with
    | none => rw [h2] at h1; cases h1
    | some e =>
      rw [h2] at h1
      have h3 := sin_ok hK h1
      rw [ssb_ok (ρ := ρ) h2, sev_y] at h3
      exact h3
  · have h1 := sall_ok h.2 r hr
    cases h2 : ssb n g r with
    | none => rw [h2] at h1; cases h1
    | some e =>
      rw [h2] at h1
      have h3 := sent3_ok hK h1
      rw [ssb_ok (ρ := ρ) h2] at h3
      exact h3
/-- a memo of the note is one of the state's -/
def svM (n : Nat) (g : SG) (K : SK) (ms : List SM) (q : SM) : Bool := match ssb n g q.2.1, ssb n g q.2.2.1, ssb n g q.2.2.2 with
  | some j, some i, some v => sany (fun s => Nat.beq s.1 q.1 && (seqv K s.2.2.1 i && (seqv K s.2.1 j && seqv K s.2.2.2 v))) ms
  | _, _, _ => false
theorem svM_ok {n : Nat} {g : SG} {ρ : Nat → Int} {M : SMem} {K : SK} {ms : List SM} (hK : sK ρ K) (hm : ∀ q ∈ ms, ∃ j i : Nat, (j : Int) = sev ρ q.2.1 ∧ (i : Int) = sev ρ q.2.2.1 ∧ M q.1 j i = sev ρ q.2.2.2) {q : SM} (h : svM n g K ms q = true) : ∃ j i : Nat, (j : Int) = sev (srh n g ρ) q.2.1 ∧ (i : Int) = sev (srh n g ρ) q.2.2.1 ∧ M q.1 j i = sev (srh n g ρ) q.2.2.2 := by
  unfold svM at h
  cases h1 : ssb n g q.2.1 with
  | none => rw [h1] at h; cases h
  | some j =>
    cases h2 : ssb n g q.2.2.1 with
    | none => rw [h1, h2] at h; cases h
    | some i =>
      cases h3 : ssb n g q.2.2.2 with
      | none => rw [h1, h2, h3] at h; cases h
      | some v =>
        rw [h1, h2, h3] at h
        simp only at h
        obtain ⟨s, k1, k2⟩ := sany_ok h
        simp only [Bool.and_eq_true] at k2
        obtain ⟨k2, k3, k4, k5⟩ := k2
        obtain ⟨j', i', e1, e2, e3⟩ := hm s k1
        rw [← ssb_ok (ρ := ρ) h1, ← ssb_ok (ρ := ρ) h2, ← ssb_ok (ρ := ρ) h3, ← seqv_ok hK k3, ← seqv_ok hK k4, ← seqv_ok hK k5, ← Nat.beq_eq.mp k2]
        exact ⟨j', i', e1, e2, e3⟩
def svF (n : Nat) (g : SG) (K : SK) (ms : List SM) (fs : List SFt) (q : SFt) : Bool := match ssbL n g q.2 with
  | some ps => sfd K ms fs (q.1, ps)
  | none => false
theorem svF_ok {n : Nat} {g : SG} {ρ : Nat → Int} {M : SMem} {K : SK} {ms : List SM} {fs : List SFt} (hK : sK ρ K) (hm : ∀ q ∈ ms, ∃ j i : Nat, (j : Int) = sev ρ q.2.1 ∧ (i : Int) = sev ρ q.2.2.1 ∧ M q.1 j i = sev ρ q.2.2.2) (hf : ∀ q ∈ fs, sfI q.1 (q.2.map (sev ρ)) M) {q : SFt} (h : svF n g K ms fs q = true) : sfI q.1 (q.2.map (sev (srh n g ρ))) M := by
  unfold svF at h
  cases h1 : ssbL n g q.2 with
  | none => rw [h1] at h; cases h
  | some ps =>
    rw [h1] at h
    have h2 := sfd_ok hK hm hf h
    rw [← ssbL_ok (ρ := ρ) h1]
    exact h2
/-- all that a note says of numbers, memos and facts -/
def svW (n : Nat) (g : SG) (w wA : SW) : Bool := svK n g w.2.2.1 wA.2.2.1 && (sall (svM n g w.2.2.1 w.1.1) wA.1.1 && sall (svF n g w.2.2.1 w.1.1 w.1.2) wA.1.2)
theorem svW_ok {n : Nat} {g : SG} {ρ : Nat → Int} {M : SMem} {w wA : SW} (hK : sK ρ w.2.2.1) (hm : smo sfI ρ M w.1) (h : svW n g w wA = true) : sK (srh n g ρ) wA.2.2.1 ∧ smo sfI (srh n g ρ) M wA.1 := by
  unfold svW at h
  simp only [Bool.and_eq_true] at h
  obtain ⟨h1, h2, h3⟩ := h
  exact ⟨svK_ok hK h1, fun q hq => svM_ok hK hm.1 (sall_ok h2 q hq), fun q hq => svF_ok hK hm.1 hm.2 (sall_ok h3 q hq)⟩
/-! finding: nothing of this needs to be right -/
def sbd1 (n : Nat) (g : SG) (eA eS : SE) : SG := match eA.2 with
  | [(t, c)] => cond (Nat.blt t n) g (cond (decide (c = 1)) (match sgk g t with
    | some _ => g
    | none => (t, saddc eS (-eA.1)) :: g) g)
  | _ => g
def sbdL (n : Nat) : List SV → List SV → SG → SG
  | a :: r, s :: q, g => sbdL n r q (sbd1 n g a.2.2 s.2.2)
  | _, _, g => g
def sbdV (n : Nat) (lv : SL) : SL → SG → SG
  | [], g => g
  | q :: r, g => match slk lv q.1 with
    | some v => sbdV n lv r (sbd1 n g q.2.2.2 v.2.2)
    | none => sbdV n lv r g
/-- a memo by what is known -/
def smfe (K : SK) (f : Nat) (j i : SE) : List SM → Option SE
  | [] => none
  | q :: r => cond (Nat.beq q.1 f && (seqv K q.2.2.1 i && seqv K q.2.1 j)) (some q.2.2.2) (smfe K f j i r)
def smfv (f : Nat) (v : SE) : List SM → Option SE
  | [] => none
  | q :: r => cond (Nat.beq q.1 f && sbeq q.2.2.2 v) (some q.2.2.1) (smfv f v r)
/-- a place whose number is not known yet is sought by its value -/
def sbdi (n : Nat) (g : SG) (q : SM) (ms : List SM) : SG := match q.2.2.1.2 with
  | [(t, _)] => cond (Nat.blt t n) g (match sgk g t with
    | some _ => g
    | none => (match smfv q.1 q.2.2.2 ms with
      | some i => sbd1 n g q.2.2.1 i
      | none => g))
  | _ => g
def sgf (g : SG) (k : SG → SX) : SX := match g with
  | [] => k []
  | q :: r => sfe q.2 (fun e => k ((q.1, e) :: r))
theorem sgf_eq (g : SG) (k : SG → SX) : sgf g k = k g := by
  cases g with
  | nil => rfl
  | cons q r => simp [sgf, sfe_eq]
def sisr (rg : SRg) (f : Nat) : Bool := match rg.1[f]? with
  | some q => !(Nat.beq q.1 0)
  | none => false
/-- memos that the note wants, read if they are not there -/
def smtm (rg : SRg) (n : Nat) (lv : SL) (st : List SV) : List SM → SG → SW → (SG → SW → SX) → SX
  | [], g, w, k => k g w
  | q :: r, g, w, k => sgf (sbdi n g q w.1.1) (fun g => match ssb n g q.2.1, ssb n g q.2.2.1 with
    | some j, some i => (match smfe w.2.2.1 q.1 j i w.1.1 with
      | some v => sgf (sbd1 n g q.2.2.2 v) (fun g => smtm rg n lv st r g w k)
      | none => cond (Nat.beq q.1 29) (cond (sbeq j (sc 0) && sin w.2.2.1 i 0 71) (sfe i (fun i => sldD rg (sc 0) i lv ((0, 0, i) :: st) w (fun v w => sgf (sbd1 n g q.2.2.2 v) (fun g => smtm rg n lv st r g w k)))) none) (cond (sent w.2.2.1 j && (sent w.2.2.1 i && (sisc i || sisr rg q.1))) (cond (sbe w.2.1 j && sbe w.2.1 i) (sfe j (fun j => sfe i (fun i => sldk rg q.1 (cond (sisc i) i.1.toNat 0) j i lv st w (fun v w => sgf (sbd1 n g q.2.2.2 v) (fun g => smtm rg n lv st r g w k))))) none) none))
    | _, _ => none)
