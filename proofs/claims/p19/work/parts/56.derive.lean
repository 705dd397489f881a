/-! facts that follow -/
def seqv (K : SK) (a b : SE) : Bool := cond (sbeq a b) true (sent K (ssub a b) && sent K (ssub b a))
theorem seqv_ok {ρ : Nat → Int} {K : SK} (hK : sK ρ K) {a b : SE} (h : seqv K a b = true) : sev ρ a = sev ρ b := by
  unfold seqv at h
  cases hb : sbeq a b with
  | true => rw [sbeq_ok hb]
  | false =>
    rw [hb, cond_false, Bool.and_eq_true] at h
    have h1 := sent_ok hK h.1
    have h2 := sent_ok hK h.2
    rw [ssub_ev] at h1 h2
    omega
def sall2 {α : Type} (f : α → α → Bool) : List α → List α → Bool
  | [], [] => true
  | a :: r, b :: q => cond (f a b) (sall2 f r q) false
  | _, _ => false
theorem sall2_ev {ρ : Nat → Int} {K : SK} (hK : sK ρ K) : ∀ {a b : List SE}, sall2 (seqv K) a b = true → a.map (sev ρ) = b.map (sev ρ) := by
  intro a
  induction a with
  | nil =>
    intro b h
    cases b with
    | nil => rfl
    | cons _ _ => cases h
  | cons x a ih =>
    intro b h
    cases b with
    | nil => cases h
    | cons y b =>
      unfold sall2 at h
      cases hc : seqv K x y with
      | false => rw [hc] at h; cases h
      | true =>
        rw [hc, cond_true] at h
        rw [List.map_cons, List.map_cons, seqv_ok hK hc, ih h]
/-- memos of a single row; facts of a sort -/
def srw (f : Nat) (g : SE → SE → Bool) (ms : List SM) : Bool := sany (fun q => Nat.beq q.1 f && (sbeq q.2.1 (sc 0) && g q.2.2.1 q.2.2.2)) ms
def sfa2 (k : Nat) (g : SE → SE → Bool) (fs : List SFt) : Bool := sany (fun q => cond (Nat.beq q.1 k) (match q.2 with
  | [a, b] => g a b
  | _ => false) false) fs
def sfa1 (k : Nat) (g : SE → Bool) (fs : List SFt) : Bool := sany (fun q => cond (Nat.beq q.1 k) (match q.2 with
  | [a] => g a
  | _ => false) false) fs
section SDE
variable {ρ : Nat → Int} {M : SMem} {K : SK} {ms : List SM} {fs : List SFt}
theorem srw_ok {f : Nat} {g : SE → SE → Bool} (hm : ∀ q ∈ ms, ∃ j i : Nat, (j : Int) = sev ρ q.2.1 ∧ (i : Int) = sev ρ q.2.2.1 ∧ M q.1 j i = sev ρ q.2.2.2) (h : srw f g ms = true) : ∃ (i : SE) (v : SE) (i0 : Nat), g i v = true ∧ (i0 : Int) = sev ρ i ∧ M f 0 i0 = sev ρ v := by
  obtain ⟨q, h1, h2⟩ := sany_ok h
  simp only [Bool.and_eq_true] at h2
  obtain ⟨h3, h4, h5⟩ := h2
  obtain ⟨j, i, e1, e2, e3⟩ := hm q h1
  rw [sbeq_ok h4, sev_c] at e1
  have e0 : j = 0 := by omega
  subst e0
  rw [Nat.beq_eq.mp h3] at e3
  exact ⟨q.2.2.1, q.2.2.2, i, h5, e2, e3⟩
theorem sfa2_ok {k : Nat} {g : SE → SE → Bool} (hf : ∀ q ∈ fs, sfI q.1 (q.2.map (sev ρ)) M) (h : sfa2 k g fs = true) : ∃ a b, g a b = true ∧ sfI k [sev ρ a, sev ρ b] M := by
  obtain ⟨q, h1, h2⟩ := sany_ok h
  have h3 := hf q h1
  obtain ⟨q1, q2⟩ := q
  cases hk : Nat.beq q1 k with
  | false => simp only [hk, cond_false] at h2; cases h2
  | true =>
    simp only [hk, cond_true] at h2
    cases Nat.beq_eq.mp hk
    match q2, h2, h3 with
    | [a, b], h2, h3 => exact ⟨a, b, h2, h3⟩
    | [], h2, _ => cases h2
    | [_], h2, _ => cases h2
    | _ :: _ :: _ :: _, h2, _ => cases h2
theorem sfa1_ok {k : Nat} {g : SE → Bool} (hf : ∀ q ∈ fs, sfI q.1 (q.2.map (sev ρ)) M) (h : sfa1 k g fs = true) : ∃ a, g a = true ∧ sfI k [sev ρ a] M := by
  obtain ⟨q, h1, h2⟩ := sany_ok h
  have h3 := hf q h1
  obtain ⟨q1, q2⟩ := q
  cases hk : Nat.beq q1 k with
  | false => simp only [hk, cond_false] at h2; cases h2
  | true =>
    simp only [hk, cond_true] at h2
    cases Nat.beq_eq.mp hk
    match q2, h2, h3 with
    | [a], h2, h3 => exact ⟨a, h2, h3⟩
    | [], h2, _ => cases h2
    | _ :: _ :: _, h2, _ => cases h2
end SDE
/-- a piece of code that puts one number on the pile -/
def sdSeg (K : SK) (ms : List SM) (fs : List SFt) (a b : SE) : Bool := srw 41 (fun i c => cond (seqv K (saddc i (-6599)) b) (cond (sbeq c (sc 1)) (seqv K (saddc i (-6600)) a) (cond (sbeq c (sc 2)) (cond (seqv K (saddc i (-6600)) a) (srw 42 (fun i2 o => cond (seqv K i2 i) (sin K o 0 6) false) ms) false) (cond (sbeq c (sc 3)) (sfa2 0 (fun x y => cond (seqv K x a) (seqv K y (saddc i (-6600))) false) fs) (cond (sisc c && (decide (4 ≤ c.1) && decide (c.1 ≤ 10))) (sfa2 0 (fun x y => cond (seqv K x a) (sfa2 0 (fun x2 y2 => cond (seqv K x2 y) (seqv K y2 (saddc i (-6600))) false) fs) false) fs) false)))) false) ms
def sdDr (K : SK) (ms : List SM) (fs : List SFt) (c n : SE) : Bool := cond (sbeq n (sc 0)) true (sfa2 1 (fun c0 n0 => cond (sent K (ssub c c0)) (cond (seqv K n0 n) true (cond (seqv K (saddc n0 1) n) (srw 40 (fun i v => cond (seqv K i (saddc n0 72)) (sfa2 0 (fun x y => cond (seqv K x v) (srw 41 (fun i2 o => cond (sbeq o (sc 0)) (cond (seqv K i2 (saddc y 6600)) (sent K (ssub c (saddc y 1))) false) false) ms) false) fs) false) ms) false)) false) fs)
def sdGa (K : SK) (ms : List SM) (fs : List SFt) (a : SE) : Bool := sfa1 2 (fun r => cond (sbeq r (sc (-1))) true (cond (sbeq a (sc (-1))) (cond (sin K r 0 5) (srw 37 (fun i n => cond (seqv K i r && sin K n 0 12) (sfa2 1 (fun c n1 => cond (seqv K n1 n) (cond (sin K c 0 1099) (cond (sfa2 3 (fun r2 k => cond (seqv K r2 r) (seqv K k n) false) fs) (sfa2 4 (fun r2 k => cond (seqv K r2 r) (seqv K k c) false) fs) false) false) false) fs) false) ms) false) false)) fs
def sdCpl (K : SK) (ms : List SM) (fs : List SFt) (r k : SE) : Bool := cond (sbeq k (sc 0)) true (sfa2 3 (fun r0 k0 => cond (seqv K r0 r) (cond (seqv K (saddc k0 1) k) (srw 40 (fun i v => cond (seqv K i (sadd (smul 12 r) k0)) (srw 40 (fun i2 v2 => cond (seqv K i2 (saddc k0 72)) (seqv K v v2) false) ms) false) ms) false) false) fs)
def sdCpc (K : SK) (ms : List SM) (fs : List SFt) (r k : SE) : Bool := cond (sbeq k (sc 0)) true (sfa2 4 (fun r0 k0 => cond (seqv K r0 r) (cond (seqv K (saddc k0 1) k) (cond (srw 41 (fun i v => cond (seqv K i (sadd (smul 1100 r) k0)) (srw 41 (fun i2 v2 => cond (seqv K i2 (saddc k0 6600)) (seqv K v v2) false) ms) false) ms) (srw 42 (fun i v => cond (seqv K i (sadd (smul 1100 r) k0)) (srw 42 (fun i2 v2 => cond (seqv K i2 (saddc k0 6600)) (seqv K v v2) false) ms) false) ms) false) false) false) fs)
def sdWft (K : SK) (ms : List SM) (fs : List SFt) (i h : SE) : Bool := cond (sbeq h (sc 0)) (sfa1 2 (fun x => cond (sbeq x (sc (-1))) (srw 37 (fun r n => cond (sin K r 0 5) (srw 40 (fun k v => cond (seqv K i (sadd (smul 1100 r) v)) (sent K (ssub k (smul 12 r)) && sent K (saddc (ssub (sadd (smul 12 r) n) k) (-1))) false) ms) false) ms) false) fs) false
def sdEs (K : SK) (ms : List SM) (fs : List SFt) (c n : SE) : Bool := cond (sbeq n (sc 0)) true (sfa2 7 (fun c0 n0 => cond (sent K (ssub c c0)) (cond (sent K (ssub n0 n)) true (cond (seqv K (saddc n0 1) n) (srw 104 (fun i v => cond (seqv K i n0) (sent K (ssub c v)) false) ms) false)) false) fs)
def sfd (K : SK) (ms : List SM) (fs : List SFt) (q : SFt) : Bool := cond (sany (fun p => Nat.beq p.1 q.1 && sall2 (seqv K) p.2 q.2) fs) true (match q.1, q.2 with
  | 0, [a, b] => cond (sent K a) (sdSeg K ms fs a b) false
  | 1, [c, n] => sdDr K ms fs c n
  | 2, [a] => sdGa K ms fs a
  | 3, [r, k] => sdCpl K ms fs r k
  | 4, [r, k] => sdCpc K ms fs r k
  | 5, [i, h] => sdWft K ms fs i h
  | 7, [c, n] => sdEs K ms fs c n
  | _, _ => false)
theorem bcond {a b : Bool} (h : cond a b false = true) : a = true ∧ b = true := by
  cases a with
  | true => exact ⟨rfl, h⟩
  | false => cases h
section SDF
variable {ρ : Nat → Int} {M : SMem} {K : SK} {ms : List SM} {fs : List SFt}
theorem sdSeg_ok (hK : sK ρ K) (hm : ∀ q ∈ ms, ∃ j i : Nat, (j : Int) = sev ρ q.2.1 ∧ (i : Int) = sev ρ q.2.2.1 ∧ M q.1 j i = sev ρ q.2.2.2) (hf : ∀ q ∈ fs, sfI q.1 (q.2.map (sev ρ)) M) {a b : SE} (ha : 0 ≤ sev ρ a) (h : sdSeg K ms fs a b = true) : sSeg M (sev ρ a) (sev ρ b) := by
  obtain ⟨i, c, i0, h1, h2, h3⟩ := srw_ok hm h
  obtain ⟨h1, h4⟩ := bcond h1
  have e1 := seqv_ok hK h1
  rw [saddc_ev] at e1
  cases c1 : sbeq c (sc 1) with
  | true =>
    rw [c1, cond_true] at h4
    have e2 := seqv_ok hK h4
    rw [saddc_ev] at e2
    rw [sbeq_ok c1, sev_c] at h3
    refine ⟨1, (sev ρ a).toNat, by omega, by omega, fun h => ?_⟩
    rw [crun_succ, show 6600 + (sev ρ a).toNat = i0 from by omega, h3]
    rfl
  | false =>
    rw [c1, cond_false] at h4
    cases c2 : sbeq c (sc 2) with
    | true =>
      rw [c2, cond_true] at h4
      obtain ⟨h4, h5⟩ := bcond h4
      have e2 := seqv_ok hK h4
      rw [saddc_ev] at e2
      rw [sbeq_ok c2, sev_c] at h3
      obtain ⟨i2, o, i3, k1, k2, k3⟩ := srw_ok hm h5
      obtain ⟨k1, k4⟩ := bcond k1
      have e3 := seqv_ok hK k1
      have e4 := sin_ok hK k4
      have e5 : i3 = i0 := by omega
      subst e5
      refine ⟨1, (sev ρ a).toNat, by omega, by omega, fun h => ?_⟩
      rw [crun_succ, show 6600 + (sev ρ a).toNat = i3 from by omega, h3, k3]
      unfold cstep
      rw [if_neg (by decide), if_pos rfl, if_pos e4]
      rfl
    | false =>
      rw [c2, cond_false] at h4
      cases c3 : sbeq c (sc 3) with
      | true =>
        rw [c3, cond_true] at h4
        rw [sbeq_ok c3, sev_c] at h3
        obtain ⟨x, y, k1, k2⟩ := sfa2_ok hf h4
        obtain ⟨k1, k3⟩ := bcond k1
        have e2 := seqv_ok hK k1
        have e3 := seqv_ok hK k3
        rw [saddc_ev] at e3
        obtain ⟨n, a', q1, q2, q3⟩ := (show sSeg M (sev ρ x) (sev ρ y) from k2)
        refine ⟨n + 1, a', by omega, by omega, fun h => ?_⟩
        rw [crun_app _ _ n 1 _ h _ (q3 h), crun_succ, show 6600 + a' + n = i0 from by omega, h3]
        unfold cstep
        rw [if_neg (by decide), if_neg (by decide), if_pos rfl, if_pos (by omega)]
        rfl
      | false =>
        rw [c3, cond_false] at h4
        obtain ⟨h4, h5⟩ := bcond h4
        simp only [Bool.and_eq_true] at h4
        have hc1 : 4 ≤ c.1 := of_decide_eq_true h4.2.1
        have hc2 : c.1 ≤ 10 := of_decide_eq_true h4.2.2
        rw [sisc_ok h4.1] at h3
        obtain ⟨x, y, k1, k2⟩ := sfa2_ok hf h5
        obtain ⟨k1, k3⟩ := bcond k1
        have e2 := seqv_ok hK k1
        obtain ⟨x2, y2, k4, k5⟩ := sfa2_ok hf k3
        obtain ⟨k4, k6⟩ := bcond k4
        have e3 := seqv_ok hK k4
        have e4 := seqv_ok hK k6
        rw [saddc_ev] at e4
        obtain ⟨n, a', q1, q2, q3⟩ := (show sSeg M (sev ρ x) (sev ρ y) from k2)
        obtain ⟨n2, a2, r1, r2, r3⟩ := (show sSeg M (sev ρ x2) (sev ρ y2) from k5)
        refine ⟨n + (n2 + 1), a', by omega, by omega, fun h => ?_⟩
        rw [crun_app _ _ n (n2 + 1) _ h _ (q3 h), show 6600 + a' + n = 6600 + a2 from by omega, crun_app _ _ n2 1 _ (h + 1) _ (r3 (h + 1)), crun_succ, show 6600 + a2 + n2 = i0 from by omega, h3]
        unfold cstep
        rw [if_neg (by omega), if_neg (by omega), if_neg (by omega), if_pos ⟨hc1, hc2⟩, if_pos (by omega)]
        rfl
theorem sdDr_ok (hK : sK ρ K) (hm : ∀ q ∈ ms, ∃ j i : Nat, (j : Int) = sev ρ q.2.1 ∧ (i : Int) = sev ρ q.2.2.1 ∧ M q.1 j i = sev ρ q.2.2.2) (hf : ∀ q ∈ fs, sfI q.1 (q.2.map (sev ρ)) M) {c n : SE} (h : sdDr K ms fs c n = true) : sDr M (sev ρ c) (sev ρ n) := by
  unfold sdDr at h
  cases c0 : sbeq n (sc 0) with
  | true =>
    rw [sbeq_ok c0, sev_c]
    intro k hk
    omega
  | false =>
    rw [c0, cond_false] at h
    obtain ⟨x, y, k1, k2⟩ := sfa2_ok hf h
    obtain ⟨k1, k3⟩ := bcond k1
    have e1 := sent_ok hK k1
    rw [ssub_ev] at e1
    have hd : sDr M (sev ρ x) (sev ρ y) := k2
    cases c1 : seqv K y n with
    | true =>
      have e2 := seqv_ok hK c1
      intro k hk
      obtain ⟨a, m, z, q1, q2, q3, q4⟩ := hd k (by omega)
      exact ⟨a, m, z, q1, q2, q3, by omega⟩
    | false =>
      rw [c1, cond_false] at k3
      obtain ⟨k3, k4⟩ := bcond k3
      have e2 := seqv_ok hK k3
      rw [saddc_ev] at e2
      obtain ⟨i, v, i0, l1, l2, l3⟩ := srw_ok hm k4
      obtain ⟨l1, l4⟩ := bcond l1
      have e3 := seqv_ok hK l1
      rw [saddc_ev] at e3
      obtain ⟨x2, y2, l5, l6⟩ := sfa2_ok hf l4
      obtain ⟨l5, l7⟩ := bcond l5
      have e4 := seqv_ok hK l5
      obtain ⟨i2, o, i3, l8, l9, l10⟩ := srw_ok hm l7
      obtain ⟨l8, l11⟩ := bcond l8
      obtain ⟨l11, l12⟩ := bcond l11
      have e5 := seqv_ok hK l11
      rw [saddc_ev] at e5
      have e6 := sent_ok hK l12
      rw [ssub_ev, saddc_ev] at e6
      rw [sbeq_ok l8, sev_c] at l10
      obtain ⟨nn, a', r1, r2, r3⟩ := (show sSeg M (sev ρ x2) (sev ρ y2) from l6)
      intro k hk
      by_cases hkk : (k : Int) < sev ρ y
      · obtain ⟨a, m, z, q1, q2, q3, q4⟩ := hd k hkk
        exact ⟨a, m, z, q1, q2, q3, by omega⟩
      · refine ⟨a', nn, 0 + 1, ?_, r3 0, ?_, by omega⟩
        · rw [show 72 + k = i0 from by omega, l3]
          omega
        · rw [show 6600 + a' + nn = i3 from by omega]
          exact l10
theorem sdGa_ok (hK : sK ρ K) (hm : ∀ q ∈ ms, ∃ j i : Nat, (j : Int) = sev ρ q.2.1 ∧ (i : Int) = sev ρ q.2.2.1 ∧ M q.1 j i = sev ρ q.2.2.2) (hf : ∀ q ∈ fs, sfI q.1 (q.2.map (sev ρ)) M) {a : SE} (h : sdGa K ms fs a = true) : sGa M (sev ρ a) := by
  obtain ⟨r, h1, h2⟩ := sfa1_ok hf h
  have hg : sGa M (sev ρ r) := h2
  cases c1 : sbeq r (sc (-1)) with
  | true =>
    rw [sbeq_ok c1, sev_c] at hg
    exact fun r hr _ => hg r hr (by omega)
  | false =>
    rw [c1, cond_false] at h1
    obtain ⟨h1, h3⟩ := bcond h1
    obtain ⟨h3, h4⟩ := bcond h3
    have e1 := sin_ok hK h3
    obtain ⟨i, n, i0, k1, k2, k3⟩ := srw_ok hm h4
    obtain ⟨k1, k4⟩ := bcond k1
    rw [Bool.and_eq_true] at k1
    have e2 := seqv_ok hK k1.1
    have e3 := sin_ok hK k1.2
    obtain ⟨c, n1, k5, k6⟩ := sfa2_ok hf k4
    obtain ⟨k5, k7⟩ := bcond k5
    obtain ⟨k7, k8⟩ := bcond k7
    obtain ⟨k8, k9⟩ := bcond k8
    have e4 := seqv_ok hK k5
    have e5 := sin_ok hK k7
    obtain ⟨r2, kk, l1, l2⟩ := sfa2_ok hf k8
    obtain ⟨l1, l3⟩ := bcond l1
    obtain ⟨r3, k3', m1, m2⟩ := sfa2_ok hf k9
    obtain ⟨m1, m3⟩ := bcond m1
    have f1 := seqv_ok hK l1
    have f2 := seqv_ok hK l3
    have f3 := seqv_ok hK m1
    have f4 := seqv_ok hK m3
    have hdr : sDr M (sev ρ c) (sev ρ n1) := k6
    have hcpl : sCpl M (sev ρ r2) (sev ρ kk) := l2
    have hcpc : sCpc M (sev ρ r3) (sev ρ k3') := m2
    intro q hq hx
    by_cases hqr : (q : Int) = sev ρ r
    · have ei : i0 = q := by omega
      subst ei
      unfold sG
      rw [k3]
      refine ⟨e3.2, fun k hk => ?_⟩
      obtain ⟨aa, m, x, q1, q2, q3, q4⟩ := hdr k (by omega)
      have g1 := hcpl i0 k (by omega) (by omega)
      refine ⟨aa, m, x, by rw [g1]; exact q1, ?_, ?_, by omega⟩
      · rw [← q2]
        refine crun_congr m _ _ 0 (fun j hj => ?_)
        have g2 := hcpc i0 (aa + j) (by omega) (by omega)
        rw [show 1100 * i0 + (aa + j) = 1100 * i0 + aa + j from by omega, show 6600 + (aa + j) = 6600 + aa + j from by omega] at g2
        exact g2
      · have g2 := (hcpc i0 (aa + m) (by omega) (by omega)).1
        rw [show 1100 * i0 + (aa + m) = 1100 * i0 + aa + m from by omega, show 6600 + (aa + m) = 6600 + aa + m from by omega] at g2
        rw [g2]
        exact q3
    · exact hg q hq hqr
theorem sdCpl_ok (hK : sK ρ K) (hm : ∀ q ∈ ms, ∃ j i : Nat, (j : Int) = sev ρ q.2.1 ∧ (i : Int) = sev ρ q.2.2.1 ∧ M q.1 j i = sev ρ q.2.2.2) (hf : ∀ q ∈ fs, sfI q.1 (q.2.map (sev ρ)) M) {r k : SE} (h : sdCpl K ms fs r k = true) : sCpl M (sev ρ r) (sev ρ k) := by
  unfold sdCpl at h
  cases c0 : sbeq k (sc 0) with
  | true =>
    rw [sbeq_ok c0, sev_c]
    intro r' j _ hj
    omega
  | false =>
    rw [c0, cond_false] at h
    obtain ⟨r0, k0, k1, k2⟩ := sfa2_ok hf h
    obtain ⟨k1, k3⟩ := bcond k1
    obtain ⟨k3, k4⟩ := bcond k3
    have e1 := seqv_ok hK k1
    have e2 := seqv_ok hK k3
    rw [saddc_ev] at e2
    obtain ⟨i, v, i0, l1, l2, l3⟩ := srw_ok hm k4
    obtain ⟨l1, l4⟩ := bcond l1
    have e3 := seqv_ok hK l1
    rw [sadd_ev, smul_ev] at e3
    obtain ⟨i2, v2, i3, l5, l6, l7⟩ := srw_ok hm l4
    obtain ⟨l5, l8⟩ := bcond l5
    have e4 := seqv_ok hK l5
    rw [saddc_ev] at e4
    have e5 := seqv_ok hK l8
    have hc : sCpl M (sev ρ r0) (sev ρ k0) := k2
    intro r' j hr hj
    by_cases hjj : (j : Int) < sev ρ k0
    · exact hc r' j (by omega) hjj
    · rw [show 12 * r' + j = i0 from by omega, show 72 + j = i3 from by omega, l3, l7, e5]
theorem sdCpc_ok (hK : sK ρ K) (hm : ∀ q ∈ ms, ∃ j i : Nat, (j : Int) = sev ρ q.2.1 ∧ (i : Int) = sev ρ q.2.2.1 ∧ M q.1 j i = sev ρ q.2.2.2) (hf : ∀ q ∈ fs, sfI q.1 (q.2.map (sev ρ)) M) {r k : SE} (h : sdCpc K ms fs r k = true) : sCpc M (sev ρ r) (sev ρ k) := by
  unfold sdCpc at h
  cases c0 : sbeq k (sc 0) with
  | true =>
    rw [sbeq_ok c0, sev_c]
    intro r' j _ hj
    omega
  | false =>
    rw [c0, cond_false] at h
    obtain ⟨r0, k0, k1, k2⟩ := sfa2_ok hf h
    obtain ⟨k1, k3⟩ := bcond k1
    obtain ⟨k3, k4⟩ := bcond k3
    obtain ⟨k4, k4'⟩ := bcond k4
    have e1 := seqv_ok hK k1
    have e2 := seqv_ok hK k3
    rw [saddc_ev] at e2
    obtain ⟨i, v, i0, l1, l2, l3⟩ := srw_ok hm k4
    obtain ⟨l1, l4⟩ := bcond l1
    have e3 := seqv_ok hK l1
    rw [sadd_ev, smul_ev] at e3
    obtain ⟨i2, v2, i3, l5, l6, l7⟩ := srw_ok hm l4
    obtain ⟨l5, l8⟩ := bcond l5
    have e4 := seqv_ok hK l5
    rw [saddc_ev] at e4
    have e5 := seqv_ok hK l8
    obtain ⟨i', v', i0', m1, m2, m3⟩ := srw_ok hm k4'
    obtain ⟨m1, m4⟩ := bcond m1
    have f3 := seqv_ok hK m1
    rw [sadd_ev, smul_ev] at f3
    obtain ⟨i2', v2', i3', m5, m6, m7⟩ := srw_ok hm m4
    obtain ⟨m5, m8⟩ := bcond m5
    have f4 := seqv_ok hK m5
    rw [saddc_ev] at f4
    have f5 := seqv_ok hK m8
    have hc : sCpc M (sev ρ r0) (sev ρ k0) := k2
    intro r' j hr hj
    by_cases hjj : (j : Int) < sev ρ k0
    · exact hc r' j (by omega) hjj
    · constructor
      · rw [show 1100 * r' + j = i0 from by omega, show 6600 + j = i3 from by omega, l3, l7, e5]
      · rw [show 1100 * r' + j = i0' from by omega, show 6600 + j = i3' from by omega, m3, m7, f5]
theorem sdWft_ok (hK : sK ρ K) (hm : ∀ q ∈ ms, ∃ j i : Nat, (j : Int) = sev ρ q.2.1 ∧ (i : Int) = sev ρ q.2.2.1 ∧ M q.1 j i = sev ρ q.2.2.2) (hf : ∀ q ∈ fs, sfI q.1 (q.2.map (sev ρ)) M) {i h : SE} (hh : sdWft K ms fs i h = true) : sWft M (sev ρ i) (sev ρ h) := by
  unfold sdWft at hh
  obtain ⟨c0, hh⟩ := bcond hh
  rw [sbeq_ok c0, sev_c]
  obtain ⟨x, k1, k2⟩ := sfa1_ok hf hh
  obtain ⟨k1, k3⟩ := bcond k1
  have hg : sGa M (sev ρ x) := k2
  rw [sbeq_ok k1, sev_c] at hg
  obtain ⟨r, n, r0, l1, l2, l3⟩ := srw_ok hm k3
  obtain ⟨l1, l4⟩ := bcond l1
  have e1 := sin_ok hK l1
  obtain ⟨k, v, k0, l5, l6, l7⟩ := srw_ok hm l4
  obtain ⟨l5, l8⟩ := bcond l5
  rw [Bool.and_eq_true] at l8
  have e2 := seqv_ok hK l5
  rw [sadd_ev, smul_ev] at e2
  have e3 := sent_ok hK l8.1
  rw [ssub_ev, smul_ev] at e3
  have e4 := sent_ok hK l8.2
  rw [saddc_ev, ssub_ev, sadd_ev, smul_ev] at e4
  obtain ⟨g1, g2⟩ := hg r0 (by omega) (by omega)
  obtain ⟨a, m, y, q1, q2, q3, q4⟩ := g2 (k0 - 12 * r0) (by rw [l3]; omega)
  rw [show 12 * r0 + (k0 - 12 * r0) = k0 from by omega, l7] at q1
  exact ⟨1100 * r0 + a, 0, m, y, by omega, rfl, q2, q3, by omega, by omega⟩
theorem sdEs_ok (hK : sK ρ K) (hm : ∀ q ∈ ms, ∃ j i : Nat, (j : Int) = sev ρ q.2.1 ∧ (i : Int) = sev ρ q.2.2.1 ∧ M q.1 j i = sev ρ q.2.2.2) (hf : ∀ q ∈ fs, sfI q.1 (q.2.map (sev ρ)) M) {c n : SE} (h : sdEs K ms fs c n = true) : sEs M (sev ρ c) (sev ρ n) := by
  unfold sdEs at h
  cases c0 : sbeq n (sc 0) with
  | true =>
    rw [sbeq_ok c0, sev_c]
    intro l hl
    omega
  | false =>
    rw [c0, cond_false] at h
    obtain ⟨x, y, k1, k2⟩ := sfa2_ok hf h
    obtain ⟨k1, k3⟩ := bcond k1
    have e1 := sent_ok hK k1
    rw [ssub_ev] at e1
    have hd : sEs M (sev ρ x) (sev ρ y) := k2
    cases c1 : sent K (ssub y n) with
    | true =>
      have e2 := sent_ok hK c1
      rw [ssub_ev] at e2
      intro l hl
      have := hd l (by omega)
      omega
    | false =>
      rw [c1, cond_false] at k3
      obtain ⟨k3, k4⟩ := bcond k3
      have e2 := seqv_ok hK k3
      rw [saddc_ev] at e2
      obtain ⟨i, v, i0, l1, l2, l3⟩ := srw_ok hm k4
      obtain ⟨l1, l4⟩ := bcond l1
      have e3 := seqv_ok hK l1
      have e4 := sent_ok hK l4
      rw [ssub_ev] at e4
      intro l hl
      by_cases hll : (l : Int) < sev ρ y
      · have := hd l hll
        omega
      · rw [show l = i0 from by omega, l3]
        omega
end SDF
