/-! rows of objects, fields, lengths; numbers written -/
def skd (kd : Nat) (K : SK) (e : SE) : Bool := match kd with
  | 0 => true
  | 1 => sin K e 0 1
  | 2 => sin K e 0 65535
  | 3 => true
  | _ => false
def sckD (K : SK) (i v : SE) : SX := sres K i (fun e _ => cond (((sdis K e (sc 0) || sin K v 0 0) && ((sdis K e (sc 1) || sin K v 1 2) && (sdis K e (sc 2) || sin K v 3 4))) && ((sdis K e (sc 3) || sin K v 1 2) && ((sdis K e (sc 4) || sin K v 3 4) && (sdis K e (sc 5) || sin K v 1 2)))) (some []) none) none
def sckN (K : SK) (i v : SE) : SX := cond (sent K v) (some []) (sres K i (fun e _ => cond (sent K (saddc e (-1))) (some []) none) none)
def sckC (K : SK) (ms : List SM) (i v : SE) : Bool := cond (sin K v 0 0) true (match smf ms 27 (sc 0) i with
  | some o => cond (sent K (ssub o v)) true (cond (sent K (ssub (saddc o 1) v) && sent K (ssub v (saddc o 1))) (cond (sent K (sneg o)) true (match smf ms 29 (sc 0) (sadd (smul 6 i) o) with
    | some d => sent K (saddc d (-1))
    | none => false)) false)
  | none => false)
/-- what must hold of a number that is written, beyond its bounds -/
def sckx (w : SW) (f : Nat) (i v : SE) (k : SX) : SX := cond (Nat.beq f 29) (sapp (sckD w.2.2.1 i v) k) (cond (Nat.beq f 50) (sapp (sckN w.2.2.1 i v) k) (cond (Nat.beq f 27) (cond (sckC w.2.2.1 w.1.1 i v) k none) k))
theorem sX_other {M : SMem} {f j i : Nat} {v : Int} (h : sX M) (h1 : f ≠ 29) (h2 : f ≠ 50) (h3 : f ≠ 27) : sX (supd M f j i v) := by
  unfold sX
  rw [supd_ff (fun q => h1 q.symm), supd_ff (fun q => h2 q.symm), supd_ff (fun q => h3 q.symm)]
  exact h
theorem sckx_ok {ρ : Nat → Int} {M : SMem} {w : SW} {f jn i0 : Nat} {i v : SE} {k : SX} {xs : List SS} {fI : Nat → List Int → SMem → Prop} (hK : sK ρ w.2.2.1) (hm : smo fI ρ M w.1) (hX : sX M) (h1 : f = 27 ∨ f = 29 ∨ f = 50 → jn = 0) (hi : (i0 : Int) = sev ρ i) (h : sub (sckx w f i v k) xs) : sX (supd M f jn i0 (sev ρ v)) ∧ sub k xs := by
  unfold sckx at h
  cases c1 : Nat.beq f 29 with
  | true =>
    cases Nat.beq_eq.mp c1
    cases h1 (Or.inr (Or.inl rfl))
    simp only [c1, cond_true] at h
    obtain ⟨h2, h3⟩ := sub_app h
    refine ⟨?_, h3⟩
    unfold sckD at h2
    rcases sres_ok hK h2 with ⟨e, P, e1, e2, e3, h4⟩ | h4
    · obtain ⟨h5, -⟩ := sub_cond h4
      simp only [Bool.and_eq_true, Bool.or_eq_true] at h5
      obtain ⟨⟨d0, d1, d2⟩, d3, d4, d5⟩ := h5
      have hv : (sev ρ e = 0 ∧ sev ρ v = 0) ∨ (sev ρ e = 1 ∧ 1 ≤ sev ρ v ∧ sev ρ v ≤ 2) ∨ (sev ρ e = 2 ∧ 3 ≤ sev ρ v ∧ sev ρ v ≤ 4) ∨ (sev ρ e = 3 ∧ 1 ≤ sev ρ v ∧ sev ρ v ≤ 2) ∨ (sev ρ e = 4 ∧ 3 ≤ sev ρ v ∧ sev ρ v ≤ 4) ∨ (sev ρ e = 5 ∧ 1 ≤ sev ρ v ∧ sev ρ v ≤ 2) := by
        have c6 : sev ρ e = 0 ∨ sev ρ e = 1 ∨ sev ρ e = 2 ∨ sev ρ e = 3 ∨ sev ρ e = 4 ∨ sev ρ e = 5 := by omega
        rcases c6 with c | c | c | c | c | c
        · rcases d0 with d | d
          · exact absurd c (by have := sdis_ok hK d; rw [sev_c] at this; exact this)
          · have := sin_ok hK d; omega
        · rcases d1 with d | d
          · exact absurd c (by have := sdis_ok hK d; rw [sev_c] at this; exact this)
          · have := sin_ok hK d; omega
        · rcases d2 with d | d
          · exact absurd c (by have := sdis_ok hK d; rw [sev_c] at this; exact this)
          · have := sin_ok hK d; omega
        · rcases d3 with d | d
          · exact absurd c (by have := sdis_ok hK d; rw [sev_c] at this; exact this)
          · have := sin_ok hK d; omega
        · rcases d4 with d | d
          · exact absurd c (by have := sdis_ok hK d; rw [sev_c] at this; exact this)
          · have := sin_ok hK d; omega
        · rcases d5 with d | d
          · exact absurd c (by have := sdis_ok hK d; rw [sev_c] at this; exact this)
          · have := sin_ok hK d; omega
      refine ⟨fun i' => ?_, fun p q hq hq6 hc => ?_, fun p => ?_⟩
      · by_cases hii : i' = i0
        · subst hii
          rw [supd_at]
          unfold sD1
          omega
        · rw [supd_i hii]
          exact hX.1 i'
      · rw [supd_f (by decide)] at hc
        by_cases hii : 6 * p + q = i0
        · rw [hii, supd_at]
          omega
        · rw [supd_i hii]
          exact hX.2.1 p q hq hq6 hc
      · rw [supd_f (by decide)]
        exact hX.2.2 p
    · exact (sub_none h4).elim
  | false =>
    simp only [c1, cond_false] at h
    cases c2 : Nat.beq f 50 with
    | true =>
      cases Nat.beq_eq.mp c2
      cases h1 (Or.inr (Or.inr rfl))
      simp only [c2, cond_true] at h
      obtain ⟨h2, h3⟩ := sub_app h
      refine ⟨?_, h3⟩
      have hv : i0 % 6 ≠ 0 ∨ 0 ≤ sev ρ v := by
        unfold sckN at h2
        cases c4 : sent w.2.2.1 v with
        | true => exact Or.inr (sent_ok hK c4)
        | false =>
          rw [c4, cond_false] at h2
          rcases sres_ok hK h2 with ⟨e, P, e1, e2, e3, h4⟩ | h4
          · obtain ⟨h5, -⟩ := sub_cond h4
            have := sent_ok hK h5
            rw [saddc_ev] at this
            exact Or.inl (by omega)
          · exact (sub_none h4).elim
      refine ⟨fun i' => ?_, fun p q hq hq6 hc => ?_, fun p => ?_⟩
      · rw [supd_f (by decide)]
        exact hX.1 i'
      · rw [supd_f (by decide)] at hc ⊢
        exact hX.2.1 p q hq hq6 hc
      · by_cases hii : 6 * p = i0
        · rw [hii, supd_at]
          omega
        · rw [supd_i hii]
          exact hX.2.2 p
    | false =>
      simp only [c2, cond_false] at h
      cases c3 : Nat.beq f 27 with
      | true =>
        cases Nat.beq_eq.mp c3
        cases h1 (Or.inl rfl)
        simp only [c3, cond_true] at h
        obtain ⟨h2, h3⟩ := sub_cond h
        refine ⟨⟨fun i' => ?_, fun p q hq hq6 hc => ?_, fun p => ?_⟩, h3⟩
        · rw [supd_f (by decide)]
          exact hX.1 i'
        · rw [supd_f (by decide)]
          by_cases hii : p = i0
          · subst hii
            rw [supd_at] at hc
            unfold sckC at h2
            cases c4 : sin w.2.2.1 v 0 0 with
            | true =>
              have := sin_ok hK c4
              omega
            | false =>
              rw [c4, cond_false] at h2
              cases c5 : smf w.1.1 27 (sc 0) i with
              | none => rw [c5] at h2; cases h2
              | some o =>
                rw [c5] at h2
                simp only at h2
                have ho := smf_ok (jn := 0) (i0 := p) hm c5 (by rw [sev_c]; rfl) hi
                cases c6 : sent w.2.2.1 (ssub o v) with
                | true =>
                  have := sent_ok hK c6
                  rw [ssub_ev] at this
                  exact hX.2.1 p q hq hq6 (by rw [ho]; omega)
                | false =>
                  rw [c6, cond_false] at h2
                  cases c7 : (sent w.2.2.1 (ssub (saddc o 1) v) && sent w.2.2.1 (ssub v (saddc o 1))) with
                  | false => rw [c7] at h2; cases h2
                  | true =>
                    rw [c7, cond_true] at h2
                    rw [Bool.and_eq_true] at c7
                    have e1 := sent_ok hK c7.1
                    have e2 := sent_ok hK c7.2
                    rw [ssub_ev, saddc_ev] at e1 e2
                    by_cases hqo : (q : Int) < sev ρ o
                    · exact hX.2.1 p q hq hq6 (by rw [ho]; exact hqo)
                    · cases c8 : sent w.2.2.1 (sneg o) with
                      | true =>
                        have := sent_ok hK c8
                        rw [sneg_ev] at this
                        omega
                      | false =>
                        rw [c8, cond_false] at h2
                        cases c9 : smf w.1.1 29 (sc 0) (sadd (smul 6 i) o) with
                        | none => rw [c9] at h2; cases h2
                        | some d =>
                          rw [c9] at h2
                          have h10 := sent_ok hK h2
                          rw [saddc_ev] at h10
                          have h11 := smf_ok (jn := 0) (i0 := 6 * p + q) hm c9 (by rw [sev_c]; rfl) (by rw [sadd_ev, smul_ev]; omega)
                          rw [h11]
                          omega
          · rw [supd_i hii] at hc
            exact hX.2.1 p q hq hq6 hc
        · rw [supd_f (by decide)]
          exact hX.2.2 p
      | false =>
        simp only [c3, cond_false] at h
        exact ⟨sX_other hX (fun q => by rw [q] at c1; cases c1) (fun q => by rw [q] at c2; cases c2) (fun q => by rw [q] at c3; cases c3), h⟩
/-! facts over a number that is written -/
def sgbl (f : Nat) : Option Int := cond (Nat.beq f 37) (some 1) (cond (Nat.beq f 40) (some 12) (cond (Nat.beq f 41 || Nat.beq f 42) (some 1100) none))
def sfdj (K : SK) (f : Nat) (i : SE) (q : Nat × SE × SE) : Bool := cond (Nat.beq q.1 f) (cond (sent K (ssub i q.2.2)) true (sent K (saddc (ssub q.2.1 i) (-1)))) true
def sfgb (K : SK) (i x : SE) (b : Int) : List SFt := cond (sent K (ssub i (smul b x)) && sent K (ssub (saddc (smul b x) (b - 1)) i)) [(2, [x])] []
def sfst (K : SK) (f : Nat) (i : SE) (q : SFt) : List SFt := cond (sall (sfdj K f i) (sfde q.1 q.2)) [q] (cond (Nat.beq q.1 2) (match q.2, sgbl f with
  | [x], some b => cond (sbeq x (sc (-1))) (cond (Nat.beq f 37) (sfgb K i i 1) []) (sfgb K i x b)
  | _, _ => []) [])
theorem sfgb_ok {ρ : Nat → Int} {K : SK} (hK : sK ρ K) {M : SMem} {f jn i0 : Nat} {i x : SE} {b v : Int} (hb : sgbl f = some b) (hi : (i0 : Int) = sev ρ i) (h : sGa M (sev ρ x)) : ∀ q' ∈ sfgb K i x b, sfI q'.1 (q'.2.map (sev ρ)) (supd M f jn i0 v) := by
  intro q' hq
  unfold sfgb at hq
  cases hc : (sent K (ssub i (smul b x)) && sent K (ssub (saddc (smul b x) (b - 1)) i)) with
  | false => rw [hc] at hq; cases hq
  | true =>
    rw [hc, cond_true] at hq
    rw [List.mem_singleton.mp hq]
    rw [Bool.and_eq_true] at hc
    have h1 := sent_ok hK hc.1
    have h2 := sent_ok hK hc.2
    rw [ssub_ev, smul_ev] at h1
    rw [ssub_ev, saddc_ev, smul_ev] at h2
    refine (show sGa (supd M f jn i0 v) (sev ρ x) from fun r hr hx => ?_)
    obtain ⟨g1, g2⟩ := h r hr hx
    unfold sgbl at hb
    by_cases h37 : f = 37
    · subst h37
      cases hb
      have e37 : supd M 37 jn i0 v 37 0 r = M 37 0 r := supd_i (by omega)
      unfold sG
      rw [e37, supd_ff (by decide), supd_ff (by decide), supd_ff (by decide)]
      exact ⟨g1, g2⟩
    · by_cases h40 : f = 40
      · subst h40
        cases hb
        unfold sG
        rw [supd_ff (f' := 37) (by decide), supd_ff (f' := 41) (by decide), supd_ff (f' := 42) (by decide)]
        refine ⟨g1, fun k hk => ?_⟩
        obtain ⟨a, m, y, k1, k2, k3, k4⟩ := g2 k hk
        exact ⟨a, m, y, by rw [supd_i (by omega)]; exact k1, k2, k3, k4⟩
      · by_cases h41 : f = 41
        · subst h41
          cases hb
          unfold sG
          rw [supd_ff (f' := 37) (by decide), supd_ff (f' := 40) (by decide), supd_ff (f' := 42) (by decide)]
          refine ⟨g1, fun k hk => ?_⟩
          obtain ⟨a, m, y, k1, k2, k3, k4⟩ := g2 k hk
          refine ⟨a, m, y, k1, ?_, by rw [supd_i (by omega)]; exact k3, k4⟩
          rw [← k2]
          exact crun_congr m _ _ 0 (fun j hj => ⟨supd_i (by omega), rfl⟩)
        · by_cases h42 : f = 42
          · subst h42
            cases hb
            unfold sG
            rw [supd_ff (f' := 37) (by decide), supd_ff (f' := 40) (by decide), supd_ff (f' := 41) (by decide)]
            refine ⟨g1, fun k hk => ?_⟩
            obtain ⟨a, m, y, k1, k2, k3, k4⟩ := g2 k hk
            refine ⟨a, m, y, k1, ?_, k3, k4⟩
            rw [← k2]
            exact crun_congr m _ _ 0 (fun j hj => ⟨rfl, supd_i (by omega)⟩)
          · have z1 : Nat.beq f 37 = false := by cases hz : Nat.beq f 37 with | true => exact absurd (Nat.beq_eq.mp hz) h37 | false => rfl
            have z2 : Nat.beq f 40 = false := by cases hz : Nat.beq f 40 with | true => exact absurd (Nat.beq_eq.mp hz) h40 | false => rfl
            have z3 : Nat.beq f 41 = false := by cases hz : Nat.beq f 41 with | true => exact absurd (Nat.beq_eq.mp hz) h41 | false => rfl
            have z4 : Nat.beq f 42 = false := by cases hz : Nat.beq f 42 with | true => exact absurd (Nat.beq_eq.mp hz) h42 | false => rfl
            rw [z1, z2, z3, z4] at hb
            cases hb
theorem sfst_ok {ρ : Nat → Int} {K : SK} (hK : sK ρ K) {M : SMem} {f jn i0 : Nat} {i : SE} {v : Int} (hi : (i0 : Int) = sev ρ i) {q : SFt} (h : sfI q.1 (q.2.map (sev ρ)) M) : ∀ q' ∈ sfst K f i q, sfI q'.1 (q'.2.map (sev ρ)) (supd M f jn i0 v) := by
  intro q' hq
  unfold sfst at hq
  cases hc : sall (sfdj K f i) (sfde q.1 q.2) with
  | true =>
    rw [hc, cond_true] at hq
    rw [List.mem_singleton.mp hq]
    refine sfI_congr (fun d hd j' i' h1 h2 => ?_) h
    rw [← sfde_ev ρ q.1 q.2] at hd
    obtain ⟨dd, hd1, rfl⟩ := List.mem_map.mp hd
    have h3 := sall_ok hc dd hd1
    unfold sfdj at h3
    cases hb : Nat.beq dd.1 f with
    | false => exact supd_f (fun e => by rw [Nat.beq_eq.mpr e] at hb; cases hb)
    | true =>
      rw [hb, cond_true] at h3
      simp only at h1 h2
      cases hs : sent K (ssub i dd.2.2) with
      | true =>
        have := sent_ok hK hs
        rw [ssub_ev] at this
        exact supd_i (by omega)
      | false =>
        rw [hs, cond_false] at h3
        have := sent_ok hK h3
        rw [saddc_ev, ssub_ev] at this
        exact supd_i (by omega)
  | false =>
    rw [hc, cond_false] at hq
    obtain ⟨q1, q2⟩ := q
    cases hb : Nat.beq q1 2 with
    | false => simp only [hb, cond_false] at hq; cases hq
    | true =>
      simp only [hb, cond_true] at hq
      cases Nat.beq_eq.mp hb
      match q2, h, hq with
      | [], h, hq => cases hq
      | _ :: _ :: _, h, hq => cases hq
      | [x], h, hq9 =>
        have hg : sGa M (sev ρ x) := h
        cases hs : sgbl f with
        | none => rw [hs] at hq9; cases hq9
        | some b =>
          rw [hs] at hq9
          simp only at hq9
          cases hx : sbeq x (sc (-1)) with
          | false =>
            rw [hx, cond_false] at hq9
            exact sfgb_ok hK hs hi hg q' hq9
          | true =>
            rw [hx, cond_true] at hq9
            cases h37 : Nat.beq f 37 with
            | false => rw [h37] at hq9; cases hq9
            | true =>
              rw [h37, cond_true] at hq9
              cases Nat.beq_eq.mp h37
              refine sfgb_ok hK rfl hi (fun r hr _ => hg r hr ?_) q' hq9
              rw [sbeq_ok hx, sev_c]
              omega
