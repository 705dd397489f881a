/-! numbers of the heap read -/
def smm (w : SW) (f : Nat) (j i v : SE) : SW := (((f, j, i, v) :: w.1.1, w.1.2), w.2)
def sldk (rg : SRg) (f cn : Nat) (j i : SE) (lv : SL) (st : List SV) (w : SW) (k : SE → SW → SX) : SX := match smf w.1.1 f j i with
  | some v => k v w
  | none => (match srg rg f cn with
    | some q => cond (decide (q.1 = q.2)) (k (sc q.1) (smm w f j i (sc q.1))) (snew lv st w q.1 q.2 (fun e w => k e (smm w f j i e)))
    | none => none)
/-- an index by sixes -/
def sres (K : SK) (i : SE) (k : SE → SE → SX) (kn : SX) : SX := sfe (i.1 % 6, i.2.filter (fun q => !(decide (q.2 % 6 = 0)))) (fun e => sfe (i.1 / 6, (i.2.filter (fun q => decide (q.2 % 6 = 0))).map (fun q => (q.1, q.2 / 6))) (fun P => cond (sin K e 0 5) (cond (sbeq (sadd (smul 6 P) e) i) (k e P) none)
  (sfe (saddc e (-6)) (fun e => sfe (saddc P 1) (fun P => cond (sin K e 0 5) (cond (sbeq (sadd (smul 6 P) e) i) (k e P) none) kn)))))
theorem sres_ok {ρ : Nat → Int} {K : SK} (hK : sK ρ K) {i : SE} {k : SE → SE → SX} {kn : SX} {xs : List SS} (h : sub (sres K i k kn) xs) : (∃ e P, sev ρ i = 6 * sev ρ P + sev ρ e ∧ 0 ≤ sev ρ e ∧ sev ρ e ≤ 5 ∧ sub (k e P) xs) ∨ sub kn xs := by
  unfold sres at h
  rw [sfe_eq, sfe_eq] at h
  generalize (i.1 % 6, i.2.filter (fun q => !(decide (q.2 % 6 = 0)))) = e at h
  generalize (i.1 / 6, (i.2.filter (fun q => decide (q.2 % 6 = 0))).map (fun q => (q.1, q.2 / 6))) = P at h
  cases h1 : sin K e 0 5 with
  | true =>
    rw [h1, cond_true] at h
    obtain ⟨h2, h3⟩ := sub_cond h
    have h4 := sin_ok hK h1
    refine Or.inl ⟨e, P, ?_, h4.1, h4.2, h3⟩
    rw [← sbeq_ok h2, sadd_ev, smul_ev]
  | false =>
    rw [h1, cond_false, sfe_eq, sfe_eq] at h
    generalize saddc e (-6) = e at h
    generalize saddc P 1 = P at h
    cases h1 : sin K e 0 5 with
    | true =>
      rw [h1, cond_true] at h
      obtain ⟨h2, h3⟩ := sub_cond h
      have h4 := sin_ok hK h1
      refine Or.inl ⟨e, P, ?_, h4.1, h4.2, h3⟩
      rw [← sbeq_ok h2, sadd_ev, smul_ev]
    | false =>
      rw [h1, cond_false] at h
      exact Or.inr h
def sgd (ms : List SM) (P : SE) (q : Int) (K : SK) : Bool := match smf ms 27 (sc 0) P with
  | some c => sent K (saddc c (-(q + 1)))
  | none => false
def sldDq (j i P : SE) (q lo hi : Int) (lv : SL) (st : List SV) (w : SW) (k : SE → SW → SX) (K : SK) : SX := sapp (cond (sgd w.1.1 P q K) (some []) (k (sc 0) (smm (swK w K) 29 j i (sc 0)))) (snew lv st (swK w K) lo hi (fun e w => k e (smm w 29 j i e)))
def sldD (rg : SRg) (j i : SE) (lv : SL) (st : List SV) (w : SW) (k : SE → SW → SX) : SX := sres w.2.2.1 i (fun e P => sapp (seq0 w.2.2.1 e (fun K => k (sc 0) (smm (swK w K) 29 j i (sc 0)))) (sapp (seq0 w.2.2.1 (saddc e (-1)) (sldDq j i P 1 1 2 lv st w k)) (sapp (seq0 w.2.2.1 (saddc e (-2)) (sldDq j i P 2 3 4 lv st w k)) (sapp (seq0 w.2.2.1 (saddc e (-3)) (sldDq j i P 3 1 2 lv st w k)) (sapp (seq0 w.2.2.1 (saddc e (-4)) (sldDq j i P 4 3 4 lv st w k)) (seq0 w.2.2.1 (saddc e (-5)) (sldDq j i P 5 1 2 lv st w k))))))) (sldk rg 29 0 j i lv st w k)
def sldN (rg : SRg) (j i : SE) (lv : SL) (st : List SV) (w : SW) (k : SE → SW → SX) : SX := sres w.2.2.1 i (fun e _ => sapp (seq0 w.2.2.1 e (fun K => snew lv st (swK w K) 0 7 (fun e w => k e (smm w 50 j i e)))) (sge w.2.2.1 (saddc e (-1)) (fun K => snew lv st (swK w K) (-1) 7 (fun e w => k e (smm w 50 j i e))))) (sldk rg 50 0 j i lv st w k)
/-- codes that run -/
def swf (K : SK) (i : SE) : List SFt → Option SE
  | [] => none
  | q :: r => cond (Nat.beq q.1 5) (match q.2 with
    | [a, h] => cond (sent K (ssub a i) && sent K (ssub i a)) (some h) (swf K i r)
    | _ => swf K i r) (swf K i r)
def swn (w : SW) (K : SK) (i h : SE) : SW := ((w.1.1, (5, [i, h]) :: w.1.2.filter (fun q => !(Nat.beq q.1 5))), w.2.1, K, w.2.2.2)
def sldOh (j i h : SE) (lv : SL) (st : List SV) (w : SW) (k : SE → SW → SX) : SX := sfe (saddc i 1) (fun i1 => sfe (saddc h 1) (fun h1 => sfe (saddc h (-1)) (fun h2 =>
  sapp (k (sc 0) (smm w 41 j i (sc 0))) (sapp (sge w.2.2.1 (ssub (sc 1098) h) (fun K => sge K (ssub (sc 7698) i) (fun K => k (sc 1) (smm (swn w K i1 h1) 41 j i (sc 1))))) (sapp (sge w.2.2.1 (ssub (sc 1098) h) (fun K => sge K (ssub (sc 7698) i) (fun K => snew lv ((0, 0, j) :: (0, 0, i) :: st) (swn w K i1 h1) 0 6 (fun e w => k (sc 2) (smm (smm w 42 j i e) 41 j i (sc 2)))))) (sapp (sge w.2.2.1 (saddc h (-1)) (fun K => sge K (ssub (sc 7698) i) (fun K => k (sc 3) (smm (swn w K i1 h) 41 j i (sc 3))))) (sge w.2.2.1 (saddc h (-2)) (fun K => sge K (ssub (sc 7698) i) (fun K => snew lv ((0, 0, j) :: (0, 0, i) :: st) (swn w K i1 h2) 4 10 (fun e w => k e (smm w 41 j i e))))))))))) 
def sldO (rg : SRg) (j i : SE) (lv : SL) (st : List SV) (w : SW) (k : SE → SW → SX) : SX := match swf w.2.2.1 i w.1.2 with
  | some h => sldOh j i h lv st w k
  | none => sldk rg 41 0 j i lv st w k
def shas6 (fs : List SFt) : Bool := sany (fun q => Nat.beq q.1 6) fs
/-- where a line of an order ends -/
def sldU (rg : SRg) (j i : SE) (lv : SL) (st : List SV) (w : SW) (k : SE → SW → SX) : SX := sldk rg 99 0 j i lv st w (fun v w => cond (shas6 w.1.2 && sin w.2.2.1 i 0 11) (match smf w.1.1 74 j (sc 0) with
  | some n => cond (sent w.2.2.1 (saddc (ssub n i) (-1))) (match smf w.1.1 99 j i with
    | some v => sldk rg 106 0 j (sc 0) lv st w (fun L w => cond (sent w.2.2.1 (ssub L v)) (k v w) (sfK (sput w.2.2.1 (ssub L v)) (fun K => k v (swK w K))))
    | none => none) (k v w)
  | none => k v w) (k v w))
def sldx (rg : SRg) (f cn : Nat) (j i : SE) (lv : SL) (st : List SV) (w : SW) (k : SE → SW → SX) : SX := match smf w.1.1 f j i with
  | some v => cond (Nat.beq f 99) (sldU rg j i lv st w k) (k v w)
  | none => cond (Nat.beq f 29) (sldD rg j i lv st w k) (cond (Nat.beq f 50) (sldN rg j i lv st w k) (cond (Nat.beq f 41) (sldO rg j i lv st w k) (cond (Nat.beq f 99) (sldU rg j i lv st w k) (sldk rg f cn j i lv st w k))))
section SLD
variable {p : Program} {l : Launch} {e : Env} {R : Room} {s : State} {m : MethodId} {args : Array Value} {below : List Frame} {meth : Method} {c : Code} {Q : State → Prop} {dC : Nat → ClassId} {dI : Nat → Nat → Nat} {cA : Nat → ClassId} {A : Nat → Prop} {nL : Nat} {fm : List SF} {rg : SRg} {wr : SWr} {scr n0 : Nat} {ρ0 : Nat → Int} {M0 : SMem} {ad0 : SAd} {nc0 ns0 : Nat} {cc : ByteArray} {pc : Nat} {lv : SL} {st : List SV} {w : SW} {ret : SRt} {xs : List SS} {own : String}
variable {ρ : Nat → Int} {M : SMem} {ad : SAd} {ws : va_W} {H : Heap} {locs : List Loc} {ls : Array Slot} {clv : ZL} {cst : List Value} {f cn jn i0 : Nat} {j i : SE} {k : SE → SW → SX}
theorem srel_memo (hr : sRel fm rg sX sfI wr scr n0 ρ0 M0 ad0 dC dI cA A s.heap nL lv st w ρ M ad ws H locs ls clv cst) {v : SE} (hj : (jn : Int) = sev ρ j) (hi : (i0 : Int) = sev ρ i) (hv : M f jn i0 = sev ρ v) : sRel fm rg sX sfI wr scr n0 ρ0 M0 ad0 dC dI cA A s.heap nL lv st (smm w f j i v) ρ M ad ws H locs ls clv cst := by
  obtain ⟨⟨ag, hn, hK⟩, ⟨r1, hI, hmo, hfr⟩, rr⟩ := hr
  refine ⟨⟨ag, hn, hK⟩, ⟨r1, hI, ⟨fun q hq => ?_, hmo.2⟩, hfr⟩, rr⟩
  rcases List.mem_cons.mp hq with rfl | hq
  · exact ⟨jn, i0, hj, hi, hv⟩
  · exact hmo.1 q hq
theorem sbS_st {n : Nat} (h : sbS n lv st w = true) : sall (fun v => sbe n v.2.2) st = true := by
  simp only [sbS, Bool.and_eq_true] at h
  exact h.2.1
theorem sbS_ms {n : Nat} (h : sbS n lv st w = true) : sall (sbM n) w.1.1 = true := by
  simp only [sbS, sbW, Bool.and_eq_true] at h
  exact h.2.2.1
/-- a number that is new, kept as a memo -/
theorem snew_memo {z : Int} (hr : sRel fm rg sX sfI wr scr n0 ρ0 M0 ad0 dC dI cA A s.heap nL lv st w ρ M ad ws H locs ls clv cst) (hb : (∀ n, sall (fun v => sbe n v.2.2) st = true → sbe n j = true ∧ sbe n i = true)) {lo hi : Int} (hj : (jn : Int) = sev ρ j) (hi0 : (i0 : Int) = sev ρ i) (hz : M f jn i0 = z) (h1 : lo ≤ z) (h2 : z ≤ hi) (h : sub (snew lv st w lo hi (fun e w => k e (smm w f j i e))) xs) : ∃ (ρ' : Nat → Int) (e' : SE) (w' : SW), z = sev ρ' e' ∧ sRel fm rg sX sfI wr scr n0 ρ0 M0 ad0 dC dI cA A s.heap nL lv st w' ρ' M ad ws H locs ls clv cst ∧ sub (k e' w') xs ∧ w'.2.2.2 = w.2.2.2 ∧ ∀ e, (∀ n, sall (fun v => sbe n v.2.2) st = true → sall (sbM n) w.1.1 = true → sbe n e = true) → sev ρ' e = sev ρ e := by
  obtain ⟨ρ', ha, hS, h3, h4, h5⟩ := snew_ok hr h1 h2 h
  obtain ⟨b1, b2⟩ := hb _ (sbS_st hS)
  exact ⟨ρ', _, _, h3.symm, srel_memo h4 (by rw [sbe_ev ha b1]; exact hj) (by rw [sbe_ev ha b2]; exact hi0) (hz.trans h3.symm), h5, rfl, fun e he => sbe_ev ha (he _ (sbS_st hS) (sbS_ms hS))⟩
theorem sknow_memo {z : Int} (hr : sRel fm rg sX sfI wr scr n0 ρ0 M0 ad0 dC dI cA A s.heap nL lv st w ρ M ad ws H locs ls clv cst) {v : SE} {w' : SW} (hj : (jn : Int) = sev ρ j) (hi0 : (i0 : Int) = sev ρ i) (hz : M f jn i0 = z) (hv : z = sev ρ v) (hw : sRel fm rg sX sfI wr scr n0 ρ0 M0 ad0 dC dI cA A s.heap nL lv st w' ρ M ad ws H locs ls clv cst) (hc : w'.2.2.2 = w.2.2.2) (h : sub (k v (smm w' f j i v)) xs) : ∃ (ρ' : Nat → Int) (e' : SE) (w' : SW), z = sev ρ' e' ∧ sRel fm rg sX sfI wr scr n0 ρ0 M0 ad0 dC dI cA A s.heap nL lv st w' ρ' M ad ws H locs ls clv cst ∧ sub (k e' w') xs ∧ w'.2.2.2 = w.2.2.2 ∧ ∀ e, (∀ n, sall (fun v => sbe n v.2.2) st = true → sall (sbM n) w.1.1 = true → sbe n e = true) → sev ρ' e = sev ρ e :=
  ⟨ρ, v, _, hv, srel_memo hw hj hi0 (hz.trans hv), h, hc, fun _ _ => rfl⟩
theorem sldk_ok {z : Int} (hr : sRel fm rg sX sfI wr scr n0 ρ0 M0 ad0 dC dI cA A s.heap nL lv st w ρ M ad ws H locs ls clv cst) (hb : (∀ n, sall (fun v => sbe n v.2.2) st = true → sbe n j = true ∧ sbe n i = true)) (hcn : srg rg f i0 = srg rg f cn) (hj : (jn : Int) = sev ρ j) (hi0 : (i0 : Int) = sev ρ i) (hz : M f jn i0 = z) (h : sub (sldk rg f cn j i lv st w k) xs) : ∃ (ρ' : Nat → Int) (e' : SE) (w' : SW), z = sev ρ' e' ∧ sRel fm rg sX sfI wr scr n0 ρ0 M0 ad0 dC dI cA A s.heap nL lv st w' ρ' M ad ws H locs ls clv cst ∧ sub (k e' w') xs ∧ w'.2.2.2 = w.2.2.2 ∧ ∀ e, (∀ n, sall (fun v => sbe n v.2.2) st = true → sall (sbM n) w.1.1 = true → sbe n e = true) → sev ρ' e = sev ρ e := by
  unfold sldk at h
  cases hm : smf w.1.1 f j i with
  | some v =>
    rw [hm] at h
    exact ⟨ρ, v, w, hz.symm.trans (smf_ok hr.2.1.2.2.1 hm hj hi0), hr, h, rfl, fun _ _ => rfl⟩
  | none =>
    rw [hm] at h
    simp only at h
    cases hq : srg rg f cn with
    | none => rw [hq] at h; exact (sub_none h).elim
    | some q =>
      rw [hq] at h
      have hI := hr.2.1.2.1.1.1 f i0 q (hcn.trans hq) jn
      rw [hz] at hI
      cases hc : decide (q.1 = q.2) with
      | true =>
        simp only [hc, cond_true] at h
        have e1 : q.1 = q.2 := of_decide_eq_true hc
        exact sknow_memo hr hj hi0 hz (by rw [sev_c]; omega) hr rfl h
      | false =>
        simp only [hc, cond_false] at h
        exact snew_memo hr hb hj hi0 hz hI.1 hI.2 h
theorem lokw {z : Int} (h : ∃ (ρ' : Nat → Int) (e' : SE) (w' : SW), z = sev ρ' e' ∧ sRel fm rg sX sfI wr scr n0 ρ0 M0 ad0 dC dI cA A s.heap nL lv st w' ρ' M ad ws H locs ls clv cst ∧ sub (k e' w') xs ∧ w'.2.2.2 = w.2.2.2 ∧ ∀ e, (∀ n, sall (fun v => sbe n v.2.2) st = true → sall (sbM n) w.1.1 = true → sbe n e = true) → sev ρ' e = sev ρ e) : ∃ (ρ' : Nat → Int) (e' : SE) (w' : SW), z = sev ρ' e' ∧ sRel fm rg sX sfI wr scr n0 ρ0 M0 ad0 dC dI cA A s.heap nL lv st w' ρ' M ad ws H locs ls clv cst ∧ sub (k e' w') xs ∧ w'.2.2.2 = w.2.2.2 ∧ ∀ e, (∀ n, sall (fun v => sbe n v.2.2) st = true → sbe n e = true) → sev ρ' e = sev ρ e := by
  obtain ⟨ρ', e', w', a1, a2, a3, a4, a5⟩ := h
  exact ⟨ρ', e', w', a1, a2, a3, a4, fun e he => a5 e (fun n hn _ => he n hn)⟩
theorem sldDq_ok {z q lo hi : Int} {P : SE} {K : SK} (hr : sRel fm rg sX sfI wr scr n0 ρ0 M0 ad0 dC dI cA A s.heap nL lv st w ρ M ad ws H locs ls clv cst) (hK : sK ρ K) (hb : (∀ n, sall (fun v => sbe n v.2.2) st = true → sbe n j = true ∧ sbe n i = true)) (hj : (jn : Int) = sev ρ j) (hi0 : (i0 : Int) = sev ρ i) (hz : M 29 jn i0 = z) (h0 : z = 0 ∨ lo ≤ z ∧ z ≤ hi) (hg : sgd w.1.1 P q K = true → z ≠ 0) (h : sub (sldDq j i P q lo hi lv st w k K) xs) : ∃ (ρ' : Nat → Int) (e' : SE) (w' : SW), z = sev ρ' e' ∧ sRel fm rg sX sfI wr scr n0 ρ0 M0 ad0 dC dI cA A s.heap nL lv st w' ρ' M ad ws H locs ls clv cst ∧ sub (k e' w') xs ∧ w'.2.2.2 = w.2.2.2 ∧ ∀ e, (∀ n, sall (fun v => sbe n v.2.2) st = true → sbe n e = true) → sev ρ' e = sev ρ e := by
  unfold sldDq at h
  obtain ⟨h1, h2⟩ := sub_app h
  rcases h0 with h0 | h0
  · cases hc : sgd w.1.1 P q K with
    | true => exact absurd h0 (hg hc)
    | false =>
      rw [hc, cond_false] at h1
      exact lokw (sknow_memo hr hj hi0 hz (by rw [sev_c]; exact h0) (srel_K hr hK) rfl h1)
  · obtain ⟨ρ', e', w', a1, a2, a3, a4, a5⟩ := snew_memo (srel_K hr hK) hb hj hi0 hz h0.1 h0.2 h2
    exact ⟨ρ', e', w', a1, a2, a3, a4, fun e he => a5 e (fun n hn _ => he n hn)⟩
theorem sldD_ok {z : Int} (hr : sRel fm rg sX sfI wr scr n0 ρ0 M0 ad0 dC dI cA A s.heap nL lv st w ρ M ad ws H locs ls clv cst) (hb : (∀ n, sall (fun v => sbe n v.2.2) st = true → sbe n j = true ∧ sbe n i = true)) (hcn : srg rg 29 i0 = srg rg 29 0) (hj : (jn : Int) = sev ρ j) (hj0 : jn = 0) (hi0 : (i0 : Int) = sev ρ i) (hz : M 29 jn i0 = z) (h : sub (sldD rg j i lv st w k) xs) : ∃ (ρ' : Nat → Int) (e' : SE) (w' : SW), z = sev ρ' e' ∧ sRel fm rg sX sfI wr scr n0 ρ0 M0 ad0 dC dI cA A s.heap nL lv st w' ρ' M ad ws H locs ls clv cst ∧ sub (k e' w') xs ∧ w'.2.2.2 = w.2.2.2 ∧ ∀ e, (∀ n, sall (fun v => sbe n v.2.2) st = true → sbe n e = true) → sev ρ' e = sev ρ e := by
  unfold sldD at h
  subst hj0
  have hK := srel_sK hr
  rcases sres_ok hK h with ⟨e, P, e1, e2, e3, h⟩ | h
  · have hX := hr.2.1.2.1.2
    have hd := hX.1 i0
    rw [hz] at hd
    obtain ⟨p, hp⟩ : ∃ p : Nat, sev ρ P = (p : Int) := ⟨(sev ρ P).toNat, by omega⟩
    have hguard : ∀ q : Nat, 1 ≤ q → sev ρ e = (q : Int) → ∀ K, sK ρ K → sgd w.1.1 P (q : Int) K = true → z ≠ 0 := by
      intro q hq he K hK2 hg
      unfold sgd at hg
      cases hm : smf w.1.1 27 (sc 0) P with
      | none => rw [hm] at hg; cases hg
      | some c =>
        rw [hm] at hg
        have h5 := sent_ok hK2 hg
        rw [saddc_ev] at h5
        have h6 := smf_ok (jn := 0) (i0 := p) hr.2.1.2.2.1 hm (by rw [sev_c]; rfl) hp.symm
        have h7 := hX.2.1 p q hq (by omega) (by rw [h6]; omega)
        have h8 : 6 * p + q = i0 := by omega
        rw [h8, hz] at h7
        exact h7
    obtain ⟨k0, h⟩ := sub_app h
    obtain ⟨k1, h⟩ := sub_app h
    obtain ⟨k2, h⟩ := sub_app h
    obtain ⟨k3, h⟩ := sub_app h
    obtain ⟨k4, k5⟩ := sub_app h
    have hm : i0 % 6 = (sev ρ e).toNat := by omega
    rw [hm] at hd
    unfold sD1 at hd
    have c6 : sev ρ e = 0 ∨ sev ρ e = 1 ∨ sev ρ e = 2 ∨ sev ρ e = 3 ∨ sev ρ e = 4 ∨ sev ρ e = 5 := by omega
    rcases c6 with c | c | c | c | c | c <;> rw [c] at hd
    · obtain ⟨K, q1, q2⟩ := seq0_ok hK k0 c
      exact lokw (sknow_memo hr hj hi0 hz (by rw [sev_c]; omega) (srel_K hr q1) rfl q2)
    · obtain ⟨K, q1, q2⟩ := seq0_ok hK k1 (by rw [saddc_ev]; omega)
      exact sldDq_ok hr q1 hb hj hi0 hz (by omega) (hguard 1 (by omega) c K q1) q2
    · obtain ⟨K, q1, q2⟩ := seq0_ok hK k2 (by rw [saddc_ev]; omega)
      exact sldDq_ok hr q1 hb hj hi0 hz (by omega) (hguard 2 (by omega) c K q1) q2
    · obtain ⟨K, q1, q2⟩ := seq0_ok hK k3 (by rw [saddc_ev]; omega)
      exact sldDq_ok hr q1 hb hj hi0 hz (by omega) (hguard 3 (by omega) c K q1) q2
    · obtain ⟨K, q1, q2⟩ := seq0_ok hK k4 (by rw [saddc_ev]; omega)
      exact sldDq_ok hr q1 hb hj hi0 hz (by omega) (hguard 4 (by omega) c K q1) q2
    · obtain ⟨K, q1, q2⟩ := seq0_ok hK k5 (by rw [saddc_ev]; omega)
      exact sldDq_ok hr q1 hb hj hi0 hz (by omega) (hguard 5 (by omega) c K q1) q2
  · exact lokw (sldk_ok hr hb hcn hj hi0 hz h)
theorem sldN_ok {z : Int} (hr : sRel fm rg sX sfI wr scr n0 ρ0 M0 ad0 dC dI cA A s.heap nL lv st w ρ M ad ws H locs ls clv cst) (hb : (∀ n, sall (fun v => sbe n v.2.2) st = true → sbe n j = true ∧ sbe n i = true)) (hcn : srg rg 50 i0 = srg rg 50 0) (hrn : srg rg 50 0 = some (-1, 7)) (hj : (jn : Int) = sev ρ j) (hj0 : jn = 0) (hi0 : (i0 : Int) = sev ρ i) (hz : M 50 jn i0 = z) (h : sub (sldN rg j i lv st w k) xs) : ∃ (ρ' : Nat → Int) (e' : SE) (w' : SW), z = sev ρ' e' ∧ sRel fm rg sX sfI wr scr n0 ρ0 M0 ad0 dC dI cA A s.heap nL lv st w' ρ' M ad ws H locs ls clv cst ∧ sub (k e' w') xs ∧ w'.2.2.2 = w.2.2.2 ∧ ∀ e, (∀ n, sall (fun v => sbe n v.2.2) st = true → sbe n e = true) → sev ρ' e = sev ρ e := by
  unfold sldN at h
  subst hj0
  have hK := srel_sK hr
  rcases sres_ok hK h with ⟨e, P, e1, e2, e3, h⟩ | h
  · have hX := hr.2.1.2.1.2
    have hI := hr.2.1.2.1.1.1 50 i0 _ (hcn.trans hrn) 0
    rw [hz] at hI
    obtain ⟨k0, k1⟩ := sub_app h
    by_cases c : sev ρ e = 0
    · obtain ⟨K, q1, q2⟩ := seq0_ok hK k0 c
      have h8 : i0 = 6 * (sev ρ P).toNat := by omega
      have h9 := hX.2.2 (sev ρ P).toNat
      rw [← h8, hz] at h9
      obtain ⟨ρ', e', w', a1, a2, a3, a4, a5⟩ := snew_memo (srel_K hr q1) hb hj hi0 hz h9 hI.2 q2
      exact ⟨ρ', e', w', a1, a2, a3, a4, fun e he => a5 e (fun n hn _ => he n hn)⟩
    · obtain ⟨K, q1, q2⟩ := sge_ok hK k1 (by rw [saddc_ev]; omega)
      obtain ⟨ρ', e', w', a1, a2, a3, a4, a5⟩ := snew_memo (srel_K hr q1) hb hj hi0 hz hI.1 hI.2 q2
      exact ⟨ρ', e', w', a1, a2, a3, a4, fun e he => a5 e (fun n hn _ => he n hn)⟩
  · exact lokw (sldk_ok hr hb hcn hj hi0 hz h)
end SLD
