/-! codes that run, ends of lines; all loads -/
section SLE
variable {p : Program} {l : Launch} {e : Env} {R : Room} {s : State} {m : MethodId} {args : Array Value} {below : List Frame} {meth : Method} {c : Code} {Q : State → Prop} {dC : Nat → ClassId} {dI : Nat → Nat → Nat} {cA : Nat → ClassId} {A : Nat → Prop} {nL : Nat} {fm : List SF} {rg : SRg} {wr : SWr} {scr n0 : Nat} {ρ0 : Nat → Int} {M0 : SMem} {ad0 : SAd} {nc0 ns0 : Nat} {cc : ByteArray} {pc : Nat} {lv : SL} {st : List SV} {w : SW} {ret : SRt} {xs : List SS} {own : String}
variable {ρ : Nat → Int} {M : SMem} {ad : SAd} {ws : va_W} {H : Heap} {locs : List Loc} {ls : Array Slot} {clv : ZL} {cst : List Value} {f cn jn i0 : Nat} {j i : SE} {k : SE → SW → SX}
theorem swf_ok {K : SK} (hK : sK ρ K) {h : SE} : ∀ {fs : List SFt}, (∀ q ∈ fs, sfI q.1 (q.2.map (sev ρ)) M) → swf K i fs = some h → sWft M (sev ρ i) (sev ρ h) := by
  intro fs
  induction fs with
  | nil => intro _ h; cases h
  | cons q r ih =>
    intro hf hs
    have ih2 := ih (fun q hq => hf q (List.mem_cons_of_mem _ hq))
    obtain ⟨q1, q2⟩ := q
    unfold swf at hs
    cases hb : Nat.beq q1 5 with
    | false => simp only [hb, cond_false] at hs; exact ih2 hs
    | true =>
      simp only [hb, cond_true] at hs
      cases Nat.beq_eq.mp hb
      have h0 := hf _ List.mem_cons_self
      match q2, hs, h0 with
      | [a, h'], hs, h0 =>
        simp only at hs
        cases hc : (sent K (ssub a i) && sent K (ssub i a)) with
        | false => rw [hc, cond_false] at hs; exact ih2 hs
        | true =>
          rw [hc, cond_true] at hs
          cases hs
          rw [Bool.and_eq_true] at hc
          have e1 := sent_ok hK hc.1
          have e2 := sent_ok hK hc.2
          rw [ssub_ev] at e1 e2
          have e3 : sev ρ a = sev ρ i := by omega
          have h1 : sWft M (sev ρ a) (sev ρ h) := h0
          rw [e3] at h1
          exact h1
      | [], hs, h0 => exact ih2 hs
      | [_], hs, h0 => exact ih2 hs
      | _ :: _ :: _ :: _, hs, h0 => exact ih2 hs
theorem srel_wn {K : SK} {i1 h1 : SE} (hr : sRel fm rg sX sfI wr scr n0 ρ0 M0 ad0 dC dI cA A s.heap nL lv st w ρ M ad ws H locs ls clv cst) (hK : sK ρ K) (hw : sWft M (sev ρ i1) (sev ρ h1)) : sRel fm rg sX sfI wr scr n0 ρ0 M0 ad0 dC dI cA A s.heap nL lv st (swn w K i1 h1) ρ M ad ws H locs ls clv cst := by
  obtain ⟨⟨ag, hn, -⟩, ⟨r1, hI, hmo, hfr⟩, rr⟩ := hr
  refine ⟨⟨ag, hn, hK⟩, ⟨r1, hI, ⟨hmo.1, fun q hq => ?_⟩, hfr⟩, rr⟩
  rcases List.mem_cons.mp hq with rfl | hq
  · exact hw
  · exact hmo.2 q (List.mem_filter.mp hq).1
theorem sldOh_ok {z : Int} {h0 : SE} (hr : sRel fm rg sX sfI wr scr n0 ρ0 M0 ad0 dC dI cA A s.heap nL lv st w ρ M ad ws H locs ls clv cst) (hb : (∀ n, sall (fun v => sbe n v.2.2) st = true → sbe n j = true ∧ sbe n i = true)) (hro : ∀ x, srg rg 41 x = some (0, 10)) (hj : (jn : Int) = sev ρ j) (hj0 : jn = 0) (hi0 : (i0 : Int) = sev ρ i) (hz : M 41 jn i0 = z) (hw : sWft M (sev ρ i) (sev ρ h0)) (h : sub (sldOh j i h0 lv st w k) xs) : ∃ (ρ' : Nat → Int) (e' : SE) (w' : SW), z = sev ρ' e' ∧ sRel fm rg sX sfI wr scr n0 ρ0 M0 ad0 dC dI cA A s.heap nL lv st w' ρ' M ad ws H locs ls clv cst ∧ sub (k e' w') xs ∧ w'.2.2.2 = w.2.2.2 ∧ ∀ e, (∀ n, sall (fun v => sbe n v.2.2) st = true → sbe n e = true) → sev ρ' e = sev ρ e := by
  unfold sldOh at h
  subst hj0
  rw [sfe_eq, sfe_eq, sfe_eq] at h
  have hK := srel_sK hr
  obtain ⟨k0, h⟩ := sub_app h
  obtain ⟨k1, h⟩ := sub_app h
  obtain ⟨k2, h⟩ := sub_app h
  obtain ⟨k3, k4⟩ := sub_app h
  obtain ⟨i', h', n, x, e1, e2, w1, w2, w3, w4⟩ := hw
  have ei : i' = i0 := by omega
  subst ei
  by_cases hz0 : z = 0
  · exact lokw (sknow_memo hr hj hi0 hz (by rw [sev_c]; exact hz0) hr rfl k0)
  · cases n with
    | zero => exact absurd (hz.symm.trans w2) hz0
    | succ n =>
      rw [crun_succ] at w1
      rw [hz] at w1
      have hI := hr.2.1.2.1.1.1 41 i' _ (hro i') 0
      rw [hz] at hI
      have enx : i' + (n + 1) = (i' + 1) + n := by omega
      rw [enx] at w2
      have hc : z = 1 ∨ z = 2 ∨ z = 3 ∨ (4 ≤ z ∧ z ≤ 10) := by simp only at hI; omega
      rcases hc with hc | hc | hc | hc
      · rw [show cstep z (M 42 0 i') h' = some (h' + 1) from by unfold cstep; rw [if_pos hc]] at w1
        obtain ⟨K, q1, q2⟩ := sge_ok hK k1 (by rw [ssub_ev, sev_c]; omega)
        obtain ⟨K, q1, q2⟩ := sge_ok q1 q2 (by rw [ssub_ev, sev_c]; omega)
        exact lokw (sknow_memo hr hj hi0 hz (by rw [sev_c]; exact hc) (srel_wn hr q1 ⟨i' + 1, h' + 1, n, x, by rw [saddc_ev]; omega, by rw [saddc_ev]; omega, w1, w2, by omega, by omega⟩) rfl q2)
      · obtain ⟨K, q1, q2⟩ := sge_ok hK k2 (by rw [ssub_ev, sev_c]; omega)
        obtain ⟨K, q1, q2⟩ := sge_ok q1 q2 (by rw [ssub_ev, sev_c]; omega)
        have h6 : 0 ≤ M 42 0 i' ∧ M 42 0 i' ≤ 6 := by
          by_cases h6 : 0 ≤ M 42 0 i' ∧ M 42 0 i' ≤ 6
          · exact h6
          · rw [show cstep z (M 42 0 i') h' = none from by unfold cstep; rw [if_neg (by omega), if_pos hc, if_neg h6]] at w1
            cases w1
        rw [show cstep z (M 42 0 i') h' = some (h' + 1) from by unfold cstep; rw [if_neg (by omega), if_pos hc, if_pos h6]] at w1
        have hrn := srel_wn (i1 := saddc i 1) (h1 := saddc h0 1) hr q1 ⟨i' + 1, h' + 1, n, x, by rw [saddc_ev]; omega, by rw [saddc_ev]; omega, w1, w2, by omega, by omega⟩
        obtain ⟨ρ', ha, hS, h3, h4, h5⟩ := snew_ok (lo := 0) (hi := 6) (x := M 42 0 i') (st := st) hrn h6.1 h6.2 (k := fun e w => k (sc 2) (smm (smm w 42 j i e) 41 j i (sc 2))) (by
          unfold snew at q2 ⊢
          obtain ⟨b1, b2⟩ := sub_cond q2
          have b3 : sbS (swn w K (saddc i 1) (saddc h0 1)).2.1 lv st (swn w K (saddc i 1) (saddc h0 1)) = true := by
            simp only [sbS, sall, Bool.and_eq_true] at b1 ⊢
            refine ⟨b1.1, ?_, b1.2.2⟩
            have b4 := b1.2.1
            cases c1 : sbe (swn w K (saddc i 1) (saddc h0 1)).2.1 j with
            | false => rw [c1] at b4; cases b4
            | true =>
              cases c2 : sbe (swn w K (saddc i 1) (saddc h0 1)).2.1 i with
              | false => rw [c1, c2] at b4; cases b4
              | true => rw [c1, c2] at b4; exact b4
          rw [b3]
          exact b2)
        obtain ⟨b1, b2⟩ := hb _ (sbS_st hS)
        have hj2 : ((0 : Nat) : Int) = sev ρ' j := by rw [sbe_ev ha b1]; exact hj
        have hi2 : (i' : Int) = sev ρ' i := by rw [sbe_ev ha b2]; exact hi0
        exact ⟨ρ', sc 2, _, by rw [sev_c]; exact hc, srel_memo (srel_memo h4 hj2 hi2 h3.symm) hj2 hi2 (by rw [sev_c]; exact hz.trans hc), h5, rfl, fun e he => sbe_ev ha (he _ (sbS_st hS))⟩
      · have h6 : 1 ≤ h' := by
          by_cases h6 : 1 ≤ h'
          · exact h6
          · rw [show cstep z (M 42 0 i') h' = none from by unfold cstep; rw [if_neg (by omega), if_neg (by omega), if_pos hc, if_neg h6]] at w1
            cases w1
        rw [show cstep z (M 42 0 i') h' = some h' from by unfold cstep; rw [if_neg (by omega), if_neg (by omega), if_pos hc, if_pos h6]] at w1
        obtain ⟨K, q1, q2⟩ := sge_ok hK k3 (by rw [saddc_ev]; omega)
        obtain ⟨K, q1, q2⟩ := sge_ok q1 q2 (by rw [ssub_ev, sev_c]; omega)
        exact lokw (sknow_memo hr hj hi0 hz (by rw [sev_c]; exact hc) (srel_wn hr q1 ⟨i' + 1, h', n, x, by rw [saddc_ev]; omega, e2, w1, w2, by omega, by omega⟩) rfl q2)
      · have h6 : 2 ≤ h' := by
          by_cases h6 : 2 ≤ h'
          · exact h6
          · rw [show cstep z (M 42 0 i') h' = none from by unfold cstep; rw [if_neg (by omega), if_neg (by omega), if_neg (by omega), if_pos hc, if_neg h6]] at w1
            cases w1
        rw [show cstep z (M 42 0 i') h' = some (h' - 1) from by unfold cstep; rw [if_neg (by omega), if_neg (by omega), if_neg (by omega), if_pos hc, if_pos h6]] at w1
        obtain ⟨K, q1, q2⟩ := sge_ok hK k4 (by rw [saddc_ev]; omega)
        obtain ⟨K, q1, q2⟩ := sge_ok q1 q2 (by rw [ssub_ev, sev_c]; omega)
        have hrn := srel_wn (i1 := saddc i 1) (h1 := saddc h0 (-1)) hr q1 ⟨i' + 1, h' - 1, n, x, by rw [saddc_ev]; omega, by rw [saddc_ev]; omega, w1, w2, by omega, by omega⟩
        have q3 : sub (snew lv st (swn w K (saddc i 1) (saddc h0 (-1))) 4 10 (fun e w => k e (smm w 41 j i e))) xs := by
          unfold snew at q2 ⊢
          obtain ⟨b1, b2⟩ := sub_cond q2
          have b3 : sbS (swn w K (saddc i 1) (saddc h0 (-1))).2.1 lv st (swn w K (saddc i 1) (saddc h0 (-1))) = true := by
            simp only [sbS, sall, Bool.and_eq_true] at b1 ⊢
            refine ⟨b1.1, ?_, b1.2.2⟩
            have b4 := b1.2.1
            cases c1 : sbe (swn w K (saddc i 1) (saddc h0 (-1))).2.1 j with
            | false => rw [c1] at b4; cases b4
            | true =>
              cases c2 : sbe (swn w K (saddc i 1) (saddc h0 (-1))).2.1 i with
              | false => rw [c1, c2] at b4; cases b4
              | true => rw [c1, c2] at b4; exact b4
          rw [b3]
          exact b2
        obtain ⟨ρ', e', w', a1, a2, a3, a4, a5⟩ := snew_memo hrn hb hj hi0 hz hc.1 hc.2 q3
        exact ⟨ρ', e', w', a1, a2, a3, a4, fun e he => a5 e (fun n hn _ => he n hn)⟩
theorem sldO_ok {z : Int} (hr : sRel fm rg sX sfI wr scr n0 ρ0 M0 ad0 dC dI cA A s.heap nL lv st w ρ M ad ws H locs ls clv cst) (hb : (∀ n, sall (fun v => sbe n v.2.2) st = true → sbe n j = true ∧ sbe n i = true)) (hro : ∀ x, srg rg 41 x = some (0, 10)) (hj : (jn : Int) = sev ρ j) (hj0 : jn = 0) (hi0 : (i0 : Int) = sev ρ i) (hz : M 41 jn i0 = z) (h : sub (sldO rg j i lv st w k) xs) : ∃ (ρ' : Nat → Int) (e' : SE) (w' : SW), z = sev ρ' e' ∧ sRel fm rg sX sfI wr scr n0 ρ0 M0 ad0 dC dI cA A s.heap nL lv st w' ρ' M ad ws H locs ls clv cst ∧ sub (k e' w') xs ∧ w'.2.2.2 = w.2.2.2 ∧ ∀ e, (∀ n, sall (fun v => sbe n v.2.2) st = true → sbe n e = true) → sev ρ' e = sev ρ e := by
  unfold sldO at h
  cases hs : swf w.2.2.1 i w.1.2 with
  | some h0 =>
    rw [hs] at h
    exact sldOh_ok hr hb hro hj hj0 hi0 hz (swf_ok (srel_sK hr) hr.2.1.2.2.1.2 hs) h
  | none =>
    rw [hs] at h
    exact lokw (sldk_ok hr hb ((hro _).trans (hro _).symm) hj hi0 hz h)
theorem shas6_ok {fs : List SFt} (h : shas6 fs = true) (hf : ∀ q ∈ fs, sfI q.1 (q.2.map (sev ρ)) M) : sEa M := by
  obtain ⟨q, h1, h2⟩ := sany_ok h
  have h3 := hf q h1
  obtain ⟨q1, q2⟩ := q
  cases Nat.beq_eq.mp h2
  cases q2 with
  | nil => exact h3
  | cons a r => exact h3.elim
theorem sldU_ok {z : Int} (hr : sRel fm rg sX sfI wr scr n0 ρ0 M0 ad0 dC dI cA A s.heap nL lv st w ρ M ad ws H locs ls clv cst) (hb : (∀ n, sall (fun v => sbe n v.2.2) st = true → sbe n j = true ∧ sbe n i = true)) (hc99 : srg rg 99 i0 = srg rg 99 0) (hj : (jn : Int) = sev ρ j) (hi0 : (i0 : Int) = sev ρ i) (hz : M 99 jn i0 = z) (h : sub (sldU rg j i lv st w k) xs) : ∃ (ρ' : Nat → Int) (e' : SE) (w' : SW), z = sev ρ' e' ∧ sRel fm rg sX sfI wr scr n0 ρ0 M0 ad0 dC dI cA A s.heap nL lv st w' ρ' M ad ws H locs ls clv cst ∧ sub (k e' w') xs ∧ w'.2.2.2 = w.2.2.2 ∧ ∀ e, (∀ n, sall (fun v => sbe n v.2.2) st = true → sbe n e = true) → sev ρ' e = sev ρ e := by
  unfold sldU at h
  obtain ⟨ρ', v, w', a1, a2, a3, a4, a5⟩ := lokw (sldk_ok hr hb hc99 hj hi0 hz h)
  have hj' : (jn : Int) = sev ρ' j := by rw [a5 j (fun n hn => (hb n hn).1)]; exact hj
  have hi' : (i0 : Int) = sev ρ' i := by rw [a5 i (fun n hn => (hb n hn).2)]; exact hi0
  cases hc : (shas6 w'.1.2 && sin w'.2.2.1 i 0 11) with
  | false =>
    rw [hc, cond_false] at a3
    exact ⟨ρ', v, w', a1, a2, a3, a4, a5⟩
  | true =>
    rw [hc, cond_true] at a3
    rw [Bool.and_eq_true] at hc
    cases hm : smf w'.1.1 74 j (sc 0) with
    | none =>
      rw [hm] at a3
      exact ⟨ρ', v, w', a1, a2, a3, a4, a5⟩
    | some n =>
      rw [hm] at a3
      simp only at a3
      cases hd : sent w'.2.2.1 (saddc (ssub n i) (-1)) with
      | false =>
        rw [hd, cond_false] at a3
        exact ⟨ρ', v, w', a1, a2, a3, a4, a5⟩
      | true =>
        rw [hd, cond_true] at a3
        have h1 := shas6_ok hc.1 a2.2.1.2.2.1.2
        have h2 := sin_ok (srel_sK a2) hc.2
        have h3 := sent_ok (srel_sK a2) hd
        rw [saddc_ev, ssub_ev] at h3
        have h4 := smf_ok (jn := jn) (i0 := 0) a2.2.1.2.2.1 hm hj' (by rw [sev_c]; rfl)
        have h5 := h1 jn i0 (by omega) (by omega)
        rw [hz] at h5
        cases hv : smf w'.1.1 99 j i with
        | none => rw [hv] at a3; exact (sub_none a3).elim
        | some v2 =>
          rw [hv] at a3
          simp only at a3
          have h6 := smf_ok a2.2.1.2.2.1 hv hj' hi'
          have hb2 : ∀ n, sall (fun v => sbe n v.2.2) st = true → sbe n j = true ∧ sbe n (sc 0) = true := fun n hn => ⟨(hb n hn).1, rfl⟩
          obtain ⟨ρ2, L, w2, b1, b2, b3, b4, b5⟩ := sldk_ok a2 hb2 rfl hj' (by rw [sev_c]; rfl) rfl a3
          have e2 : sev ρ2 v2 = sev ρ' v2 := b5 v2 (fun n _ hn => by
            have := sall_ok hn _ (smf_mem hv)
            simp only [sbM, Bool.and_eq_true] at this
            exact this.2.2)
          have ea : ∀ e, (∀ n, sall (fun v => sbe n v.2.2) st = true → sbe n e = true) → sev ρ2 e = sev ρ e := fun e he => (b5 e (fun n hn _ => he n hn)).trans (a5 e he)
          cases hs : sent w2.2.2.1 (ssub L v2) with
          | true =>
            rw [hs, cond_true] at b3
            exact ⟨ρ2, v2, w2, by rw [e2, ← h6, hz], b2, b3, b4.trans a4, ea⟩
          | false =>
            rw [hs, cond_false, sfK_eq] at b3
            exact ⟨ρ2, v2, _, by rw [e2, ← h6, hz], srel_K b2 (sput_ok (srel_sK b2) (by rw [ssub_ev, e2, ← h6, ← b1, hz]; omega)), b3, b4.trans a4, ea⟩
end SLE
