/-! every run: by induction on its steps -/
section SGO
variable {zm : List ZMe} {zc : List (List ZI)} {fm : List SF} {rg : SRg} {EX : SEx} {l : Launch} {dC : Nat → ClassId} {dI : Nat → Nat → Nat} {cA : Nat → ClassId} {scrS : Nat} {cts : List (List SC)} {N D0 : Nat} {md : List (Nat × Nat)} {wl : List (Nat × SE)} {cuts : List Nat} {rec9 : Nat → Nat → SRt}
set_option maxHeartbeats 1000000 in
theorem sstep_ok (hX : sCtx zm fm rg EX l dC dI cA scrS cts N) (htab : sTab zm zc) (IH : sPn zm fm rg EX l dC dI cA scrS md wl D0 rec9) (fst : Bool) : sPn zm fm rg EX l dC dI cA scrS md wl D0 (sstep zm zc fm rg cts md wl N D0 cuts fst rec9) := by
  intro k d pc lv st w xs hd0 h me hme p e R s m args below meth c Q A wr scr n0 ρ0 M0 ad0 nc0 ns0 F hb01 hb02 hwr hs0 hs1 hxs
  unfold sstep at h
  rw [sn_eq, zget_eq, zget_eq, hme] at h
  cases hc : zc[k]? with
  | none => rw [hc] at h; exact (sub_none h).elim
  | some tb =>
    rw [hc] at h
    simp only at h
    cases hf : zft tb pc with
    | none => rw [hf] at h; exact (sub_none h).elim
    | some q =>
      rw [hf] at h
      simp only at h
      obtain ⟨f1, f2⟩ := zft_ok hf
      have hq := htab k me tb hme hc q f1
      unfold sok at hq
      simp only [Bool.and_eq_true] at hq
      obtain ⟨q1, q2, q3, q4⟩ := hq
      have hdg := of_decide_eq_true q1
      rw [f2] at hdg
      cases hs : (zstop me.2.2.2.2.1 q.2.1 || cond fst false (Nat.beq d D0 && smn1 pc cuts)) with
      | true =>
        rw [hs, cond_true] at h
        obtain ⟨ys, e1, e2⟩ := h
        cases e1
        exact hxs _ (e2 _ List.mem_cons_self)
      | false =>
        rw [hs, cond_false] at h
        obtain ⟨pq, ins, len, lk⟩ := q
        have Hk : ∀ (pc : Nat) (lv : SL) (st : List SV) (w : SW), sub (rec9 k d pc lv st w) xs → sW p l e R s m args below meth c Q dC dI cA A me.2.2.2.1 fm rg sX sfI wr scr n0 ρ0 M0 ad0 nc0 ns0 pc lv st w := fun pc lv st w h => IH k d pc lv st w xs hd0 h me hme p e R s m args below meth c Q A wr scr n0 ρ0 M0 ad0 nc0 ns0 F hb01 hb02 hwr hs0 hs1 hxs
        have F' := F
        obtain ⟨hx, hb, hml, hown, hts, hK, hA, hRd, hRb, hE9⟩ := F
        obtain ⟨x1, x2, x3, x4, x5, x6, x7, x8, x9⟩ := hX
        have hlw : (Nat.beq k 0) = false → scr = scrS := fun q => hs1 (fun z => by rw [z] at q; cases q)
        have hcall : ∀ {h9 : SX}, h9 = scll zm zc fm rg cts md wl N rec9 k d me lk pc lv st w → sub h9 xs → ((∃ idx, ins = .invokestatic idx) ∨ ∃ idx, ins = .invokevirtual idx) → sW p l e R s m args below meth c Q dC dI cA A me.2.2.2.1 fm rg sX sfI wr scr n0 ρ0 M0 ad0 nc0 ns0 pc lv st w := by
          intro h9 e9 h hi9
          subst e9
          match lk, h, q4 with
          | [], h, q4 => exact (sub_none h).elim
          | [_], h, q4 => exact (sub_none h).elim
          | [_, _], h, q4 => exact (sub_none h).elim
          | [_, _, _], h, q4 => exact (sub_none h).elim
          | kd :: kc :: n :: ci :: is, h, q4 =>
            simp only [scll] at h
            rcases hi9 with ⟨idx, rfl⟩ | ⟨idx, rfl⟩
            · cases Nat.beq_eq.mp (show Nat.beq len 3 = true from q2)
              simp only [slkc] at q4
              cases c7 : Nat.beq kd 7 with
              | true =>
                rw [c7, cond_true] at h q4
                obtain ⟨h1, h⟩ := sub_cond h
                have hd1 := Nat.le_of_ble_eq_true h1
                have w9 := zchk_ok q4
                exact ss_cpy hx hb hml hown hts hK x3 hwr (by omega) (by omega) (w9 _ (by simp)) (w9 _ (by simp)) (w9 _ (by simp)) (w9 _ (by simp)) hdg h Hk
              | false =>
                rw [c7, cond_false] at h q4
                cases c8 : Nat.beq kd 8 with
                | true =>
                  rw [c8, cond_true] at h q4
                  obtain ⟨h1, h⟩ := sub_cond h
                  simp only [Bool.and_eq_true] at h1
                  have hd1 := Nat.le_of_ble_eq_true h1.1
                  have hd2 := Nat.le_of_ble_eq_true h1.2.1
                  have hd3 := Nat.le_of_ble_eq_true h1.2.2
                  have w9 := zchk_ok q4
                  exact ss_max hx hb hml hown hts (by omega) (by omega) (by omega) (by omega) (w9 _ (by simp)) (w9 _ (by simp)) (w9 _ (by simp)) (w9 _ (by simp)) hdg h Hk
                | false =>
                  rw [c8, cond_false] at h q4
                  cases c10 : Nat.beq kd 10 with
                  | true =>
                    rw [c10, cond_true] at h q4
                    obtain ⟨h1, h⟩ := sub_cond h
                    simp only [Bool.and_eq_true] at h1
                    have hd1 := Nat.le_of_ble_eq_true h1.1
                    have hd2 := Nat.le_of_ble_eq_true h1.2.1
                    have hd3 := Nat.le_of_ble_eq_true h1.2.2
                    have w9 := zchk_ok q4
                    exact ss_min hx hb hml hown hts (by omega) (by omega) (by omega) (by omega) (w9 _ (by simp)) (w9 _ (by simp)) (w9 _ (by simp)) (w9 _ (by simp)) hdg h Hk
                  | false =>
                    rw [c10, cond_false] at h q4
                    cases c11 : Nat.beq kd 11 with
                    | true =>
                     rw [c11, cond_true] at q4
                     have e11 := Nat.beq_eq.mp c11
                     subst e11
                     have h : sub (cond (Nat.ble 12 d && (Nat.ble (w.2.2.2.1 + 1) me.2.2.2.2.2.1 && (Nat.ble (w.2.2.2.2 + 6) me.2.2.2.2.2.2 && Nat.ble 1 N))) (sx_lay md wl pc lv st w (rec9 k d)) none) xs := h
                     obtain ⟨h1, h⟩ := sub_cond h
                     simp only [Bool.and_eq_true] at h1
                     have hd1 := Nat.le_of_ble_eq_true h1.1
                     have hd2 := Nat.le_of_ble_eq_true h1.2.1
                     have hd3 := Nat.le_of_ble_eq_true h1.2.2.1
                     have w9 := zchk_ok q4
                     exact ss_lay (x8 (Nat.le_of_ble_eq_true h1.2.2.2)) hE9 hA hx hb hml hown hts hK x9 hwr (by omega) (by omega) (by omega) (by omega) (w9 _ (by simp)) hdg h Hk
                    | false =>
                     rw [c11, cond_false] at q4
                     rw [Bool.and_eq_true, Bool.or_eq_true] at q4
                     cases c9 : Nat.beq kd 9 with
                     | true =>
                      have e9 := Nat.beq_eq.mp c9
                      rcases q4.1 with z | z
                      · have := Nat.beq_eq.mp z
                        omega
                      · have := Nat.beq_eq.mp z
                        omega
                     | false =>
                      rw [c9, cond_false, c11, cond_false] at h
                      exact sinv_ok ⟨x1, x2, x3, x4, x5, x6, x7, x8, x9⟩ IH htab hd0 hme q4.2 (Or.inl ⟨q4.1.imp Nat.beq_eq.mp Nat.beq_eq.mp, rfl⟩) hdg h F' hb01 hb02 hwr hs0 hs1 Hk
            · cases Nat.beq_eq.mp (show Nat.beq len 3 = true from q2)
              simp only [slkc] at q4
              cases c9 : Nat.beq kd 9 with
              | true =>
                have e9 := Nat.beq_eq.mp c9
                subst e9
                rw [c9, cond_true] at q4
                have h : sub (cond (Nat.ble 4 d && (Nat.ble w.2.2.2.1 me.2.2.2.2.2.1 && (Nat.ble w.2.2.2.2 me.2.2.2.2.2.2 && !(Nat.beq k 0)))) (sx_chr pc lv st w (rec9 k d)) none) xs := h
                obtain ⟨h1, h⟩ := sub_cond h
                simp only [Bool.and_eq_true] at h1
                have hd1 := Nat.le_of_ble_eq_true h1.1
                have hd2 := Nat.le_of_ble_eq_true h1.2.1
                have hd3 := Nat.le_of_ble_eq_true h1.2.2.1
                have w9 := zchk_ok q4
                have hsc := hlw (snot h1.2.2.2)
                exact ss_chr hE9 hA (by rw [hsc]; exact x4) hx hb hml hown hts hK (by omega) (by omega) (by omega) (by omega) (w9 _ (by simp)) hdg h Hk
              | false =>
                rw [c9, cond_false] at q4
                rw [Bool.and_eq_true] at q4
                have e2 := Nat.beq_eq.mp q4.1
                subst e2
                have h : sub (sinv zm zc fm rg cts md wl N rec9 k d me 2 kc n ci pc lv st w) xs := h
                exact sinv_ok ⟨x1, x2, x3, x4, x5, x6, x7, x8, x9⟩ IH htab hd0 hme q4.2 (Or.inr ⟨rfl, rfl⟩) hdg h F' hb01 hb02 hwr hs0 hs1 Hk
        have hxi : ∀ {h9 : SX}, h9 = sxi fm rg md wl (Nat.beq k 0) me.2.2.2.1 ins lk pc lv st w (rec9 k d) → sub h9 xs → sW p l e R s m args below meth c Q dC dI cA A me.2.2.2.1 fm rg sX sfI wr scr n0 ρ0 M0 ad0 nc0 ns0 pc lv st w := by
          intro h9 e9 h
          subst e9
          refine sxi_sound x6 x3 hwr hx hb hown hts hK (fun hl ho => ?_) (fun hl => hs0 (Nat.beq_eq.mp hl)) hdg q2 q3 h Hk
          rw [hlw hl, ho]
          exact x5 _ _ _ hE9
        cases ins with
        | invokestatic idx => exact hcall rfl h (Or.inl ⟨idx, rfl⟩)
        | invokevirtual idx => exact hcall rfl h (Or.inr ⟨idx, rfl⟩)
        | _ => exact hxi rfl h
theorem sgo_ok (hX : sCtx zm fm rg EX l dC dI cA scrS cts N) (htab : sTab zm zc) : ∀ n : Nat, sPn zm fm rg EX l dC dI cA scrS md wl D0 (sgo zm zc fm rg cts md wl N D0 cuts n) := by
  intro n
  induction n with
  | zero =>
    intro k d pc lv st w xs hd0 h
    exact (sub_none h).elim
  | succ n IH => exact sstep_ok hX htab IH false
end SGO
