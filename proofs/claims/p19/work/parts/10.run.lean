/-! every run of the machine of known values is a run of the machine -/
def zP (zm : List ZMe) (zc : List (List ZI)) (zd : List (List Value)) (E : ZN) (L sp n : Nat) : Prop := ∀ (k d pc : Nat) (lv : ZL) (st : List Value) (hp : List ZE) (nc ns : Nat) (r : ZS), zgo zm zc zd E L sp n k d pc lv st hp nc ns = .ok r →
  ∀ (me : ZMe), zm[k]? = some me → ∀ (p : Program) (l : Launch) (e : Env) (R : Room) (s : State) (m : MethodId) (args : Array Value) (below : List Frame) (meth : Method) (c : Code) (Q : State → Prop) (dC : Nat → ClassId) (dI : Nat → Nat → Nat) (cA : Nat → ClassId) (g : ZG) (A : Nat → Prop), zF E L k d me p R s m args meth c dC dI cA g A →
    zW p l e R s m args below meth c Q dC dI cA g A me.2.2.2.1 r.1 r.2.1 r.2.2.1 r.2.2.2.1 r.2.2.2.2.1 r.2.2.2.2.2 → zW p l e R s m args below meth c Q dC dI cA g A me.2.2.2.1 pc lv st hp nc ns
theorem zrcv_ok {hp : List ZE} {v : Option Value} {ci : Nat} (h : zrcv hp v (zget hp) ci = true) : ∃ (k : Nat) (x : Nat × List Value), v = some (.ref k) ∧ hp[k]? = some (.inr x) ∧ x.1 = ci := by
  unfold zrcv at h
  cases v with
  | none => cases h
  | some w =>
    cases w with
    | ref k =>
      simp only [zget_eq] at h
      cases hq : hp[k]? with
      | none => rw [hq] at h; cases h
      | some q =>
        cases q with
        | inl x => rw [hq] at h; cases h
        | inr x =>
          rw [hq] at h
          exact ⟨k, x, rfl, hq, Nat.beq_eq.mp h⟩
    | _ => cases h
theorem ztake_rev {α : Type} {st : List α} {n : Nat} {v : α} (h : st[n]? = some v) : ∃ r, (st.take (n + 1)).reverse = v :: r := by
  have hl : n < st.length := (List.getElem?_eq_some_iff.mp h).1
  have e : st.take (n + 1) = st.take n ++ [v] := by
    rw [List.take_add_one, h]
    rfl
  rw [e, List.reverse_append]
  exact ⟨_, rfl⟩
section ZRN
variable {p : Program} {l : Launch} {e : Env} {R : Room} {s : State} {m : MethodId} {args : Array Value} {below : List Frame} {meth : Method} {c : Code} {Q : State → Prop} {dC : Nat → ClassId} {dI : Nat → Nat → Nat} {cA : Nat → ClassId} {g : ZG} {A : Nat → Prop} {pc : Nat} {lv : ZL} {st : List Value} {hp : List ZE} {nc ns : Nat} {r : ZS} {E : ZN}
set_option maxHeartbeats 4000000 in
theorem zs_inv {zm : List ZMe} {zc : List (List ZI)} {zd : List (List Value)} {L sp N k d kd kc n ci idx : Nat} {is : List Nat} {ins : Instr} {me : ZMe} (htab : zTab zm zc) (IH : zP zm zc zd E L sp N) (hme : zm[k]? = some me) (F : zF E L k d me p R s m args meth c dC dI cA g A) (hcal : zcal zm me.1 idx kd kc n ci is = true)
    (hins : (kd = 0 ∨ kd = 1) ∧ ins = .invokestatic idx ∨ kd = 2 ∧ ins = .invokevirtual idx ∨ (kd = 4 ∨ kd = 5) ∧ ins = .invokespecial idx) (hdg : decode me.2.2.1 pc = .ok (ins, 3))
    (h : zinv zm zc (zgo zm zc zd E L sp N) k d me.2.2.2.2.2.1 me.2.2.2.2.2.2 kd kc n ci pc lv st hp nc ns = .ok r)
    (hr : zW p l e R s m args below meth c Q dC dI cA g A me.2.2.2.1 r.1 r.2.1 r.2.2.1 r.2.2.2.1 r.2.2.2.2.1 r.2.2.2.2.2) : zW p l e R s m args below meth c Q dC dI cA g A me.2.2.2.1 pc lv st hp nc ns := by
  unfold zinv at h
  unfold zcal at hcal
  rw [zget_eq] at h
  cases hmc : zm[kc]? with
  | none => simp only [hmc] at h; cases h
  | some me2 =>
    obtain ⟨own2, y2, cc2, mL2, rt2, bc2, bs2⟩ := me2
    simp only [hmc] at h hcal
    rw [zn_eq] at h
    simp only [Bool.and_eq_true] at hcal
    obtain ⟨c1, c2, c3, c4, c5, c6, c7, c8⟩ := hcal
    generalize hna : cond (Nat.ble kd 1) n (n + 1) = na at h
    cases hck : (Nat.beq (st.take na).length na && (Nat.ble ((st.drop na).map fun v => v.category).sum 8 && (Nat.ble ((st.take na).map fun v => v.category).sum mL2 && (Nat.ble (nc + bc2) me.2.2.2.2.2.1 && (Nat.ble (ns + bs2) me.2.2.2.2.2.2 && cond (Nat.ble kd 1) true (zrcv hp (zget st n) (zget hp) ci)))))) with
    | false => rw [hck] at h; cases h
    | true =>
      rw [hck, cond_true] at h
      simp only [Bool.and_eq_true] at hck
      obtain ⟨k1, k2, k3, k4, k5, k6⟩ := hck
      cases d with
      | zero => cases h
      | succ d' =>
        simp only [zfl_eq] at h
        cases hrun : zgo zm zc zd E L sp N kc d' 0 (lv_args 0 (st.take na).reverse) [] hp 0 0 with
        | error x => simp only [hrun] at h; cases h
        | ok r2 =>
          simp only [hrun] at h
          have hW2 := IH kc d' 0 _ [] hp 0 0 r2 hrun
          obtain ⟨hend, h⟩ := zfin_ok h
          have hkc : ¬ kc = 0 := by
            intro q
            rw [q] at c8
            cases c8
          obtain ⟨tb, q, t1, t2, t3, t4⟩ := hend
          have hq := htab kc _ tb hmc t1 q t2
          unfold zok at hq
          simp only [Bool.and_eq_true] at hq
          have hdec := of_decide_eq_true hq.1
          have hst : zstop rt2 q.2.1 = true := t4
          have F0' := F
          obtain ⟨hx, hb, hml, hown, hts, hK, hA, hE, hg7, hRd, hRb, hI, hz9, -⟩ := F
          intro ws H locs ls clv cst ⟨r1, r2', r3, r4, r5, r6, r7⟩
          obtain ⟨z1, z2⟩ := zvs_take na r7
          have hcs : cst = ((cst.take na).reverse).reverse ++ cst.drop na := by
            rw [List.reverse_reverse, List.take_append_drop]
          have h8 : ((cst.drop na).map fun v => v.category).sum ≤ 8 := by
            rw [zvs_sum z2]
            exact Nat.le_of_ble_eq_true k2
          have hlen : (lg_sl (cst.take na).reverse).length ≤ mL2 := by
            rw [zslots]
            have e1 : (((cst.take na).reverse).map fun v => v.category).sum = ((cst.take na).map fun v => v.category).sum := by
              rw [List.map_reverse, List.sum_reverse]
            rw [e1, zvs_sum z1]
            exact Nat.le_of_ble_eq_true k3
          have hn9 : ((cst.take na).reverse).length = if kd ≤ 1 then n else n + 1 := by
            rw [List.length_reverse, zvs_len z1, Nat.beq_eq.mp k1, ← hna]
            by_cases hk1 : kd ≤ 1
            · rw [if_pos hk1, Nat.ble_eq_true_of_le hk1]
              rfl
            · rw [if_neg hk1]
              cases hb9 : Nat.ble kd 1 with
              | true => exact absurd (Nat.le_of_ble_eq_true hb9) hk1
              | false => rfl
          have hrc : 2 ≤ kd → ∃ (b : Nat) (as2 : List Value), (cst.take na).reverse = .ref b :: as2 ∧ (kd = 2 → ∃ cell : Cell, H[b]? = some cell ∧ cell.vm.isStatics = false ∧ s.vm.findClass y2.cls = some cell.cls) := by
            intro hk2
            have hb9 : Nat.ble kd 1 = false := by
              cases hb9 : Nat.ble kd 1 with
              | true => exact absurd (Nat.le_of_ble_eq_true hb9) (by omega)
              | false => rfl
            rw [hb9, cond_false] at k6 c6 hna
            obtain ⟨kk, x, e1, e2, e3⟩ := zrcv_ok k6
            rw [zget_eq] at e1
            subst hna
            obtain ⟨cr, e4, e5⟩ := zvs_get r7 e1
            obtain ⟨a, e6, rfl⟩ := e5
            obtain ⟨as2, e7⟩ := ztake_rev e4
            refine ⟨a, as2, e7, fun _ => ?_⟩
            obtain ⟨w, e8, e9⟩ := zh_at r1 e2 e6
            obtain ⟨gs, rfl, -⟩ := zobj e9
            obtain ⟨C, T, NN, f1, f2, f3⟩ := zfl1_ok c6
            rw [e3] at e8
            have hv := va_recv hK r2' f1 e8
            rw [show C = y2.cls from of_decide_eq_true f3] at hv
            exact hv
          have hRR : d' + 1 ≤ R.frames ∧ 40 * (d' + 1) ≤ R.locals := hRd
          have hfit : nc + bc2 ≤ R.cells ∧ ns + bs2 ≤ R.slots := ⟨Nat.le_trans (Nat.le_of_ble_eq_true k4) hRb.1, Nat.le_trans (Nat.le_of_ble_eq_true k5) hRb.2⟩
          have hi9 : kd = 4 ∨ kd = 5 → y2.name = "<init>" ∧ rt2 = none := by
            intro hk
            have hb9 : Nat.ble kd 3 = false := by rcases hk with rfl | rfl <;> rfl
            rw [hb9, cond_false] at c7
            exact of_decide_eq_true c7
          have hoy : own2 = y2.cls := of_decide_eq_true c5
          have hfree := zfree r3 r4 hA
          unfold zback at h
          cases hbk : (Nat.ble r2.2.2.2.2.1 bc2 && Nat.ble r2.2.2.2.2.2 bs2) with
          | false => rw [hbk] at h; cases h
          | true =>
            rw [hbk, cond_true, zn_eq, zn_eq] at h
            rw [Bool.and_eq_true] at hbk
            have b1 := Nat.le_of_ble_eq_true hbk.1
            have b2 := Nat.le_of_ble_eq_true hbk.2
            obtain ⟨pc2, lv2, st2, hp2, nc2, ns2⟩ := r2
            have hRun : zRun E L kc d' (own2, y2, cc2, mL2, rt2, bc2, bs2) l dC dI cA (lv_args 0 (st.take na).reverse) hp (pc2, lv2, st2, hp2, nc2, ns2) := fun p e R s m args below meth c Q g A => hW2 _ hmc p l e R s m args below meth c Q dC dI cA g A
            have t3' : q.1 = pc2 := t3
            rw [t3'] at hdec
            cases rt2 with
            | none =>
              cases st2 with
              | cons _ _ => cases h
              | nil =>
                simp only at h
                have hd1 : decode cc2 pc2 = .ok (.return_, 1) := by
                  obtain ⟨q1, q2, q3, q4⟩ := q
                  cases q2 with
                  | return_ =>
                    have e9 : q3 = 1 := Nat.beq_eq.mp (show Nat.beq q3 1 = true from hq.2.1)
                    rw [e9] at hdec
                    exact hdec
                  | _ => cases hst
                have hM := zmetv (l := l) (dC := dC) (dI := dI) (cA := cA) (g := g) (ws := ws) (sz := H.size) (cas := (cst.take na).reverse) c4 hoy hkc hE hg7 r1 (zvs_rev z1) hlen b1 b2 hd1 hRun
                have hR9 := zrun (e := e) (below := below) (meth := meth) (locs := locs) (nc := nc) (ns := ns) hx hb hml hown hts hK r2' r3 r5.1 hM hz9 (zcwk_ok c1).1 (zcwk_ok c1).2 (of_decide_eq_true c2) (Nat.le_of_ble_eq_true c3) hi9 hRR hfit hcs h8 hn9 hrc hins hdg
                refine va_callv hR9 r4 (fun q _ h => hfree q h) hfree (fun u t H1 locs1 ht hvm hw hB hz1 hk1 hS => ?_)
                obtain ⟨hw1, hw2⟩ := hw
                obtain ⟨hP1, hK1, hD1⟩ := hB
                rw [ht] at hP1
                exact (IH k (d' + 1) (pc + 3) lv _ hp2 _ _ r h) me hme p l e R s m args below meth c Q dC dI cA g A F0' hr u H1 locs1 ls clv _ ⟨zh_g (g := zga g (zad ws)) rfl rfl (fun k a z => hw2 k a (r1.2.2 k a z)) hw1, hP1, hD1.weaken (fun _ q _ z => hfree q.1 z), hS, r5, zls_mono hw2 r6, zvs_mono hw2 z2⟩
            | some ty =>
              cases st2 with
              | nil => cases h
              | cons v st3 =>
                cases st3 with
                | cons _ _ => cases h
                | nil =>
                  simp only at h
                  cases hzt : zrt ty v with
                  | false => rw [hzt] at h; cases h
                  | true =>
                    rw [hzt, cond_true] at h
                    have hd1 : decode cc2 pc2 = .ok (.ireturn, 1) := by
                      obtain ⟨q1, q2, q3, q4⟩ := q
                      cases q2 with
                      | ireturn =>
                        have e9 : q3 = 1 := Nat.beq_eq.mp (show Nat.beq q3 1 = true from hq.2.1)
                        rw [e9] at hdec
                        exact hdec
                      | _ => cases hst
                    have hM := zmeti (l := l) (dC := dC) (dI := dI) (cA := cA) (g := g) (ws := ws) (sz := H.size) (cas := (cst.take na).reverse) c4 hoy hkc hE hg7 r1 (zvs_rev z1) hlen b1 b2 hzt hd1 hRun
                    have hR9 := zrun (e := e) (below := below) (meth := meth) (locs := locs) (nc := nc) (ns := ns) hx hb hml hown hts hK r2' r3 r5.1 hM hz9 (zcwk_ok c1).1 (zcwk_ok c1).2 (of_decide_eq_true c2) (Nat.le_of_ble_eq_true c3) hi9 hRR hfit hcs h8 hn9 hrc hins hdg
                    refine va_calli hR9 r4 (fun q _ h => hfree q h) hfree (fun x u t H1 locs1 ht hvm hw hB hz1 hk1 hS => ?_)
                    obtain ⟨⟨hw1, hw2⟩, hw3⟩ := hw
                    obtain ⟨hP1, hK1, hD1⟩ := hB
                    rw [ht] at hP1
                    exact (IH k (d' + 1) (pc + 3) lv _ hp2 _ _ r h) me hme p l e R s m args below meth c Q dC dI cA g A F0' hr u H1 locs1 ls clv _ ⟨zh_g (g := zga g (zad ws)) rfl rfl (fun k a z => hw2 k a (r1.2.2 k a z)) hw1, hP1, hD1.weaken (fun _ q _ z => hfree q.1 z), hS, r5, zls_mono hw2 r6, zv_g (g := zga g (zad ws)) rfl rfl hw3, zvs_mono hw2 z2⟩
set_option maxHeartbeats 4000000 in
theorem zgo_sound {zm : List ZMe} {zc : List (List ZI)} {zd : List (List Value)} {L sp : Nat} (hcl : zCl zd) (htab : zTab zm zc) : ∀ N : Nat, zP zm zc zd E L sp N := by
  intro N
  induction N with
  | zero =>
    intro k d pc lv st hp nc ns r h
    cases h
  | succ N IH =>
    intro k d pc lv st hp nc ns r h
    have h : zstep zm zc zd E L sp (zgo zm zc zd E L sp N) k d pc lv st hp nc ns = .ok r := h
    unfold zstep at h
    rw [zn_eq, zget_eq, zget_eq] at h
    cases hm : zm[k]? with
    | none => rw [hm] at h; cases h
    | some me =>
      cases hc : zc[k]? with
      | none => rw [hm, hc] at h; cases h
      | some tb =>
        rw [hm, hc] at h
        simp only at h
        cases hf : zft tb pc with
        | none => rw [hf] at h; cases h
        | some q =>
          rw [hf] at h
          simp only at h
          obtain ⟨f1, f2⟩ := zft_ok hf
          have hq := htab k me tb hm hc q f1
          unfold zok at hq
          simp only [Bool.and_eq_true] at hq
          obtain ⟨q1, q2, q3, q4⟩ := hq
          have hdg := of_decide_eq_true q1
          rw [f2] at hdg
          cases hs : (zstop me.2.2.2.2.1 q.2.1 || (Nat.beq k 1 && Nat.beq pc sp)) with
          | true =>
            rw [hs, cond_true] at h
            cases h
            exact fun me2 hm2 p l e R s m args below meth c Q dC dI cA g A F hw => hw
          | false =>
            rw [hs, cond_false] at h
            obtain ⟨pq, ins, len, lk⟩ := q
            intro me2 hm2 p l e R s m args below meth c Q dC dI cA g A F hw
            cases hm2
            have Hk : ∀ (pc : Nat) (lv : ZL) (st : List Value) (hp : List ZE) (nc ns : Nat), zgo zm zc zd E L sp N k d pc lv st hp nc ns = .ok r → zW p l e R s m args below meth c Q dC dI cA g A me.2.2.2.1 pc lv st hp nc ns := fun pc lv st hp nc ns h => IH k d pc lv st hp nc ns r h me hm p l e R s m args below meth c Q dC dI cA g A F hw
            have F0' := F
            obtain ⟨hx, hb, hml, hown, hts, hK, hA, hE, hg7, hRd, hRb, hI, hz9, hscr⟩ := F
            cases ins with
            | invokespecial idx =>
              have e9 : len = 3 := Nat.beq_eq.mp (show Nat.beq len 3 = true from q2)
              subst e9
              have h : zcl zm zc E (zgo zm zc zd E L sp N) k d me.2.2.2.2.2.1 me.2.2.2.2.2.2 lk pc lv st hp nc ns = .ok r := h
              match lk, h, q4 with
              | kd :: kc :: n :: ci :: is, h, q4 =>
                simp only [zcl] at h
                have q5 : cond (Nat.beq kd 6) (zchk [.methodLink me.1 idx objectInit, .instanceMethod objectInit, .code objectInit ⟨#[0xb1]⟩ 1 none] is) ((Nat.beq kd 4 || Nat.beq kd 5) && zcal zm me.1 idx kd kc n ci is) = true := q4
                cases h6 : Nat.beq kd 6 with
                | true =>
                  rw [h6, cond_true] at h q5
                  cases hd1 : Nat.ble 1 d with
                  | false => rw [hd1] at h; cases h
                  | true =>
                    rw [hd1, cond_true] at h
                    have hd2 := Nat.le_of_ble_eq_true hd1
                    have w := zchk_ok q5
                    exact zs_obj hx hb hml hown hts (Nat.le_trans hd2 hRd.1) (by omega) (w _ (by simp)) (w _ (by simp)) (w _ (by simp)) hdg h Hk
                | false =>
                  rw [h6, cond_false] at h q5
                  rw [Bool.and_eq_true, Bool.or_eq_true] at q5
                  cases h7 : Nat.beq kd 7 with
                  | true =>
                    have e7 := Nat.beq_eq.mp h7
                    rcases q5.1 with z | z
                    · have := Nat.beq_eq.mp z
                      omega
                    · have := Nat.beq_eq.mp z
                      omega
                  | false =>
                    rw [h7, cond_false] at h
                    cases h8 : Nat.beq kd 8 with
                    | true =>
                      have e8 := Nat.beq_eq.mp h8
                      rcases q5.1 with z | z
                      · have := Nat.beq_eq.mp z
                        omega
                      · have := Nat.beq_eq.mp z
                        omega
                    | false =>
                      rw [h8, cond_false] at h
                      exact zs_inv htab IH hm F0' q5.2 (Or.inr (Or.inr ⟨q5.1.imp Nat.beq_eq.mp Nat.beq_eq.mp, rfl⟩)) hdg h hw
              | [], h, q4 => cases h
              | [_], h, q4 => cases h
              | [_, _], h, q4 => cases h
              | [_, _, _], h, q4 => cases h
            | invokestatic idx =>
              have e9 : len = 3 := Nat.beq_eq.mp (show Nat.beq len 3 = true from q2)
              subst e9
              have h : zcl zm zc E (zgo zm zc zd E L sp N) k d me.2.2.2.2.2.1 me.2.2.2.2.2.2 lk pc lv st hp nc ns = .ok r := h
              match lk, h, q4 with
              | kd :: kc :: n :: ci :: is, h, q4 =>
                simp only [zcl] at h
                have q5 : cond (Nat.beq kd 7) (zchk [.methodLink me.1 idx arraycopyName, .native arraycopyName, .static arraycopyName, .initialized "java/lang/System"] is) (cond (Nat.beq kd 8) (zchk [.methodLink me.1 idx Lib.Math.max.name, .static Lib.Math.max.name, .initialized "java/lang/Math", .code Lib.Math.max.name Lib.Math.max.code 2 (some .int)] is) ((Nat.beq kd 0 || Nat.beq kd 1) && zcal zm me.1 idx kd kc n ci is)) = true := q4
                cases h7 : Nat.beq kd 7 with
                | true =>
                  have e7 := Nat.beq_eq.mp h7
                  cases h6 : Nat.beq kd 6 with
                  | true =>
                    have := Nat.beq_eq.mp h6
                    omega
                  | false =>
                    rw [h6, cond_false, h7, cond_true] at h
                    rw [h7, cond_true] at q5
                    cases hd1 : Nat.ble 1 d with
                    | false => rw [hd1] at h; cases h
                    | true =>
                      rw [hd1, cond_true] at h
                      have hd2 := Nat.le_of_ble_eq_true hd1
                      have w := zchk_ok q5
                      exact zs_cpy hx hb hml hown hts hK hE (Nat.le_trans hd2 hRd.1) (by omega) (w _ (by simp)) (w _ (by simp)) (w _ (by simp)) (w _ (by simp)) hdg h Hk
                | false =>
                  rw [h7, cond_false] at q5
                  cases h8 : Nat.beq kd 8 with
                  | true =>
                    have e8 := Nat.beq_eq.mp h8
                    cases h6 : Nat.beq kd 6 with
                    | true =>
                      have := Nat.beq_eq.mp h6
                      omega
                    | false =>
                      rw [h6, cond_false, h7, cond_false, h8, cond_true] at h
                      rw [h8, cond_true] at q5
                      cases hd1 : Nat.ble 1 d with
                      | false => rw [hd1] at h; cases h
                      | true =>
                        rw [hd1, cond_true] at h
                        have hd2 := Nat.le_of_ble_eq_true hd1
                        have w := zchk_ok q5
                        exact zs_max hx hb hml hown hts hE hRb.1 hRb.2 (Nat.le_trans hd2 hRd.1) (by omega) (w _ (by simp)) (w _ (by simp)) (w _ (by simp)) (w _ (by simp)) hdg h Hk
                  | false =>
                    rw [h8, cond_false] at q5
                    rw [Bool.and_eq_true, Bool.or_eq_true] at q5
                    cases h6 : Nat.beq kd 6 with
                    | true =>
                      have e6 := Nat.beq_eq.mp h6
                      rcases q5.1 with z | z
                      · have := Nat.beq_eq.mp z
                        omega
                      · have := Nat.beq_eq.mp z
                        omega
                    | false =>
                      rw [h6, cond_false, h7, cond_false, h8, cond_false] at h
                      exact zs_inv htab IH hm F0' q5.2 (Or.inl ⟨q5.1.imp Nat.beq_eq.mp Nat.beq_eq.mp, rfl⟩) hdg h hw
              | [], h, q4 => cases h
              | [_], h, q4 => cases h
              | [_, _], h, q4 => cases h
              | [_, _, _], h, q4 => cases h
            | invokevirtual idx =>
              have e9 : len = 3 := Nat.beq_eq.mp (show Nat.beq len 3 = true from q2)
              subst e9
              have h : zcl zm zc E (zgo zm zc zd E L sp N) k d me.2.2.2.2.2.1 me.2.2.2.2.2.2 lk pc lv st hp nc ns = .ok r := h
              match lk, h, q4 with
              | kd :: kc :: n :: ci :: is, h, q4 =>
                simp only [zcl] at h
                have q5 : (Nat.beq kd 2 && zcal zm me.1 idx kd kc n ci is) = true := q4
                rw [Bool.and_eq_true] at q5
                have e2 := Nat.beq_eq.mp q5.1
                subst e2
                exact zs_inv htab IH hm F0' q5.2 (Or.inr (Or.inl ⟨rfl, rfl⟩)) hdg h hw
              | [], h, q4 => cases h
              | [_], h, q4 => cases h
              | [_, _], h, q4 => cases h
              | [_, _, _], h, q4 => cases h
            | _ => exact zx_sound (y := me.2.1) hcl hz9 hx hb hown hts hK hA hE hg7 hRb.1 hRb.2 hI hscr hdg q2 q3 h Hk
end ZRN
