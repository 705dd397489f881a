/-! the whole run is the machine's -/
theorem smem1 {a : Nat} : ∀ {l : List Nat}, smn1 a l = true → a ∈ l := by
  intro l
  induction l with
  | nil => intro h; cases h
  | cons b r ih =>
    intro h
    unfold smn1 at h
    cases hc : Nat.beq a b with
    | true => rw [Nat.beq_eq.mp hc]; exact List.mem_cons_self
    | false => rw [hc, cond_false] at h; exact List.mem_cons_of_mem _ (ih h)
/-- what a run wants to be told of its place -/
def sCtx (zm : List ZMe) (fm : List SF) (rg : SRg) (EX : SEx) (l : Launch) (dC : Nat → ClassId) (dI : Nat → Nat → Nat) (cA : Nat → ClassId) (scrS : Nat) (cts : List (List SC)) (N : Nat) : Prop :=
  sEXok EX ∧ sDP rg ∧ sST fm rg ∧ sCHR EX l dC dI cA scrS ∧ (∀ A s H, EX A s H → ∃ tx, vk_R "NamesUnder$OrderReader" 159 tx scrS s) ∧ (∀ (ci : Nat) (C : String) (T : u_T) (N : Nat), vwCl[ci]? = some (C, T, N) → (∀ w ∈ u_ws C T N, w ∈ zT) ∧ ∃ ty0 : Nat → FieldType, (∀ k, k < N → parseFieldDescriptor (T k).2.2.1 = some (ty0 k)) ∧ ∀ a, a < N → ∀ b, b < N → a ≠ b → (T a).2.1 ≠ (T b).2.1) ∧
  (∀ kc Cs, cts[kc]? = some Cs → ∀ C ∈ Cs, C.1 < N → C.2.1 = kc ∧ sCok zm fm rg EX l dC dI cA scrS C) ∧ (1 ≤ N → sLAY fm rg EX l dC dI cA) ∧ ∀ i, scl rg 2 i = 0
def sPn (zm : List ZMe) (fm : List SF) (rg : SRg) (EX : SEx) (l : Launch) (dC : Nat → ClassId) (dI : Nat → Nat → Nat) (cA : Nat → ClassId) (scrS : Nat) (md : List (Nat × Nat)) (wl : List (Nat × SE)) (D0 : Nat) (rec9 : Nat → Nat → SRt) : Prop := ∀ (k d pc : Nat) (lv : SL) (st : List SV) (w : SW) (xs : List SS), d ≤ D0 → sub (rec9 k d pc lv st w) xs → ∀ (me : ZMe), zm[k]? = some me → ∀ (p : Program) (e : Env) (R : Room) (s : State) (m : MethodId) (args : Array Value) (below : List Frame) (meth : Method) (c : Code) (Q : State → Prop) (A : Nat → Prop) (wr : SWr) (scr n0 : Nat) (ρ0 : Nat → Int) (M0 : SMem) (ad0 : SAd) (nc0 ns0 : Nat), sF d me EX p R s m args c dC dI cA A → nc0 + me.2.2.2.2.2.1 ≤ R.cells → ns0 + me.2.2.2.2.2.2 ≤ R.slots → sWR md wl n0 ρ0 wr → (k = 0 → sSCR rg scr s A M0 wr) → (k ≠ 0 → scr = scrS) → (∀ X ∈ xs, sW p l e R s m args below meth c Q dC dI cA A me.2.2.2.1 fm rg sX sfI wr scr n0 ρ0 M0 ad0 nc0 ns0 X.1 X.2.1 X.2.2.1 X.2.2.2) →
  sW p l e R s m args below meth c Q dC dI cA A me.2.2.2.1 fm rg sX sfI wr scr n0 ρ0 M0 ad0 nc0 ns0 pc lv st w
def srd (me : ZMe) (pc : Nat) : Prop := match me.2.2.2.2.1 with
  | none => decode me.2.2.1 pc = .ok (.return_, 1)
  | some _ => decode me.2.2.1 pc = .ok (.ireturn, 1)
theorem srp_ok {zm : List ZMe} {zc : List (List ZI)} {kc pc : Nat} {me : ZMe} (htab : sTab zm zc) (hme : zm[kc]? = some me) (h : srp zc kc me.2.2.2.2.1 pc = true) : srd me pc := by
  unfold srp at h
  rw [zget_eq] at h
  cases hc : zc[kc]? with
  | none => rw [hc] at h; cases h
  | some tb =>
    rw [hc] at h
    simp only at h
    cases hf : zft tb pc with
    | none => rw [hf] at h; cases h
    | some q =>
      rw [hf] at h
      obtain ⟨f1, f2⟩ := zft_ok hf
      have hq := htab kc me tb hme hc q f1
      unfold sok at hq
      simp only [Bool.and_eq_true] at hq
      have hdec := of_decide_eq_true hq.1
      rw [f2] at hdec
      obtain ⟨q1, ins, len, lk⟩ := q
      unfold srd
      cases hrt : me.2.2.2.2.1 with
      | none =>
        rw [hrt] at h
        cases ins with
        | return_ =>
          have e9 : len = 1 := Nat.beq_eq.mp (show Nat.beq len 1 = true from hq.2.1)
          rw [e9] at hdec
          exact hdec
        | _ => cases h
      | some ty =>
        rw [hrt] at h
        cases ins with
        | ireturn =>
          have e9 : len = 1 := Nat.beq_eq.mp (show Nat.beq len 1 = true from hq.2.1)
          rw [e9] at hdec
          exact hdec
        | _ => cases h
def srtv (rt : Option FieldType) (cst : List Value) : Prop := match rt with
  | none => cst = []
  | some ty => ∃ x : Int32, cst = [.int x] ∧ narrow ty (.int x) = .int x
theorem srtk_ok {rt : Option FieldType} {K : SK} {st : List SV} {fm : List SF} {scr : Nat} {ρ : Nat → Int} {ad : SAd} {cst : List Value} (hK : sK ρ K) (h : srtk rt K st = true) (hs : svs fm scr ρ ad st cst) : srtv rt cst := by
  cases rt with
  | none =>
    cases st with
    | nil => exact svs_nil hs
    | cons _ _ => cases h
  | some ty =>
    match st, h with
    | [], h => cases h
    | _ :: _ :: _, h => cases h
    | [v], h =>
      obtain ⟨h1, h2⟩ := bcond (show cond (Nat.beq v.1 0) _ false = true from h)
      obtain ⟨c, r, rfl, h3, h4⟩ := svs_cons hs
      cases svs_nil h4
      obtain ⟨x, rfl, e1⟩ := sv_int h1 h3
      refine ⟨x, rfl, ?_⟩
      cases ty with
      | int => rfl
      | boolean =>
        have h5 := sin_ok hK h2
        have h6 : x = 0 ∨ x = 1 := by
          by_cases h : x.toInt = 0
          · exact Or.inl (Int32.toInt_inj.mp h)
          · exact Or.inr (Int32.toInt_inj.mp (show x.toInt = 1 by omega))
        rcases h6 with rfl | rfl <;> rfl
      | _ => cases h2
theorem scont_ok {ok : Nat → Bool} {rt : Option FieldType} {bc bs : Nat} {w0 : SW} {pc : Nat} {lv : SL} {rest : List SV} {ret : SRt} {xs : List SS} {Y : SS} : ∀ {ys : List SS}, Y ∈ ys → sub (scont ok rt bc bs w0 pc lv rest ret ys) xs → ok Y.1 = true ∧ srtk rt Y.2.2.2.2.2.1 Y.2.2.1 = true ∧ Y.2.2.2.2.2.2.1 ≤ bc ∧ Y.2.2.2.2.2.2.2 ≤ bs ∧ sub (ret (pc + 3) lv (Y.2.2.1 ++ rest) (Y.2.2.2.1, Y.2.2.2.2.1, Y.2.2.2.2.2.1, w0.2.2.2.1 + bc, w0.2.2.2.2 + bs)) xs := by
  intro ys
  induction ys with
  | nil => intro h; cases h
  | cons Z r ih =>
    intro h hs
    obtain ⟨h1, h2⟩ := sub_app hs
    rcases List.mem_cons.mp h with rfl | h
    · obtain ⟨h3, h4⟩ := sub_cond h1
      rw [sn_eq, sn_eq] at h4
      simp only [Bool.and_eq_true] at h3
      exact ⟨h3.1, h3.2.1, Nat.le_of_ble_eq_true h3.2.2.1, Nat.le_of_ble_eq_true h3.2.2.2, h4⟩
    · exact ih h h2
section SIN
variable {zm : List ZMe} {fm : List SF} {rg : SRg} {EX : SEx} {l : Launch} {dC : Nat → ClassId} {dI : Nat → Nat → Nat} {cA : Nat → ClassId} {scrS : Nat} {cts : List (List SC)} {zc : List (List ZI)} {N D0 : Nat} {md : List (Nat × Nat)} {wl : List (Nat × SE)} {rec9 : Nat → Nat → SRt}
set_option maxHeartbeats 1000000 in
theorem sinv_ok (hX : sCtx zm fm rg EX l dC dI cA scrS cts N) (IH : sPn zm fm rg EX l dC dI cA scrS md wl D0 rec9) (htab : sTab zm zc) {k d kd kc n ci idx pc : Nat} {is : List Nat} {ins : Instr} {me : ZMe} {lv : SL} {st : List SV} {w : SW} {xs : List SS} (hd0 : d ≤ D0) (hme : zm[k]? = some me) (hcal : zcal zm me.1 idx kd kc n ci is = true) (hins : (kd = 0 ∨ kd = 1) ∧ ins = .invokestatic idx ∨ kd = 2 ∧ ins = .invokevirtual idx) (hdg : decode me.2.2.1 pc = .ok (ins, 3))
    (h : sub (sinv zm zc fm rg cts md wl N rec9 k d me kd kc n ci pc lv st w) xs)
    {p : Program} {e : Env} {R : Room} {s : State} {m : MethodId} {args : Array Value} {below : List Frame} {meth : Method} {c : Code} {Q : State → Prop} {A : Nat → Prop} {wr : SWr} {scr n0 : Nat} {ρ0 : Nat → Int} {M0 : SMem} {ad0 : SAd} {nc0 ns0 : Nat} (F : sF d me EX p R s m args c dC dI cA A) (hb01 : nc0 + me.2.2.2.2.2.1 ≤ R.cells) (hb02 : ns0 + me.2.2.2.2.2.2 ≤ R.slots) (hwr : sWR md wl n0 ρ0 wr) (hs0 : k = 0 → sSCR rg scr s A M0 wr) (hs1 : k ≠ 0 → scr = scrS)
    (Hk : ∀ (pc : Nat) (lv : SL) (st : List SV) (w : SW), sub (rec9 k d pc lv st w) xs → sW p l e R s m args below meth c Q dC dI cA A me.2.2.2.1 fm rg sX sfI wr scr n0 ρ0 M0 ad0 nc0 ns0 pc lv st w) : sW p l e R s m args below meth c Q dC dI cA A me.2.2.2.1 fm rg sX sfI wr scr n0 ρ0 M0 ad0 nc0 ns0 pc lv st w := by
  obtain ⟨x1, x2, x3, x4, x5, x6, x7, x8, x9⟩ := hX
  cases d with
  | zero => exact (sub_none h).elim
  | succ d' =>
    cases hmc : zm[kc]? with
    | none =>
      unfold sinv at h
      rw [zget_eq, hmc] at h
      exact (sub_none h).elim
    | some me2 =>
      unfold sinv at h
      rw [zget_eq, hmc] at h
      simp only [sn_eq, sll_eq] at h
      generalize hna : cond (Nat.ble kd 1) n (n + 1) = na at h
      obtain ⟨hck, h⟩ := sub_cond h
      simp only [Bool.and_eq_true] at hck
      obtain ⟨k1, k2, k3, k4, k5, k6⟩ := hck
      have hlw : (Nat.beq k 0) = false → scr = scrS := fun q => hs1 (fun z => by rw [z] at q; cases q)
      intro ρ M ad ws H locs ls clv cst hr
      rw [zget_eq] at h
      have hinl : ∀ {h9 : SX}, h9 = cond (sall (fun q => sbe w.2.1 q.2.2.2) lv && (sall (fun v => sbe w.2.1 v.2.2) (st.drop na) && (sall (fun q => snad md q.2) lv && (sall (snad md) (st.drop na) && (cond (Nat.beq k 0) (sno3 (st.take na).reverse) true && !(Nat.beq kc 0)))))) (match rec9 kc d' 0 (sargs 0 (st.take na).reverse) [] (w.1, w.2.1, w.2.2.1, 0, 0) with
        | some ys => scont (srp zc kc me2.2.2.2.2.1) me2.2.2.2.2.1 me2.2.2.2.2.2.1 me2.2.2.2.2.2.2 w pc lv (st.drop na) (rec9 k (d' + 1)) ys
        | none => none) none → sub h9 xs → W p l e R s m args below meth c H locs (nc0 + w.2.2.2.1) (ns0 + w.2.2.2.2) Q (F0 m pc ls cst) := by
        intro h9 e9 h
        subst e9
        obtain ⟨hck, h⟩ := sub_cond h
        simp only [Bool.and_eq_true] at hck
        obtain ⟨c1, c2, c3, c4, c5, c6⟩ := hck
        cases hys : rec9 kc d' 0 (sargs 0 (st.take na).reverse) [] (w.1, w.2.1, w.2.2.1, 0, 0) with
        | none => rw [hys] at h; exact (sub_none h).elim
        | some ys =>
          rw [hys] at h
          simp only at h
          have hkc : kc ≠ 0 := fun q => by rw [q] at c6; cases c6
          obtain ⟨⟨ag, hn, hK⟩, ⟨r1, hI, hmo, hfr⟩, r2, r3, r4, r5, r6, r7⟩ := hr
          obtain ⟨t1, t2⟩ := svs_take na r7
          have hsa : svs fm scr ρ ad (st.take na).reverse (cst.take na).reverse := svs_rev t1
          have hsS : svs fm scrS ρ ad (st.take na).reverse (cst.take na).reverse := by
            cases hl : Nat.beq k 0 with
            | false => rw [← hlw hl]; exact hsa
            | true =>
              rw [hl, cond_true] at c5
              exact svs_scr c5 hsa
          have hcal2 := hcal
          unfold zcal at hcal2
          rw [hmc] at hcal2
          simp only [Bool.and_eq_true] at hcal2
          have hcs : cst = ((cst.take na).reverse).reverse ++ cst.drop na := by
            rw [List.reverse_reverse, List.take_append_drop]
          have h8 : ((cst.drop na).map fun v => v.category).sum ≤ 8 := by
            rw [svs_sum t2]
            exact Nat.le_of_ble_eq_true k2
          have hlen : (lg_sl (cst.take na).reverse).length ≤ me2.2.2.2.1 := by
            rw [slens hsa]
            exact Nat.le_of_ble_eq_true k3
          have hn9 : ((cst.take na).reverse).length = if kd ≤ 1 then n else n + 1 := by
            rw [svs_len hsa, Nat.beq_eq.mp k1, ← hna]
            by_cases hkk : kd ≤ 1
            · rw [if_pos hkk, Nat.ble_eq_true_of_le hkk]
              rfl
            · rw [if_neg hkk]
              cases hb9 : Nat.ble kd 1 with
              | true => exact absurd (Nat.le_of_ble_eq_true hb9) hkk
              | false => rfl
          have hrc := srecv (y := me2.2.1) F.2.2.2.2.2.1 r2 r1 hsa k6 hcal2.2.2.2.2.2.1
          have hRun : sRun d' me2 EX l dC dI cA ws (cst.take na).reverse (fun rr ws' => ∃ Y ∈ ys, ∃ (ρ' : Nat → Int) (M' : SMem) (ad' : SAd), (∀ t, t < w.2.1 → ρ' t = ρ t) ∧ w.2.1 ≤ Y.2.2.2.2.1 ∧ sK ρ' Y.2.2.2.2.2.1 ∧ (sH fm ad' M' cA ws' ∧ (sI rg M' ∧ sX M') ∧ smo sfI ρ' M' Y.2.2.2.1 ∧ sfr rg M0 M' ad0 ad' wr) ∧ svs fm scrS ρ' ad' Y.2.2.1 rr) := by
            intro p2 e2 R2 s2 m2 args2 below2 meth2 c2 Q2 A2 ls2 F2 hP2 hD2 hl2 hend
            have hwr2 : sWR md wl w.2.1 ρ wr := ⟨hwr.1, fun q hq => by
              obtain ⟨ee, e1, e2, e3⟩ := hwr.2 q hq
              refine ⟨ee, e1, ?_, ?_⟩
              · have hmono : ∀ {l : List (Nat × Int)}, sbl n0 l = true → sbl w.2.1 l = true := by
                  intro l
                  induction l with
                  | nil => intro _; rfl
                  | cons q r ih =>
                    intro h
                    simp only [sbl, Bool.and_eq_true] at h ⊢
                    exact ⟨Nat.blt_eq.mpr (Nat.lt_of_lt_of_le (zblt h.1) hn), ih h.2⟩
                exact hmono e2
              · rw [e3, sbe_ev ag e2]⟩
            have := IH kc d' 0 (sargs 0 (st.take na).reverse) [] (w.1, w.2.1, w.2.2.1, 0, 0) ys (by omega) ⟨ys, hys, fun X hX => hX⟩ me2 hmc p2 e2 R2 s2 m2 args2 below2 meth2 c2 Q2 A2 wr scrS w.2.1 ρ M0 ad0 0 0 F2 (by rw [Nat.zero_add]; exact F2.2.2.2.2.2.2.2.2.1.1) (by rw [Nat.zero_add]; exact F2.2.2.2.2.2.2.2.2.1.2) hwr2 (fun q => absurd q hkc) (fun _ => rfl) (fun Y hY => by
              intro ρ' M' ad' ws' H' locs' ls' clv' cst' hr'
              obtain ⟨⟨ag', hn', hK'⟩, ⟨r1', hI', hmo', hfr'⟩, r2', r3', r4', r5', r6', r7'⟩ := hr'
              obtain ⟨y0, y1, y2, y3, y4⟩ := scont_ok hY h
              have hret := srp_ok htab hmc y0
              unfold srd at hret
              have hst := srtk_ok hK' y1 r7'
              simp only [Nat.zero_add]
              refine hend Y.1 ls' cst' ws' H' locs' _ _ ?_ ⟨Y, hY, ρ', M', ad', ag', hn', hK', ⟨r1', hI', hmo', hfr'⟩, r7'⟩ r2' r3' r4' y2 y3
              unfold sret
              cases hrt : me2.2.2.2.2.1 with
              | none =>
                rw [hrt] at hret hst
                exact ⟨hret, hst⟩
              | some ty =>
                rw [hrt] at hret hst
                exact ⟨hret, hst⟩)
            have hW := this ρ M ad ws s2.heap [] ls2 (lv_args 0 (cst.take na).reverse) [] ⟨⟨fun _ _ => rfl, Nat.le_refl _, hK⟩, ⟨r1, hI, hmo, hfr⟩, hP2, hD2, va_S.rf, hl2, sls_args 0 hsS, trivial⟩
            exact hW
          refine scall x1 F hmc hcal hRun r2 r3 r4 r5 hcs h8 hlen hn9 hrc ⟨by have := Nat.le_of_ble_eq_true k4; omega, by have := Nat.le_of_ble_eq_true k5; omega⟩ hins hdg (fun rr ws' H1 locs1 hPO q1 q2 q3 => ?_)
          obtain ⟨Y, hY, ρ', M', ad', z1, z2, z3, ⟨z4, z5, z6, z7⟩, z8⟩ := hPO
          obtain ⟨y0, y1, y2, y3, y4⟩ := scont_ok hY h
          have hst : svs fm scr ρ' ad' Y.2.2.1 rr := by
            have := srtk_ok (rt := me2.2.2.2.2.1) z3 y1 z8
            refine svs_scr ?_ z8
            cases hrt : me2.2.2.2.2.1 with
            | none =>
              rw [hrt] at y1
              cases hY9 : Y.2.2.1 with
              | nil => rfl
              | cons _ _ => rw [hY9] at y1; cases y1
            | some ty =>
              rw [hrt] at y1
              match hY9 : Y.2.2.1, y1 with
              | [], y1 => cases y1
              | _ :: _ :: _, y1 => cases y1
              | [v], y1 =>
                obtain ⟨h1, h2⟩ := bcond (show cond (Nat.beq v.1 0) _ false = true from y1)
                show cond (!(Nat.beq v.1 3)) true false = true
                rw [Nat.beq_eq.mp h1]
                rfl
          have hadx : ∀ f j, (f, 999999) ∉ md → ad' f j = ad f j := fun f j hf => by
            rw [← hwr.1] at hf
            rw [z7.2.1 f j hf, hfr.2.1 f j hf]
          have hlv2 : sls fm scr ρ' ad' lv clv := by
            have h1 := sls_ag z1 c1 r6
            exact sls_mono (fun v => snad md v) (fun v c q1 q2 => sv_ad hadx q1 q2) (fun q hq => sall_ok c3 q hq) h1
          have hrs2 : svs fm scr ρ' ad' (st.drop na) (cst.drop na) := by
            have h1 := svs_ag z1 c2 t2
            exact svs_mono (fun v => snad md v) (fun v c q1 q2 => sv_ad hadx q1 q2) (fun q hq => sall_ok c4 q hq) h1
          have := Hk _ _ _ _ y4 ρ' M' ad' ws' H1 locs1 ls clv _ ⟨⟨fun t ht => (z1 t (Nat.lt_of_lt_of_le ht hn)).trans (ag t ht), Nat.le_trans hn z2, z3⟩, ⟨z4, z5, z6, z7⟩, q1, q2, q3, r5, hlv2, svs_app hst hrs2⟩
          simp only [Nat.add_assoc] at this ⊢
          exact this
      cases hcc : cts[kc]? with
      | none => rw [hcc] at h; exact hinl rfl h
      | some Cs =>
        cases Cs with
        | nil => rw [hcc] at h; exact hinl rfl h
        | cons C r =>
          rw [hcc] at h
          simp only at h
          exact sct_ok (lw := Nat.beq k 0) (scrS := scrS) x1 x2 x3 F rfl hb01 hb02 hmc hcal hwr hlw hna rfl rfl (Nat.beq_eq.mp k1) (Nat.le_of_ble_eq_true k2) (Nat.le_of_ble_eq_true k3) k6 hins hdg Hk (x7 kc _ hcc) (Nat.le_of_ble_eq_true k4) (Nat.le_of_ble_eq_true k5) hr h
end SIN
