/-! the class's feed, by hand: how long the tape is behind it -/
section SST2
variable {p : Program} {l : Launch} {e : Env} {R : Room} {s : State} {m : MethodId} {args : Array Value} {below : List Frame} {meth : Method} {c : Code} {Q : State → Prop} {dC : Nat → ClassId} {dI : Nat → Nat → Nat} {cA : Nat → ClassId} {A : Nat → Prop} {cc : ByteArray} {own : String} {pc nc ns : Nat} {fm : List SF} {ad : SAd} {M : SMem} {ws : va_W} {H : Heap} {locs : List Loc} {ls : Array Slot} {rest : List Value}
/-- a number put into a row of ints -/
theorem cstI (hI : sInj fm) (hk : sfmok fm) (hx : p.tables.exec = Jvm.exec) (hb : c.code = cc) (hKv : va_K (dC, dI) vwCl (ztys cA) s) (hH : sH fm ad M cA ws) (hP : va_P (dC, dI) vwCl ws H) (hD : va_D A ws) (hS : va_S A s.heap H locs) {f j : Nat} {en : SF} {a : Nat × Nat × Nat × Nat} (hen : fm[f]? = some en) (ha : en.2.2.2 = .inr a) (z0 : a.1 = 0) (hj : j < en.2.2.1) {i x : Int32} (i0 : 0 ≤ i.toInt) (i1 : i.toInt < (slen M j a : Int)) (hdg : decode cc pc = .ok (.iastore, 1))
    (kk : ∀ (ws' : va_W) (H1 : Heap) (locs1 : List Loc), sH fm ad (supd M f j i.toNatClampNeg x.toInt) cA ws' → va_P (dC, dI) vwCl ws' H1 → va_D A ws' → va_S A s.heap H1 locs1 → W p l e R s m args below meth c H1 locs1 nc ns Q (F0 m (pc + 1) ls rest)) : W p l e R s m args below meth c H locs nc ns Q (F0 m pc ls (.int x :: .int i :: .ref (ad f j) :: rest)) := by
  obtain ⟨wv, hwv, hse⟩ := hH f en hen j hj
  unfold sHe at hse
  rw [ha] at hse
  obtain ⟨g, rfl, hg⟩ := hse.1 (by omega)
  rw [z0] at hwv
  refine va_iast hx hb hKv hP hD hS _ 0 hwv rfl (vp_in_iff.mpr ⟨i0, i1⟩) hdg (fun H1 locs1 p1 p2 p3 => ?_)
  refine kk _ H1 locs1 (sH_set hI hk hH hen hj ?_) p1 p2 p3
  have hlt : f < fm.length := (List.getElem?_eq_some_iff.mp hen).1
  have hsl : slen (supd M f j i.toNatClampNeg x.toInt) j a = slen M j a := slen_congr (fun hz => supd_f (by have := hk f en a hen ha hz; omega))
  unfold sHe
  rw [ha]
  exact ⟨fun _ => ⟨_, by rw [hsl, z0], supd_upd hg⟩, fun q => by omega, fun q => by omega⟩
/-- a sign put into a row of chars -/
theorem cstC (hI : sInj fm) (hk : sfmok fm) (hx : p.tables.exec = Jvm.exec) (hb : c.code = cc) (hKv : va_K (dC, dI) vwCl (ztys cA) s) (hH : sH fm ad M cA ws) (hP : va_P (dC, dI) vwCl ws H) (hD : va_D A ws) (hS : va_S A s.heap H locs) {f j : Nat} {en : SF} {a : Nat × Nat × Nat × Nat} (hen : fm[f]? = some en) (ha : en.2.2.2 = .inr a) (z0 : a.1 = 2) (hj : j < en.2.2.1) {i x : Int32} (i0 : 0 ≤ i.toInt) (i1 : i.toInt < (slen M j a : Int)) (x0 : 0 ≤ x.toInt) (x1 : x.toInt ≤ 65535) (hdg : decode cc pc = .ok (.castore, 1))
    (kk : ∀ (ws' : va_W) (H1 : Heap) (locs1 : List Loc), sH fm ad (supd M f j i.toNatClampNeg x.toInt) cA ws' → va_P (dC, dI) vwCl ws' H1 → va_D A ws' → va_S A s.heap H1 locs1 → W p l e R s m args below meth c H1 locs1 nc ns Q (F0 m (pc + 1) ls rest)) : W p l e R s m args below meth c H locs nc ns Q (F0 m pc ls (.int x :: .int i :: .ref (ad f j) :: rest)) := by
  obtain ⟨wv, hwv, hse⟩ := hH f en hen j hj
  unfold sHe at hse
  rw [ha] at hse
  obtain ⟨g, rfl, hg⟩ := hse.1 (by omega)
  rw [z0] at hwv
  have hn := snarc x0 x1
  refine va_cast hx hb hKv hP hD hS _ 2 hwv rfl (vp_in_iff.mpr ⟨i0, i1⟩) hdg (by
    rw [hn]
    intro H1 locs1 p1 p2 p3
    refine kk _ H1 locs1 (sH_set hI hk hH hen hj ?_) p1 p2 p3
    have hlt : f < fm.length := (List.getElem?_eq_some_iff.mp hen).1
    have hsl : slen (supd M f j i.toNatClampNeg x.toInt) j a = slen M j a := slen_congr (fun hz => supd_f (by have := hk f en a hen ha hz; omega))
    unfold sHe
    rw [ha]
    exact ⟨fun _ => ⟨_, by rw [hsl, z0], supd_upd hg⟩, fun q => by omega, fun q => by omega⟩)
end SST2
theorem fadd1 {y : Int32} {n : Nat} (h : y.toInt = (n : Int)) (h1 : n < 2147483647) : (y + 1).toInt = (n : Int) + 1 := siadd ⟨by omega, by omega⟩ (by rw [h]; rfl)
theorem zkb1 {x : Int32} (h : zkb x = 1) : x = 10 ∨ (¬ x < 32 ∧ ¬ 126 < x) := by
  unfold zkb at h
  split at h
  · assumption
  · cases h
theorem zkb_in {x : Int32} (h : zkb x = 1) : 10 ≤ x.toInt ∧ x.toInt ≤ 126 := by
  rcases zkb1 h with h | ⟨h1, h2⟩
  · rw [h]
    exact ⟨by decide, by decide⟩
  · have k1 : ¬ x.toInt < (32 : Int32).toInt := fun q => h1 (Int32.lt_iff_toInt_lt.mpr q)
    have k2 : ¬ (126 : Int32).toInt < x.toInt := fun q => h2 (Int32.lt_iff_toInt_lt.mpr q)
    have e1 : (32 : Int32).toInt = 32 := by decide
    have e2 : (126 : Int32).toInt = 126 := by decide
    omega
/-- the class's tape: what is the same, the bounds, how long it is -/
def xInv (M0 : SMem) (n : Nat) (M : SMem) : Prop := (∀ f j i, ¬ (f = 3 ∧ i = 1) → f ≠ 57 → M f j i = M0 f j i) ∧ sI tg M ∧ M 3 0 1 = (n : Int) ∧ n ≤ 1000
def meAd : ZMe := (RX7, yX7_addSign, cX7_addSign, 3, none, 0, 0)
def meTa : ZMe := (RX7, yX7_take, cX7_take, 4, none, 0, 0)
def meFx : ZMe := (RX9, yX9_feed, cX9_feed, 7, some .int, 0, 0)
theorem zf_len : Cond.fieldLink RX7 15 (TX7 1).1 (TX7 1).2.1 (TX7 1).2.2.1 ∈ zT := zchk_ok (ws := [_]) (is := [156]) (by decide +kernel) _ (List.Mem.head _)
theorem zf_sig : Cond.fieldLink RX7 9 (TX7 0).1 (TX7 0).2.1 (TX7 0).2.2.1 ∈ zT := zchk_ok (ws := [_]) (is := [152]) (by decide +kernel) _ (List.Mem.head _)
theorem zf_tap : Cond.fieldLink RX9 10 (TX9 0).1 (TX9 0).2.1 (TX9 0).2.2.1 ∈ zT := zchk_ok (ws := [_]) (is := [521]) (by decide +kernel) _ (List.Mem.head _)
theorem zf_len9 : Cond.fieldLink RX9 81 (TX7 1).1 (TX7 1).2.1 (TX7 1).2.2.1 ∈ zT := zchk_ok (ws := [_]) (is := [157]) (by decide +kernel) _ (List.Mem.head _)
theorem zw_add : ∀ w ∈ zcw RX7 25 2 yX7_addSign cX7_addSign 3 none, w ∈ zT := zchk_ok (is := [557, 559, 118, 560, 0]) (by decide +kernel)
theorem zw_take : ∀ w ∈ zcw RX9 77 2 yX7_take cX7_take 4 none, w ∈ zT := zchk_ok (is := [553, 554, 118, 556, 555]) (by decide +kernel)
theorem cE3_at : tf[3]? = some (1, 1, 1, .inl (6, [(1, 57, 0), (0, 0, 0), (0, 0, 0), (0, 0, 0)])) := rfl
theorem cE57_at : tf[57]? = some (2, 1, 1, .inr (2, 0, 1000, 0)) := rfl
section SFX
variable {EX : SEx} {l : Launch} {dC : Nat → ClassId} {dI : Nat → Nat → Nat} {cA : Nat → ClassId} {ad : SAd} {M0 : SMem}
set_option maxHeartbeats 4000000 in
theorem fr_add {ws : va_W} {M : SMem} {n : Nat} {x : Int32} (hH : sH tf ad M cA ws) (hv : xInv M0 n M) : sRun 0 meAd EX l dC dI cA ws [.ref (ad 3 0), .int x] (fun r ws' => r = [] ∧ ∃ M', sH tf ad M' cA ws' ∧ xInv M0 (zst n x) M') := by
  intro p e R s m args below meth c Q A ls F hP hD hl hend
  obtain ⟨hx, hb, hml, hown, hts, hK, hA, hRd, hRb, hE9⟩ := F
  have hb : c.code = cX7_addSign := hb
  have hown : s.vm.findClass RX7 = some m.cls := hown
  have hl : lv_has ls 3 [(0, .ref (ad 3 0)), (1, .int x)] := hl
  have hno : zkb x = 0 → W p l e R s m args below meth c s.heap [] 0 0 Q (F0 m 22 ls []) := by
    intro h0
    refine lv_iconst (v := 0) hx hb dX7_addSign_22 (by decide) ?_
    refine lv_istore_n (lv' := [(2, .int 0), (0, .ref (ad 3 0)), (1, .int x)]) hx hb dX7_addSign_23 rfl hl (by decide) rfl (fun ls hl => ?_)
    refine lv_iload_n hx hb dX7_addSign_24 rfl (lv_at hl 0 rfl) ?_
    refine lv_if_eq (tgt := 59) hx hb dX7_addSign_25 (by decide) (fun _ => ?_) (fun c9 => absurd rfl c9)
    exact hend 59 ls [] ws s.heap [] 0 0 ⟨dX7_addSign_59, rfl⟩ ⟨rfl, M, hH, by rw [show zst n x = n from if_neg (fun q => by rw [h0] at q; cases q.1)]; exact hv⟩ hP hD va_S.rf (Nat.le_refl _) (Nat.le_refl _)
  have hyes : zkb x = 1 → W p l e R s m args below meth c s.heap [] 0 0 Q (F0 m 18 ls []) := by
    intro h1
    have hxb := zkb_in h1
    refine lv_iconst (v := 1) hx hb dX7_addSign_18 (by decide) ?_
    refine lv_goto (tgt := 23) hx hb dX7_addSign_19 (by decide) ?_
    refine lv_istore_n (lv' := [(2, .int 1), (0, .ref (ad 3 0)), (1, .int x)]) hx hb dX7_addSign_23 rfl hl (by decide) rfl (fun ls hl => ?_)
    refine lv_iload_n hx hb dX7_addSign_24 rfl (lv_at hl 0 rfl) ?_
    refine lv_if_eq (tgt := 59) hx hb dX7_addSign_25 (by decide) (fun c9 => absurd c9 (by decide)) (fun _ => ?_)
    refine lv_aload_n hx hb dX7_addSign_28 rfl (lv_at hl 1 rfl) ?_
    refine cgetI (C := RX7) (T := TX7) (N := 4) hx hb hown hts hK zin6 rfl hH hP cE3_at rfl Nat.zero_lt_one (by decide) rfl zf_len dX7_addSign_29 (fun y ey => ?_)
    rw [hv.2.2.1] at ey
    refine lv_sipush (v := 1000) hx hb dX7_addSign_32 (by decide) ?_
    have e1000 : (1000 : Int32).toInt = 1000 := by decide
    refine zw_icmp hx hb dX7_addSign_35 (tgt := 59) rfl (fun q => ?_) (fun q => ?_)
    · have q2 := szro.mp q
      simp only [sCmp] at q2
      exact hend 59 ls [] ws s.heap [] 0 0 ⟨dX7_addSign_59, rfl⟩ ⟨rfl, M, hH, by rw [show zst n x = n from if_neg (fun z => by omega)]; exact hv⟩ hP hD va_S.rf (Nat.le_refl _) (Nat.le_refl _)
    · have hn : n < 1000 := by
        by_cases hc : n < 1000
        · exact hc
        · have h9 : zro .ge y.toInt (1000 : Int32).toInt = true := szro.mpr (by simp only [sCmp]; omega)
          rw [h9] at q
          cases q
      refine lv_aload_n hx hb dX7_addSign_38 rfl (lv_at hl 1 rfl) ?_
      refine cgetR (C := RX7) (T := TX7) (N := 4) hx hb hown hts hK zin6 rfl hH hP cE3_at rfl Nat.zero_lt_one (by decide) rfl zf_sig dX7_addSign_39 ?_
      refine lv_aload_n hx hb dX7_addSign_42 rfl (lv_at hl 1 rfl) ?_
      refine cgetI (C := RX7) (T := TX7) (N := 4) hx hb hown hts hK zin6 rfl hH hP cE3_at rfl Nat.zero_lt_one (by decide) rfl zf_len dX7_addSign_43 (fun y2 ey2 => ?_)
      rw [hv.2.2.1] at ey2
      refine lv_iload_n hx hb dX7_addSign_46 rfl (lv_at hl 2 rfl) ?_
      refine lv_i2c hx hb dX7_addSign_47 rfl ?_
      have e2c : (x.toUInt32 % 65536).toInt32.toInt = x.toInt := (s2c x).2.2 ⟨by omega, by omega⟩
      refine cstC (f := 57) (j := 0) tInj tfmok hx hb hK hH hP hD va_S.rf cE57_at rfl rfl Nat.zero_lt_one (by omega) (show y2.toInt < (1000 : Int) by omega) (by omega) (by omega) dX7_addSign_48 (fun ws1 H1 locs1 h1 p1 d1 s1 => ?_)
      rw [e2c] at h1
      have k1 : supd M 57 0 y2.toNatClampNeg x.toInt 3 0 1 = (n : Int) := by rw [supd_f (by decide), hv.2.2.1]
      have i1 : sI tg (supd M 57 0 y2.toNatClampNeg x.toInt) := sI_put hv.2.1 (fun q hq => by
        cases (show srg tg 57 y2.toNatClampNeg = some (0, 126) from rfl).symm.trans hq
        exact ⟨by omega, by omega⟩) (fun q hq => by cases hq)
      have f1 : ∀ f j i, ¬ (f = 3 ∧ i = 1) → f ≠ 57 → supd M 57 0 y2.toNatClampNeg x.toInt f j i = M0 f j i := fun f j i q1 q2 => by rw [supd_f q2, hv.1 f j i q1 q2]
      generalize supd M 57 0 y2.toNatClampNeg x.toInt = M1 at h1 k1 i1 f1
      refine lv_aload_n hx hb dX7_addSign_49 rfl (lv_at hl 1 rfl) ?_
      refine lv_dup hx hb dX7_addSign_50 rfl ?_
      refine cgetI (C := RX7) (T := TX7) (N := 4) hx hb hown hts hK zin6 rfl h1 p1 cE3_at rfl Nat.zero_lt_one (by decide) rfl zf_len dX7_addSign_51 (fun y3 ey3 => ?_)
      rw [k1] at ey3
      refine lv_iconst (v := 1) hx hb dX7_addSign_54 (by decide) ?_
      refine lv_iadd hx hb dX7_addSign_55 ?_
      have eadd : (y3 + 1).toInt = (n : Int) + 1 := fadd1 ey3 (by omega)
      refine cputI (C := RX7) (T := TX7) (N := 4) tInj tfmok hx hb hown hts hK zin6 tyX7_ok nmX7 rfl h1 p1 d1 s1 cE3_at rfl Nat.zero_lt_one (by decide) rfl zf_len rfl (by decide +kernel) dX7_addSign_56 (fun ws2 H2 locs2 h2 p2 d2 s2 => ?_)
      refine hend 59 ls [] ws2 H2 locs2 0 0 ⟨dX7_addSign_59, rfl⟩ ⟨rfl, _, h2, ?_⟩ p2 d2 s2 (Nat.le_refl _) (Nat.le_refl _)
      rw [show zst n x = n + 1 from if_pos ⟨by assumption, hn⟩]
      refine ⟨fun f j i q1 q2 => ?_, sI_put i1 (fun q hq => ?_) (fun q hq => by cases hq), ?_, by omega⟩
      · rw [show supd M1 3 0 1 (y3 + 1).toInt f j i = M1 f j i from if_neg (fun z => q1 ⟨z.1, z.2.2⟩), f1 f j i q1 q2]
      · cases (show srg tg 3 1 = some (0, 1000) from rfl).symm.trans hq
        rw [eadd]
        exact ⟨by omega, by omega⟩
      · rw [supd_at, eadd]
        omega
  refine lv_iload_n hx hb dX7_addSign_0 rfl (lv_at hl 1 rfl) ?_
  refine lv_bipush (v := 10) hx hb dX7_addSign_1 (by decide) ?_
  refine lv_icmp_eq (tgt := 18) hx hb dX7_addSign_3 (by decide) (fun c1 => hyes (by unfold zkb; rw [if_pos (Or.inl c1)])) (fun c1 => ?_)
  refine lv_iload_n hx hb dX7_addSign_6 rfl (lv_at hl 1 rfl) ?_
  refine lv_bipush (v := 32) hx hb dX7_addSign_7 (by decide) ?_
  refine lv_icmp_lt (tgt := 22) hx hb dX7_addSign_9 (by decide) (fun c2 => hno (by unfold zkb; rw [if_neg (fun q => q.elim c1 (fun z => z.1 c2))])) (fun c2 => ?_)
  refine lv_iload_n hx hb dX7_addSign_12 rfl (lv_at hl 1 rfl) ?_
  refine lv_bipush (v := 126) hx hb dX7_addSign_13 (by decide) ?_
  refine lv_icmp_gt (tgt := 22) hx hb dX7_addSign_15 (by decide) (fun c3 => hno (by unfold zkb; rw [if_neg (fun q => q.elim c1 (fun z => z.2 c3))])) (fun c3 => ?_)
  exact hyes (by unfold zkb; rw [if_pos (Or.inr ⟨c2, c3⟩)])
set_option maxHeartbeats 4000000 in
theorem fr_take (hEX : sEXok EX) {ws : va_W} {M : SMem} {n : Nat} {v : Int64} (hH : sH tf ad M cA ws) (hv : xInv M0 n M) : sRun 1 meTa EX l dC dI cA ws [.ref (ad 3 0), .long v] (fun r ws' => r = [] ∧ ∃ M', sH tf ad M' cA ws' ∧ xInv M0 (zfd (zby v) n 8) M') := by
  intro p e R s m args below meth c Q A ls F hP hD hl hend
  have F' := F
  obtain ⟨hx, hb, hml, hown, hts, hK, hA, hRd, hRb, hE9⟩ := F
  have hb : c.code = cX7_take := hb
  have hown : s.vm.findClass RX7 = some m.cls := hown
  have hl : lv_has ls 4 [(0, .ref (ad 3 0)), (1, .long v)] := hl
  have loop : ∀ (k i : Nat), i + k = 8 → ∀ (M' : SMem) (ws' : va_W) (H : Heap) (locs : List Loc) (ls : Array Slot), sH tf ad M' cA ws' → xInv M0 (zfd (zby v) n i) M' → va_P (dC, dI) vwCl ws' H → va_D A ws' → va_S A s.heap H locs → lv_has ls 4 [(3, .int (zsh i)), (0, .ref (ad 3 0)), (1, .long v)] → W p l e R s m args below meth c H locs 0 0 Q (F0 m 3 ls []) := by
    intro k
    induction k with
    | zero =>
      intro i hi M' ws' H locs ls hH' hv' hP' hD' hS' hl'
      have e8 : i = 8 := by omega
      subst e8
      refine lv_iload_n hx hb dX7_take_3 rfl (lv_at hl' 0 rfl) ?_
      refine lv_if_lt (tgt := 25) hx hb dX7_take_4 (by decide) (fun _ => ?_) (fun c9 => absurd zsh_8 c9)
      exact hend 25 ls [] ws' H locs 0 0 ⟨dX7_take_25, rfl⟩ ⟨rfl, M', hH', hv'⟩ hP' hD' hS' (Nat.le_refl _) (Nat.le_refl _)
    | succ k ih =>
      intro i hi M' ws' H locs ls hH' hv' hP' hD' hS' hl'
      have hi8 : i < 8 := by omega
      refine lv_iload_n hx hb dX7_take_3 rfl (lv_at hl' 0 rfl) ?_
      refine lv_if_lt (tgt := 25) hx hb dX7_take_4 (by decide) (fun c9 => absurd c9 (zsh_nn i hi8)) (fun _ => ?_)
      refine lv_aload_n hx hb dX7_take_7 rfl (lv_at hl' 1 rfl) ?_
      refine lv_lload_n hx hb dX7_take_8 rfl (lv_at hl' 2 rfl) ?_
      refine lv_iload_n hx hb dX7_take_9 rfl (lv_at hl' 0 rfl) ?_
      refine lv_lushr hx hb dX7_take_10 rfl ?_
      refine lv_l2i hx hb dX7_take_11 rfl ?_
      refine lv_sipush (v := 255) hx hb dX7_take_12 (by decide) ?_
      refine lv_iand hx hb dX7_take_15 ?_
      obtain ⟨w3, k3, z3⟩ := hH' 3 _ cE3_at 0 Nat.zero_lt_one
      obtain ⟨g3, rfl, -, -⟩ := z3
      refine scallX (d' := 0) (me2 := meAd) (cas := [.ref (ad 3 0), .int (zby v i)]) (crest := []) (clv := [(3, .int (zsh i)), (0, .ref (ad 3 0)), (1, .long v)]) hEX F' zw_add (Or.inr rfl) (n := 1) (by decide +kernel) (by decide) (by decide) rfl (fr_add (x := zby v i) hH' hv') hP' hD' hS' hl' rfl (by decide) (Nat.le_of_ble_eq_true rfl) rfl (fun _ => ⟨ad 3 0, _, rfl, fun _ => va_recv hK hP' (ci := 6) (q0 := 1) rfl k3⟩) ⟨Nat.zero_le _, Nat.zero_le _⟩ (Or.inr ⟨rfl, rfl⟩) dX7_take_16 (fun r ws2 H1 locs1 hr q1 q2 q3 => ?_)
      obtain ⟨rfl, M2, hH2, hv2⟩ := hr
      refine lv_iinc (v := zsh (i + 1)) (lv' := [(3, .int (zsh (i + 1))), (0, .ref (ad 3 0)), (1, .long v)]) hx hb dX7_take_19 hl' (k := 0) rfl (zsh_dn i hi8) (by decide) rfl (fun ls2 hl2 => ?_)
      refine lv_goto (tgt := 3) hx hb dX7_take_22 (by decide) ?_
      exact ih (i + 1) (by omega) M2 ws2 H1 locs1 ls2 hH2 (by rw [zfd_s]; exact hv2) q1 q2 q3 hl2
  refine lv_bipush (v := 56) hx hb dX7_take_0 (by decide) ?_
  refine lv_istore_n (lv' := [(3, .int 56), (0, .ref (ad 3 0)), (1, .long v)]) hx hb dX7_take_2 rfl hl (by decide) rfl (fun ls hl => ?_)
  exact loop 8 0 rfl M ws s.heap [] ls hH hv hP hD va_S.rf hl
set_option maxHeartbeats 4000000 in
theorem fr_feed (hEX : sEXok EX) {ws : va_W} {M : SMem} {n : Nat} {va vb vc : Int64} (hH : sH tf ad M cA ws) (hv : xInv M0 n M) : sRun 2 meFx EX l dC dI cA ws [.ref (ad 0 0), .long va, .long vb, .long vc] (fun r ws' => ∃ (x : Int32) (M' : SMem), r = [.int x] ∧ x.toInt = (zfd (zby vc) (zfd (zby vb) (zfd (zby va) n 8) 8) 8 : Int) ∧ sH tf ad M' cA ws' ∧ xInv M0 (zfd (zby vc) (zfd (zby vb) (zfd (zby va) n 8) 8) 8) M') := by
  intro p e R s m args below meth c Q A ls F hP hD hl hend
  have F' := F
  obtain ⟨hx, hb, hml, hown, hts, hK, hA, hRd, hRb, hE9⟩ := F
  have hb : c.code = cX9_feed := hb
  have hown : s.vm.findClass RX9 = some m.cls := hown
  have hl : lv_has ls 7 [(0, .ref (ad 0 0)), (1, .long va), (3, .long vb), (5, .long vc)] := hl
  have step : ∀ (pc : Nat) (v : Int64) (n' : Nat) (M' : SMem) (ws' : va_W) (H : Heap) (locs : List Loc), sH tf ad M' cA ws' → xInv M0 n' M' → va_P (dC, dI) vwCl ws' H → va_D A ws' → va_S A s.heap H locs → decode cX9_feed pc = .ok (.invokevirtual 77, 3) → (∀ (M2 : SMem) (ws2 : va_W) (H1 : Heap) (locs1 : List Loc), sH tf ad M2 cA ws2 → xInv M0 (zfd (zby v) n' 8) M2 → va_P (dC, dI) vwCl ws2 H1 → va_D A ws2 → va_S A s.heap H1 locs1 → W p l e R s m args below meth c H1 locs1 0 0 Q (F0 m (pc + 3) ls [])) → W p l e R s m args below meth c H locs 0 0 Q (F0 m pc ls [.long v, .ref (ad 3 0)]) := by
    intro pc v n' M' ws' H locs hH' hv' hP' hD' hS' hdg kk
    obtain ⟨w3, k3, z3⟩ := hH' 3 _ cE3_at 0 Nat.zero_lt_one
    obtain ⟨g3, rfl, -, -⟩ := z3
    refine scallX (d' := 1) (me2 := meTa) (cas := [.ref (ad 3 0), .long v]) (crest := []) (clv := [(0, .ref (ad 0 0)), (1, .long va), (3, .long vb), (5, .long vc)]) hEX F' zw_take (Or.inr rfl) (n := 1) (by decide +kernel) (by decide) (by decide) rfl (fr_take hEX (v := v) hH' hv') hP' hD' hS' hl rfl (by decide) (Nat.le_of_ble_eq_true rfl) rfl (fun _ => ⟨ad 3 0, _, rfl, fun _ => va_recv hK hP' (ci := 6) (q0 := 1) rfl k3⟩) ⟨Nat.zero_le _, Nat.zero_le _⟩ (Or.inr ⟨rfl, rfl⟩) hdg (fun r ws2 H1 locs1 hr q1 q2 q3 => ?_)
    obtain ⟨rfl, M2, hH2, hv2⟩ := hr
    exact kk M2 ws2 H1 locs1 hH2 hv2 q1 q2 q3
  refine lv_aload_n hx hb dX9_feed_0 rfl (lv_at hl 0 rfl) ?_
  refine cgetR (f := 0) (j := 0) (f2 := 3) (k2 := 0) (C := RX9) (T := TX9) (N := 9) hx hb hown hts hK zin8 rfl hH hP rfl rfl Nat.zero_lt_one (by decide) rfl zf_tap dX9_feed_1 ?_
  refine lv_lload_n hx hb dX9_feed_4 rfl (lv_at hl 1 rfl) ?_
  refine step 5 va n M ws s.heap [] hH hv hP hD va_S.rf dX9_feed_5 (fun M1 ws1 H1 locs1 h1 v1 p1 d1 s1 => ?_)
  refine lv_aload_n hx hb dX9_feed_8 rfl (lv_at hl 0 rfl) ?_
  refine cgetR (f := 0) (j := 0) (f2 := 3) (k2 := 0) (C := RX9) (T := TX9) (N := 9) hx hb hown hts hK zin8 rfl h1 p1 rfl rfl Nat.zero_lt_one (by decide) rfl zf_tap dX9_feed_9 ?_
  refine lv_lload_n hx hb dX9_feed_12 rfl (lv_at hl 2 rfl) ?_
  refine step 13 vb _ M1 ws1 H1 locs1 h1 v1 p1 d1 s1 dX9_feed_13 (fun M2 ws2 H2 locs2 h2 v2 p2 d2 s2 => ?_)
  refine lv_aload_n hx hb dX9_feed_16 rfl (lv_at hl 0 rfl) ?_
  refine cgetR (f := 0) (j := 0) (f2 := 3) (k2 := 0) (C := RX9) (T := TX9) (N := 9) hx hb hown hts hK zin8 rfl h2 p2 rfl rfl Nat.zero_lt_one (by decide) rfl zf_tap dX9_feed_17 ?_
  refine lv_lload hx hb dX9_feed_20 (lv_at hl 3 rfl) ?_
  refine step 22 vc _ M2 ws2 H2 locs2 h2 v2 p2 d2 s2 dX9_feed_22 (fun M3 ws3 H3 locs3 h3 v3 p3 d3 s3 => ?_)
  refine lv_aload_n hx hb dX9_feed_25 rfl (lv_at hl 0 rfl) ?_
  refine cgetR (f := 0) (j := 0) (f2 := 3) (k2 := 0) (C := RX9) (T := TX9) (N := 9) hx hb hown hts hK zin8 rfl h3 p3 rfl rfl Nat.zero_lt_one (by decide) rfl zf_tap dX9_feed_26 ?_
  refine cgetI (C := RX7) (T := TX7) (N := 4) hx hb hown hts hK zin6 rfl h3 p3 cE3_at rfl Nat.zero_lt_one (by decide) rfl zf_len9 dX9_feed_29 (fun y ey => ?_)
  have ey : y.toInt = M3 3 0 1 := ey
  rw [v3.2.2.1] at ey
  exact hend 32 ls [.int y] ws3 H3 locs3 0 0 ⟨dX9_feed_32, y, rfl, rfl⟩ ⟨y, M3, rfl, ey, h3, v3⟩ p3 d3 s3 (Nat.le_refl _) (Nat.le_refl _)
end SFX
