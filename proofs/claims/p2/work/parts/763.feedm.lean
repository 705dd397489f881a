/-! the reference's feed, by hand -/
def mInv (M0 : SMem) (n : Nat) (M : SMem) : Prop := (∀ f j i, ¬ (f = 1 ∧ (i = 0 ∨ i = 2)) → f ≠ 12 → M f j i = M0 f j i) ∧ sI tg M ∧ M 1 0 2 = (n : Int) ∧ n ≤ 1000
def meLa : ZMe := (RX10, yX10_lay, cX10_lay, 5, none, 0, 0)
def meFm : ZMe := (RX10, yX10_feed, cX10_feed, 7, some .int, 0, 0)
theorem zf_thr : Cond.fieldLink RX10 1 (TX10 0).1 (TX10 0).2.1 (TX10 0).2.2.1 ∈ zT := zchk_ok (ws := [_]) (is := [1290]) (by decide +kernel) _ (List.Mem.head _)
theorem zf_tpd : Cond.fieldLink RX10 11 (TX10 2).1 (TX10 2).2.1 (TX10 2).2.2.1 ∈ zT := zchk_ok (ws := [_]) (is := [1292]) (by decide +kernel) _ (List.Mem.head _)
theorem zf_tp : Cond.fieldLink RX10 14 (TX10 1).1 (TX10 1).2.1 (TX10 1).2.2.1 ∈ zT := zchk_ok (ws := [_]) (is := [1291]) (by decide +kernel) _ (List.Mem.head _)
theorem zw_lay : ∀ w ∈ zcw RX10 7 2 yX10_lay cX10_lay 5 none, w ∈ zT := zchk_ok (is := [1264, 1266, 127, 1268, 65]) (by decide +kernel)
theorem cE12_at : tf[12]? = some (156, 1, 1, .inr (0, 0, 1000, 0)) := rfl
section SFM
variable {EX : SEx} {l : Launch} {dC : Nat → ClassId} {dI : Nat → Nat → Nat} {cA : Nat → ClassId} {ad : SAd} {M0 : SMem}
set_option maxHeartbeats 4000000 in
theorem fr_lay {ws : va_W} {M : SMem} {n : Nat} {v : Int64} (hH : sH tf ad M cA ws) (hv : mInv M0 n M) : sRun 0 meLa EX l dC dI cA ws [.ref (ad 1 0), .long v] (fun r ws' => r = [] ∧ ∃ M', sH tf ad M' cA ws' ∧ mInv M0 (zfd (zbm v) n 8) M') := by
  intro p e R s m args below meth c Q A ls F hP hD hl hend
  obtain ⟨hx, hb, hml, hown, hts, hK, hA, hRd, hRb, hE9⟩ := F
  have hb : c.code = cX10_lay := hb
  have hown : s.vm.findClass RX10 = some m.cls := hown
  have hl : lv_has ls 5 [(0, .ref (ad 1 0)), (1, .long v)] := hl
  have loop : ∀ (k i : Nat), i + k = 8 → ∀ (M' : SMem) (ws' : va_W) (H : Heap) (locs : List Loc) (ls : Array Slot), sH tf ad M' cA ws' → mInv M0 (zfd (zbm v) n i) M' → va_P (dC, dI) vwCl ws' H → va_D A ws' → va_S A s.heap H locs → lv_has ls 5 [(3, .int (zsh i)), (0, .ref (ad 1 0)), (1, .long v)] → W p l e R s m args below meth c H locs 0 0 Q (F0 m 3 ls []) := by
    intro k
    induction k with
    | zero =>
      intro i hi M' ws' H locs ls hH' hv' hP' hD' hS' hl'
      have e8 : i = 8 := by omega
      subst e8
      refine lv_iload_n hx hb dX10_lay_3 rfl (lv_at hl' 0 rfl) ?_
      refine lv_if_lt (tgt := 75) hx hb dX10_lay_4 (by decide) (fun _ => ?_) (fun c9 => absurd zsh_8 c9)
      exact hend 75 ls [] ws' H locs 0 0 ⟨dX10_lay_75, rfl⟩ ⟨rfl, M', hH', hv'⟩ hP' hD' hS' (Nat.le_refl _) (Nat.le_refl _)
    | succ k ih =>
      intro i hi M' ws' H locs ls hH' hv' hP' hD' hS' hl'
      have hi8 : i < 8 := by omega
      generalize hnn : zfd (zbm v) n i = n' at hv'
      have nxt : ∀ (M2 : SMem) (ws2 : va_W) (H1 : Heap) (locs1 : List Loc) (ls2 : Array Slot), sH tf ad M2 cA ws2 → mInv M0 (zst n' (zbm v i)) M2 → va_P (dC, dI) vwCl ws2 H1 → va_D A ws2 → va_S A s.heap H1 locs1 → lv_has ls2 5 [(4, .int (zbm v i)), (3, .int (zsh i)), (0, .ref (ad 1 0)), (1, .long v)] → W p l e R s m args below meth c H1 locs1 0 0 Q (F0 m 69 ls2 []) := by
        intro M2 ws2 H1 locs1 ls2 hH2 hv2 hP1 hD1 hS1 hl2
        refine lv_iinc (v := zsh (i + 1)) (lv' := [(3, .int (zsh (i + 1))), (4, .int (zbm v i)), (0, .ref (ad 1 0)), (1, .long v)]) hx hb dX10_lay_69 hl2 (k := 1) rfl (zsh_dn i hi8) (by decide) rfl (fun ls3 hl3 => ?_)
        refine lv_goto (tgt := 3) hx hb dX10_lay_72 (by decide) ?_
        exact ih (i + 1) (by omega) M2 ws2 H1 locs1 ls3 hH2 (by rw [zfd_s, hnn]; exact hv2) hP1 hD1 hS1 (lv_sub hl3 [0, 2, 3] rfl)
      refine lv_iload_n hx hb dX10_lay_3 rfl (lv_at hl' 0 rfl) ?_
      refine lv_if_lt (tgt := 75) hx hb dX10_lay_4 (by decide) (fun c9 => absurd c9 (zsh_nn i hi8)) (fun _ => ?_)
      refine lv_lload_n hx hb dX10_lay_7 rfl (lv_at hl' 2 rfl) ?_
      refine lv_iload_n hx hb dX10_lay_8 rfl (lv_at hl' 0 rfl) ?_
      refine lv_lshr hx hb dX10_lay_9 rfl ?_
      refine lv_l2i hx hb dX10_lay_10 rfl ?_
      refine lv_sipush (v := 255) hx hb dX10_lay_11 (by decide) ?_
      refine lv_iand hx hb dX10_lay_14 ?_
      refine lv_istore (x := zbm v i) (lv' := [(4, .int (zbm v i)), (3, .int (zsh i)), (0, .ref (ad 1 0)), (1, .long v)]) hx hb dX10_lay_15 hl' (by decide) rfl (fun ls hl => ?_)
      have hno : zkb (zbm v i) = 0 → W p l e R s m args below meth c H locs 0 0 Q (F0 m 69 ls []) := fun h0 => nxt M' ws' H locs ls hH' (by rw [show zst n' (zbm v i) = n' from if_neg (fun q => by rw [h0] at q; cases q.1)]; exact hv') hP' hD' hS' hl
      have hyes : zkb (zbm v i) = 1 → W p l e R s m args below meth c H locs 0 0 Q (F0 m 38 ls []) := by
        intro h1
        have hxb := zkb_in h1
        refine lv_aload_n hx hb dX10_lay_38 rfl (lv_at hl 2 rfl) ?_
        refine cgetI (f := 1) (j := 0) (C := RX10) (T := TX10) (N := 58) hx hb hown hts hK zin9 rfl hH' hP' rfl rfl Nat.zero_lt_one (by decide) rfl zf_tpd dX10_lay_39 (fun y ey => ?_)
        rw [hv'.2.2.1] at ey
        refine lv_sipush (v := 1000) hx hb dX10_lay_42 (by decide) ?_
        have e1000 : (1000 : Int32).toInt = 1000 := by decide
        refine zw_icmp hx hb dX10_lay_45 (tgt := 69) rfl (fun q => ?_) (fun q => ?_)
        · have q2 := szro.mp q
          simp only [sCmp] at q2
          exact nxt M' ws' H locs ls hH' (by rw [show zst n' (zbm v i) = n' from if_neg (fun z => by omega)]; exact hv') hP' hD' hS' hl
        · have hn : n' < 1000 := by
            by_cases hc : n' < 1000
            · exact hc
            · have h9 : zro .ge y.toInt (1000 : Int32).toInt = true := szro.mpr (by simp only [sCmp]; omega)
              rw [h9] at q
              cases q
          refine lv_aload_n hx hb dX10_lay_48 rfl (lv_at hl 2 rfl) ?_
          refine cgetR (f := 1) (j := 0) (f2 := 12) (k2 := 0) (C := RX10) (T := TX10) (N := 58) hx hb hown hts hK zin9 rfl hH' hP' rfl rfl Nat.zero_lt_one (by decide) rfl zf_tp dX10_lay_49 ?_
          refine lv_aload_n hx hb dX10_lay_52 rfl (lv_at hl 2 rfl) ?_
          refine cgetI (f := 1) (j := 0) (C := RX10) (T := TX10) (N := 58) hx hb hown hts hK zin9 rfl hH' hP' rfl rfl Nat.zero_lt_one (by decide) rfl zf_tpd dX10_lay_53 (fun y2 ey2 => ?_)
          rw [hv'.2.2.1] at ey2
          refine lv_iload hx hb dX10_lay_56 (lv_at hl 0 rfl) ?_
          refine cstI (f := 12) (j := 0) tInj tfmok hx hb hK hH' hP' hD' hS' cE12_at rfl rfl Nat.zero_lt_one (by omega) (show y2.toInt < (1000 : Int) by omega) dX10_lay_58 (fun ws1 H1 locs1 h1 p1 d1 s1 => ?_)
          have k1 : supd M' 12 0 y2.toNatClampNeg (zbm v i).toInt 1 0 2 = (n' : Int) := by rw [supd_f (by decide), hv'.2.2.1]
          have i1 : sI tg (supd M' 12 0 y2.toNatClampNeg (zbm v i).toInt) := sI_put hv'.2.1 (fun q hq => by
            cases (show srg tg 12 y2.toNatClampNeg = some (0, 126) from rfl).symm.trans hq
            exact ⟨by omega, by omega⟩) (fun q hq => by cases hq)
          have f1 : ∀ f j i9, ¬ (f = 1 ∧ (i9 = 0 ∨ i9 = 2)) → f ≠ 12 → supd M' 12 0 y2.toNatClampNeg (zbm v i).toInt f j i9 = M0 f j i9 := fun f j i9 q1 q2 => by rw [supd_f q2, hv'.1 f j i9 q1 q2]
          generalize supd M' 12 0 y2.toNatClampNeg (zbm v i).toInt = M1 at h1 k1 i1 f1
          refine lv_aload_n hx hb dX10_lay_59 rfl (lv_at hl 2 rfl) ?_
          refine lv_dup hx hb dX10_lay_60 rfl ?_
          refine cgetI (f := 1) (j := 0) (C := RX10) (T := TX10) (N := 58) hx hb hown hts hK zin9 rfl h1 p1 rfl rfl Nat.zero_lt_one (by decide) rfl zf_tpd dX10_lay_61 (fun y3 ey3 => ?_)
          rw [k1] at ey3
          refine lv_iconst (v := 1) hx hb dX10_lay_64 (by decide) ?_
          refine lv_iadd hx hb dX10_lay_65 ?_
          have eadd : (y3 + 1).toInt = (n' : Int) + 1 := fadd1 ey3 (by omega)
          refine cputI (f := 1) (j := 0) (C := RX10) (T := TX10) (N := 58) tInj tfmok hx hb hown hts hK zin9 tyX10_ok nmX10 rfl h1 p1 d1 s1 rfl rfl Nat.zero_lt_one (by decide) rfl zf_tpd rfl (by decide +kernel) dX10_lay_66 (fun ws2 H2 locs2 h2 p2 d2 s2 => ?_)
          refine nxt _ ws2 H2 locs2 ls h2 ?_ p2 d2 s2 hl
          rw [show zst n' (zbm v i) = n' + 1 from if_pos ⟨by assumption, hn⟩]
          refine ⟨fun f j i9 q1 q2 => ?_, sI_put i1 (fun q hq => ?_) (fun q hq => by cases hq), ?_, by omega⟩
          · rw [show supd M1 1 0 2 (y3 + 1).toInt f j i9 = M1 f j i9 from if_neg (fun z => q1 ⟨z.1, Or.inr z.2.2⟩), f1 f j i9 q1 q2]
          · cases (show srg tg 1 2 = some (0, 1000) from rfl).symm.trans hq
            rw [eadd]
            exact ⟨by omega, by omega⟩
          · rw [supd_at, eadd]
            omega
      refine lv_iload hx hb dX10_lay_17 (lv_at hl 0 rfl) ?_
      refine lv_bipush (v := 10) hx hb dX10_lay_19 (by decide) ?_
      refine lv_icmp_eq (tgt := 38) hx hb dX10_lay_21 (by decide) (fun c1 => hyes (by unfold zkb; rw [if_pos (Or.inl c1)])) (fun c1 => ?_)
      refine lv_iload hx hb dX10_lay_24 (lv_at hl 0 rfl) ?_
      refine lv_bipush (v := 32) hx hb dX10_lay_26 (by decide) ?_
      refine lv_icmp_lt (tgt := 69) hx hb dX10_lay_28 (by decide) (fun c2 => hno (by unfold zkb; rw [if_neg (fun q => q.elim c1 (fun z => z.1 c2))])) (fun c2 => ?_)
      refine lv_iload hx hb dX10_lay_31 (lv_at hl 0 rfl) ?_
      refine lv_bipush (v := 126) hx hb dX10_lay_33 (by decide) ?_
      refine lv_icmp_gt (tgt := 69) hx hb dX10_lay_35 (by decide) (fun c3 => hno (by unfold zkb; rw [if_neg (fun q => q.elim c1 (fun z => z.2 c3))])) (fun c3 => ?_)
      exact hyes (by unfold zkb; rw [if_pos (Or.inr ⟨c2, c3⟩)])
  refine lv_bipush (v := 56) hx hb dX10_lay_0 (by decide) ?_
  refine lv_istore_n (lv' := [(3, .int 56), (0, .ref (ad 1 0)), (1, .long v)]) hx hb dX10_lay_2 rfl hl (by decide) rfl (fun ls hl => ?_)
  exact loop 8 0 rfl M ws s.heap [] ls hH hv hP hD va_S.rf hl
set_option maxHeartbeats 4000000 in
theorem fr_mfeed (hEX : sEXok EX) {ws : va_W} {M : SMem} {n : Nat} {va vb vc : Int64} (hH : sH tf ad M cA ws) (hv : mInv M0 n M) : sRun 1 meFm EX l dC dI cA ws [.ref (ad 1 0), .long va, .long vb, .long vc] (fun r ws' => ∃ (x : Int32) (M' : SMem), r = [.int x] ∧ x.toInt = (zfd (zbm vc) (zfd (zbm vb) (zfd (zbm va) n 8) 8) 8 : Int) ∧ sH tf ad M' cA ws' ∧ mInv M0 (zfd (zbm vc) (zfd (zbm vb) (zfd (zbm va) n 8) 8) 8) M') := by
  intro p e R s m args below meth c Q A ls F hP hD hl hend
  have F' := F
  obtain ⟨hx, hb, hml, hown, hts, hK, hA, hRd, hRb, hE9⟩ := F
  have hb : c.code = cX10_feed := hb
  have hown : s.vm.findClass RX10 = some m.cls := hown
  have hl : lv_has ls 7 [(0, .ref (ad 1 0)), (1, .long va), (3, .long vb), (5, .long vc)] := hl
  have step : ∀ (pc : Nat) (v : Int64) (n' : Nat) (M' : SMem) (ws' : va_W) (H : Heap) (locs : List Loc), sH tf ad M' cA ws' → mInv M0 n' M' → va_P (dC, dI) vwCl ws' H → va_D A ws' → va_S A s.heap H locs → decode cX10_feed pc = .ok (.invokevirtual 7, 3) → (∀ (M2 : SMem) (ws2 : va_W) (H1 : Heap) (locs1 : List Loc), sH tf ad M2 cA ws2 → mInv M0 (zfd (zbm v) n' 8) M2 → va_P (dC, dI) vwCl ws2 H1 → va_D A ws2 → va_S A s.heap H1 locs1 → W p l e R s m args below meth c H1 locs1 0 0 Q (F0 m (pc + 3) ls [])) → W p l e R s m args below meth c H locs 0 0 Q (F0 m pc ls [.long v, .ref (ad 1 0)]) := by
    intro pc v n' M' ws' H locs hH' hv' hP' hD' hS' hdg kk
    obtain ⟨w3, k3, z3⟩ := hH' 1 _ rfl 0 Nat.zero_lt_one
    obtain ⟨g3, rfl, -, -⟩ := z3
    refine scallX (d' := 0) (me2 := meLa) (cas := [.ref (ad 1 0), .long v]) (crest := []) (clv := [(0, .ref (ad 1 0)), (1, .long va), (3, .long vb), (5, .long vc)]) hEX F' zw_lay (Or.inr rfl) (n := 1) (by decide +kernel) (by decide) (by decide) rfl (fr_lay (v := v) hH' hv') hP' hD' hS' hl rfl (by decide) (Nat.le_of_ble_eq_true rfl) rfl (fun _ => ⟨ad 1 0, _, rfl, fun _ => va_recv hK hP' (ci := 9) (q0 := 155) rfl k3⟩) ⟨Nat.zero_le _, Nat.zero_le _⟩ (Or.inr ⟨rfl, rfl⟩) hdg (fun r ws2 H1 locs1 hr q1 q2 q3 => ?_)
    obtain ⟨rfl, M2, hH2, hv2⟩ := hr
    exact kk M2 ws2 H1 locs1 hH2 hv2 q1 q2 q3
  refine lv_aload_n hx hb dX10_feed_0 rfl (lv_at hl 0 rfl) ?_
  refine lv_iconst (v := 0) hx hb dX10_feed_1 (by decide) ?_
  refine cputI (f := 1) (j := 0) (C := RX10) (T := TX10) (N := 58) tInj tfmok hx hb hown hts hK zin9 tyX10_ok nmX10 rfl hH hP hD va_S.rf rfl rfl Nat.zero_lt_one (by decide) rfl zf_thr rfl (by decide +kernel) dX10_feed_2 (fun ws0 H0 locs0 h0 p0 d0 s0 => ?_)
  have v0 : mInv M0 n (supd M 1 0 0 (0 : Int32).toInt) := by
    refine ⟨fun f j i q1 q2 => ?_, sI_put hv.2.1 (fun q hq => ?_) (fun q hq => by cases hq), ?_, hv.2.2.2⟩
    · rw [show supd M 1 0 0 (0 : Int32).toInt f j i = M f j i from if_neg (fun z => q1 ⟨z.1, Or.inl z.2.2⟩), hv.1 f j i q1 q2]
    · cases (show srg tg 1 0 = some (0, 1) from rfl).symm.trans hq
      exact ⟨by decide, by decide⟩
    · rw [supd_i (by decide), hv.2.2.1]
  generalize supd M 1 0 0 (0 : Int32).toInt = Ma at h0 v0
  refine lv_aload_n hx hb dX10_feed_5 rfl (lv_at hl 0 rfl) ?_
  refine lv_lload_n hx hb dX10_feed_6 rfl (lv_at hl 1 rfl) ?_
  refine step 7 va n Ma ws0 H0 locs0 h0 v0 p0 d0 s0 dX10_feed_7 (fun M1 ws1 H1 locs1 h1 v1 p1 d1 s1 => ?_)
  refine lv_aload_n hx hb dX10_feed_10 rfl (lv_at hl 0 rfl) ?_
  refine lv_lload_n hx hb dX10_feed_11 rfl (lv_at hl 2 rfl) ?_
  refine step 12 vb _ M1 ws1 H1 locs1 h1 v1 p1 d1 s1 dX10_feed_12 (fun M2 ws2 H2 locs2 h2 v2 p2 d2 s2 => ?_)
  refine lv_aload_n hx hb dX10_feed_15 rfl (lv_at hl 0 rfl) ?_
  refine lv_lload hx hb dX10_feed_16 (lv_at hl 3 rfl) ?_
  refine step 18 vc _ M2 ws2 H2 locs2 h2 v2 p2 d2 s2 dX10_feed_18 (fun M3 ws3 H3 locs3 h3 v3 p3 d3 s3 => ?_)
  refine lv_aload_n hx hb dX10_feed_21 rfl (lv_at hl 0 rfl) ?_
  refine cgetI (f := 1) (j := 0) (C := RX10) (T := TX10) (N := 58) hx hb hown hts hK zin9 rfl h3 p3 rfl rfl Nat.zero_lt_one (by decide) rfl zf_tpd dX10_feed_22 (fun y ey => ?_)
  rw [v3.2.2.1] at ey
  exact hend 25 ls [.int y] ws3 H3 locs3 0 0 ⟨dX10_feed_25, y, rfl, rfl⟩ ⟨y, M3, rfl, ey, h3, v3⟩ p3 d3 s3 (Nat.le_refl _) (Nat.le_refl _)
end SFM
