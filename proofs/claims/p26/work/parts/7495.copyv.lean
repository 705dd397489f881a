/-! Order.copy, with what it copies -/
def cVal (M0 : SMem) (j : Nat) (M : SMem) : Prop := M 74 j 0 = M0 75 0 0 ∧ M 74 j 1 = M0 75 0 1 ∧ M0 75 0 1 ≤ M 106 j 0 ∧ (∀ i : Nat, (i : Int) < M0 75 0 1 → M 100 j i = M0 105 0 i) ∧ (∀ i : Nat, i < 12 → M 96 j i = M0 101 0 i) ∧ (∀ i : Nat, i < 12 → M 97 j i = M0 102 0 i) ∧ (∀ i : Nat, i < 12 → M 98 j i = M0 103 0 i) ∧ ∀ i : Nat, i < 12 → M 99 j i = M0 104 0 i
set_option maxHeartbeats 4000000 in
theorem b_copy {EX : SEx} {l : Launch} {dC : Nat → ClassId} {dI : Nat → Nat → Nat} {cA : Nat → ClassId} {M0 : SMem} {ad0 : SAd} {ws : va_W} {j : Nat} (hj : j < 6) (i2 : sH tf ad0 M0 cA ws) (i3 : sI tg M0) : sRun 1 (RX3, yX3_copy, cX3_copy, 2, none, 1, 1000) EX l dC dI cA ws [.ref (ad0 74 j), .ref (ad0 75 0)] (fun rr ws' => rr = [] ∧ ∃ (M : SMem) (ad : SAd), sH tf ad M cA ws' ∧ (∀ f j', f ≠ 100 → ad f j' = ad0 f j') ∧ cInv M0 j M ∧ cVal M0 j M) := by
  intro p e R s m args below meth c Q A ls F hP hD hl hend
  obtain ⟨hx, hb, hml, hown, hts, hK, hA, hRd, hRb, hE9⟩ := F
  have hb : c.code = cX3_copy := hb
  have hml : c.maxLocals = 2 := hml
  have hown : s.vm.findClass RX3 = some m.cls := hown
  have hRc : 1 ≤ R.cells := hRb.1
  have hRs : 1000 ≤ R.slots := hRb.2
  have hRf : 1 ≤ R.frames := hRd.1
  have hRl : 40 ≤ R.locals := hRd.2
  have b1 : 0 ≤ M0 75 0 1 ∧ M0 75 0 1 ≤ 1000 := i3.1 75 1 (0, 1000) rfl 0
  have b2 : 0 ≤ M0 75 0 0 ∧ M0 75 0 0 ≤ 12 := i3.1 75 0 (0, 12) rfl 0
  have m1 : M0 75 0 1 = M0 75 0 1 := rfl
  have m0 : M0 75 0 0 = M0 75 0 0 := rfl
  have hl : lv_has ls 2 [(0, .ref (ad0 74 j)), (1, .ref (ad0 75 0))] := hl
  have hml' : c.maxLocals = ls.size := hml.trans hl.1.symm
  have v0 : cInv M0 j M0 := ⟨fun _ _ _ _ => rfl, fun _ _ _ _ => rfl, fun _ _ _ => rfl, i3⟩
  refine lv_aload_n hx hb dY0 rfl (lv_at hl 0 rfl) ?_
  refine lv_aload_n hx hb dY1 rfl (lv_at hl 1 rfl) ?_
  refine cgetI (C := RX3) (T := TX3) (N := 7) hx hb hown hts hK zin2 rfl i2 hP cE75_at rfl (Nat.zero_lt_one) (by decide) rfl cw0 dY2 (fun x0 e0 => ?_)
  refine cputI (C := RX3) (T := TX3) (N := 7) tInj tfmok hx hb hown hts hK zin2 tyX3_ok nmX3 rfl i2 hP hD va_S.rf cE74_at rfl hj (by decide) rfl cw0 rfl (by decide +kernel) dY5 (fun ws1 H1 locs1 h1 p1 d1 s1 => ?_)
  have v1 : cInv M0 j (supd M0 74 j 0 x0.toInt) := cInv_put v0 (by decide) (fun q hq => by
    cases (show srg tg 74 0 = some (0, 12) from rfl).symm.trans hq
    rw [e0, m0]
    exact b2)
  have u0 : supd M0 74 j 0 x0.toInt 74 j 0 = M0 75 0 0 := by rw [supd_at, e0, m0]
  generalize supd M0 74 j 0 x0.toInt = M1 at h1 v1 u0
  refine lv_aload_n hx hb dY8 rfl (lv_at hl 0 rfl) ?_
  refine lv_aload_n hx hb dY9 rfl (lv_at hl 1 rfl) ?_
  refine cgetI (C := RX3) (T := TX3) (N := 7) hx hb hown hts hK zin2 rfl h1 p1 cE75_at rfl (Nat.zero_lt_one) (by decide) rfl cw1 dY10 (fun x1 e1 => ?_)
  rw [v1.1 75 0 1 (by decide), m1] at e1
  refine cputI (C := RX3) (T := TX3) (N := 7) tInj tfmok hx hb hown hts hK zin2 tyX3_ok nmX3 rfl h1 p1 d1 s1 cE74_at rfl hj (by decide) rfl cw1 rfl (by decide +kernel) dY13 (fun ws2 H2 locs2 h2 p2 d2 s2 => ?_)
  have v2 : cInv M0 j (supd M1 74 j 1 x1.toInt) := cInv_put v1 (by decide) (fun q hq => by
    cases (show srg tg 74 1 = some (0, 1000) from rfl).symm.trans hq
    rw [e1]
    exact b1)
  have u1 : supd M1 74 j 1 x1.toInt 74 j 1 = M0 75 0 1 := by rw [supd_at, e1]
  have u0 : supd M1 74 j 1 x1.toInt 74 j 0 = M0 75 0 0 := by rw [supd_i (by decide), u0]
  generalize supd M1 74 j 1 x1.toInt = M2 at h2 v2 u0 u1
  have hI2 := v2.2.2.2
  have hL2 : 0 ≤ M2 106 j 0 ∧ M2 106 j 0 ≤ 1000 := hI2.1 106 0 (0, 1000) rfl j
  -- from 38 on
  have fin : ∀ (M : SMem) (ad : SAd) (ws : va_W) (H : Heap) (locs : List Loc) (nc ns : Nat), nc ≤ 1 → ns ≤ 1000 → sH tf ad M cA ws → va_P (dC, dI) vwCl ws H → va_D A ws → va_S A s.heap H locs → cInv M0 j M → M 74 j 0 = M0 75 0 0 → M 74 j 1 = M0 75 0 1 → M0 75 0 1 ≤ M 106 j 0 → (∀ f j', f ≠ 100 → ad f j' = ad0 f j') → W p l e R s m args below meth c H locs nc ns Q (F0 m 38 ls []) := by
    intro M3 ad ws3 H3 locs3 nc ns hnc hns h3 p3 d3 s3 v3 u0 u1 hL ha
    have ea : ad 75 0 = ad0 75 0 := ha 75 0 (by decide)
    have eb : ad 74 j = ad0 74 j := ha 74 j (by decide)
    rw [← ea, ← eb] at hl
    refine lv_aload_n hx hb dY38 rfl (lv_at hl 1 rfl) ?_
    refine cgetR (C := RX3) (T := TX3) (N := 7) hx hb hown hts hK zin2 rfl h3 p3 cE75_at rfl (Nat.zero_lt_one) (by decide) rfl cw6 dY39 ?_
    refine lv_iconst (v := 0) hx hb dY42 (by decide) ?_
    refine lv_aload_n hx hb dY43 rfl (lv_at hl 0 rfl) ?_
    refine cgetR (C := RX3) (T := TX3) (N := 7) hx hb hown hts hK zin2 rfl h3 p3 cE74_at rfl hj (by decide) rfl cw6 dY44 ?_
    refine lv_iconst (v := 0) hx hb dY47 (by decide) ?_
    refine lv_aload_n hx hb dY48 rfl (lv_at hl 0 rfl) ?_
    refine cgetI (C := RX3) (T := TX3) (N := 7) hx hb hown hts hK zin2 rfl h3 p3 cE74_at rfl hj (by decide) rfl cw1 dY49 (fun x e9 => ?_)
    rw [u1] at e9
    have kx := sclamp (x := x) (by omega)
    refine scpyW (f0 := 105) (f1 := 100) (j0 := 0) (j1 := j) tInj tfmok hx hb hml' hown hts hK (cwa _ (List.Mem.head _)) (cwa _ (List.Mem.tail _ (List.Mem.head _))) (cwa _ (List.Mem.tail _ (List.Mem.tail _ (List.Mem.head _)))) (cwa _ (List.Mem.tail _ (List.Mem.tail _ (List.Mem.tail _ (List.Mem.head _))))) h3 p3 d3 s3 rfl rfl cE100_at rfl rfl rfl (Nat.zero_lt_one) hj (by omega) (show x.toNatClampNeg ≤ 1000 by omega) (show x.toNatClampNeg ≤ (M3 106 j 0).toNat by omega) (Nat.zero_le _) hRf hRl dY52 (fun ws4 H4 locs4 h4 p4 d4 s4 => ?_)
    have v4 : cInv M0 j (sMcp M3 105 0 100 j x.toNatClampNeg) := cInv_cpy v3 (by decide) (fun i q hq => ⟨(-2147483648, 2147483647), rfl, by cases (show srg tg 100 i = some (-2147483648, 2147483647) from rfl).symm.trans hq; exact ⟨by decide, by decide⟩⟩)
    have u1 : sMcp M3 105 0 100 j x.toNatClampNeg 74 j 1 = M0 75 0 1 := by rw [smcp_f (by decide), u1]
    have c100 : ∀ i : Nat, i < x.toNatClampNeg → sMcp M3 105 0 100 j x.toNatClampNeg 100 j i = M0 105 0 i := fun i hi => (show sMcp M3 105 0 100 j x.toNatClampNeg 100 j i = M3 105 0 i from if_pos ⟨rfl, rfl, hi⟩).trans (v3.1 105 0 i (by decide))
    have u0 : sMcp M3 105 0 100 j x.toNatClampNeg 74 j 0 = M0 75 0 0 := by rw [smcp_f (by decide), u0]
    have hL : M0 75 0 1 ≤ sMcp M3 105 0 100 j x.toNatClampNeg 106 j 0 := by rw [smcp_f (by decide)]; exact hL
    generalize sMcp M3 105 0 100 j x.toNatClampNeg = M4 at h4 v4 u0 u1 hL c100
    refine lv_aload_n hx hb dY55 rfl (lv_at hl 1 rfl) ?_
    refine cgetR (C := RX3) (T := TX3) (N := 7) hx hb hown hts hK zin2 rfl h4 p4 cE75_at rfl (Nat.zero_lt_one) (by decide) rfl cw2 dY56 ?_
    refine lv_iconst (v := 0) hx hb dY59 (by decide) ?_
    refine lv_aload_n hx hb dY60 rfl (lv_at hl 0 rfl) ?_
    refine cgetR (C := RX3) (T := TX3) (N := 7) hx hb hown hts hK zin2 rfl h4 p4 cE74_at rfl hj (by decide) rfl cw2 dY61 ?_
    refine lv_iconst (v := 0) hx hb dY64 (by decide) ?_
    refine lv_bipush (v := 12) hx hb dY65 (by decide) ?_
    refine scpyW (f0 := 101) (f1 := 96) (j0 := 0) (j1 := j) tInj tfmok hx hb hml' hown hts hK (cwa _ (List.Mem.head _)) (cwa _ (List.Mem.tail _ (List.Mem.head _))) (cwa _ (List.Mem.tail _ (List.Mem.tail _ (List.Mem.head _)))) (cwa _ (List.Mem.tail _ (List.Mem.tail _ (List.Mem.tail _ (List.Mem.head _))))) h4 p4 d4 s4 rfl rfl rfl rfl rfl rfl (Nat.zero_lt_one) hj (by decide) (Nat.le_refl 12) (Nat.le_refl 12) (Nat.zero_le _) hRf hRl dY67 (fun ws5 H5 locs5 h5 p5 d5 s5 => ?_)
    have v5 : cInv M0 j (sMcp M4 101 0 96 j (12 : Int32).toNatClampNeg) := cInv_cpy v4 (by decide) (fun i q hq => ⟨(0, 4), rfl, by cases (show srg tg 96 i = some (0, 4) from rfl).symm.trans hq; exact ⟨by decide, by decide⟩⟩)
    have u1 : sMcp M4 101 0 96 j (12 : Int32).toNatClampNeg 74 j 1 = M0 75 0 1 := by rw [smcp_f (by decide), u1]
    have c100 : ∀ i : Nat, i < x.toNatClampNeg → sMcp M4 101 0 96 j (12 : Int32).toNatClampNeg 100 j i = M0 105 0 i := fun i hi => (smcp_f (by decide)).trans (c100 i hi)
    have c96 : ∀ i : Nat, i < (12 : Int32).toNatClampNeg → sMcp M4 101 0 96 j (12 : Int32).toNatClampNeg 96 j i = M0 101 0 i := fun i hi => (show sMcp M4 101 0 96 j (12 : Int32).toNatClampNeg 96 j i = M4 101 0 i from if_pos ⟨rfl, rfl, hi⟩).trans (v4.1 101 0 i (by decide))
    have u0 : sMcp M4 101 0 96 j (12 : Int32).toNatClampNeg 74 j 0 = M0 75 0 0 := by rw [smcp_f (by decide), u0]
    have hL : M0 75 0 1 ≤ sMcp M4 101 0 96 j (12 : Int32).toNatClampNeg 106 j 0 := by rw [smcp_f (by decide)]; exact hL
    generalize sMcp M4 101 0 96 j (12 : Int32).toNatClampNeg = M5 at h5 v5 u0 u1 hL c100 c96
    refine lv_aload_n hx hb dY70 rfl (lv_at hl 1 rfl) ?_
    refine cgetR (C := RX3) (T := TX3) (N := 7) hx hb hown hts hK zin2 rfl h5 p5 cE75_at rfl (Nat.zero_lt_one) (by decide) rfl cw3 dY71 ?_
    refine lv_iconst (v := 0) hx hb dY74 (by decide) ?_
    refine lv_aload_n hx hb dY75 rfl (lv_at hl 0 rfl) ?_
    refine cgetR (C := RX3) (T := TX3) (N := 7) hx hb hown hts hK zin2 rfl h5 p5 cE74_at rfl hj (by decide) rfl cw3 dY76 ?_
    refine lv_iconst (v := 0) hx hb dY79 (by decide) ?_
    refine lv_bipush (v := 12) hx hb dY80 (by decide) ?_
    refine scpyW (f0 := 102) (f1 := 97) (j0 := 0) (j1 := j) tInj tfmok hx hb hml' hown hts hK (cwa _ (List.Mem.head _)) (cwa _ (List.Mem.tail _ (List.Mem.head _))) (cwa _ (List.Mem.tail _ (List.Mem.tail _ (List.Mem.head _)))) (cwa _ (List.Mem.tail _ (List.Mem.tail _ (List.Mem.tail _ (List.Mem.head _))))) h5 p5 d5 s5 rfl rfl rfl rfl rfl rfl (Nat.zero_lt_one) hj (by decide) (Nat.le_refl 12) (Nat.le_refl 12) (Nat.zero_le _) hRf hRl dY82 (fun ws6 H6 locs6 h6 p6 d6 s6 => ?_)
    have v6 : cInv M0 j (sMcp M5 102 0 97 j (12 : Int32).toNatClampNeg) := cInv_cpy v5 (by decide) (fun i q hq => ⟨(0, 7), rfl, by cases (show srg tg 97 i = some (0, 7) from rfl).symm.trans hq; exact ⟨by decide, by decide⟩⟩)
    have u1 : sMcp M5 102 0 97 j (12 : Int32).toNatClampNeg 74 j 1 = M0 75 0 1 := by rw [smcp_f (by decide), u1]
    have c100 : ∀ i : Nat, i < x.toNatClampNeg → sMcp M5 102 0 97 j (12 : Int32).toNatClampNeg 100 j i = M0 105 0 i := fun i hi => (smcp_f (by decide)).trans (c100 i hi)
    have c96 : ∀ i : Nat, i < (12 : Int32).toNatClampNeg → sMcp M5 102 0 97 j (12 : Int32).toNatClampNeg 96 j i = M0 101 0 i := fun i hi => (smcp_f (by decide)).trans (c96 i hi)
    have c97 : ∀ i : Nat, i < (12 : Int32).toNatClampNeg → sMcp M5 102 0 97 j (12 : Int32).toNatClampNeg 97 j i = M0 102 0 i := fun i hi => (show sMcp M5 102 0 97 j (12 : Int32).toNatClampNeg 97 j i = M5 102 0 i from if_pos ⟨rfl, rfl, hi⟩).trans (v5.1 102 0 i (by decide))
    have u0 : sMcp M5 102 0 97 j (12 : Int32).toNatClampNeg 74 j 0 = M0 75 0 0 := by rw [smcp_f (by decide), u0]
    have hL : M0 75 0 1 ≤ sMcp M5 102 0 97 j (12 : Int32).toNatClampNeg 106 j 0 := by rw [smcp_f (by decide)]; exact hL
    generalize sMcp M5 102 0 97 j (12 : Int32).toNatClampNeg = M6 at h6 v6 u0 u1 hL c100 c96 c97
    refine lv_aload_n hx hb dY85 rfl (lv_at hl 1 rfl) ?_
    refine cgetR (C := RX3) (T := TX3) (N := 7) hx hb hown hts hK zin2 rfl h6 p6 cE75_at rfl (Nat.zero_lt_one) (by decide) rfl cw4 dY86 ?_
    refine lv_iconst (v := 0) hx hb dY89 (by decide) ?_
    refine lv_aload_n hx hb dY90 rfl (lv_at hl 0 rfl) ?_
    refine cgetR (C := RX3) (T := TX3) (N := 7) hx hb hown hts hK zin2 rfl h6 p6 cE74_at rfl hj (by decide) rfl cw4 dY91 ?_
    refine lv_iconst (v := 0) hx hb dY94 (by decide) ?_
    refine lv_bipush (v := 12) hx hb dY95 (by decide) ?_
    refine scpyW (f0 := 103) (f1 := 98) (j0 := 0) (j1 := j) tInj tfmok hx hb hml' hown hts hK (cwa _ (List.Mem.head _)) (cwa _ (List.Mem.tail _ (List.Mem.head _))) (cwa _ (List.Mem.tail _ (List.Mem.tail _ (List.Mem.head _)))) (cwa _ (List.Mem.tail _ (List.Mem.tail _ (List.Mem.tail _ (List.Mem.head _))))) h6 p6 d6 s6 rfl rfl rfl rfl rfl rfl (Nat.zero_lt_one) hj (by decide) (Nat.le_refl 12) (Nat.le_refl 12) (Nat.zero_le _) hRf hRl dY97 (fun ws7 H7 locs7 h7 p7 d7 s7 => ?_)
    have v7 : cInv M0 j (sMcp M6 103 0 98 j (12 : Int32).toNatClampNeg) := cInv_cpy v6 (by decide) (fun i q hq => ⟨(0, 1000), rfl, by cases (show srg tg 98 i = some (0, 1000) from rfl).symm.trans hq; exact ⟨by decide, by decide⟩⟩)
    have u1 : sMcp M6 103 0 98 j (12 : Int32).toNatClampNeg 74 j 1 = M0 75 0 1 := by rw [smcp_f (by decide), u1]
    have c100 : ∀ i : Nat, i < x.toNatClampNeg → sMcp M6 103 0 98 j (12 : Int32).toNatClampNeg 100 j i = M0 105 0 i := fun i hi => (smcp_f (by decide)).trans (c100 i hi)
    have c96 : ∀ i : Nat, i < (12 : Int32).toNatClampNeg → sMcp M6 103 0 98 j (12 : Int32).toNatClampNeg 96 j i = M0 101 0 i := fun i hi => (smcp_f (by decide)).trans (c96 i hi)
    have c97 : ∀ i : Nat, i < (12 : Int32).toNatClampNeg → sMcp M6 103 0 98 j (12 : Int32).toNatClampNeg 97 j i = M0 102 0 i := fun i hi => (smcp_f (by decide)).trans (c97 i hi)
    have c98 : ∀ i : Nat, i < (12 : Int32).toNatClampNeg → sMcp M6 103 0 98 j (12 : Int32).toNatClampNeg 98 j i = M0 103 0 i := fun i hi => (show sMcp M6 103 0 98 j (12 : Int32).toNatClampNeg 98 j i = M6 103 0 i from if_pos ⟨rfl, rfl, hi⟩).trans (v6.1 103 0 i (by decide))
    have u0 : sMcp M6 103 0 98 j (12 : Int32).toNatClampNeg 74 j 0 = M0 75 0 0 := by rw [smcp_f (by decide), u0]
    have hL : M0 75 0 1 ≤ sMcp M6 103 0 98 j (12 : Int32).toNatClampNeg 106 j 0 := by rw [smcp_f (by decide)]; exact hL
    generalize sMcp M6 103 0 98 j (12 : Int32).toNatClampNeg = M7 at h7 v7 u0 u1 hL c100 c96 c97 c98
    refine lv_aload_n hx hb dY100 rfl (lv_at hl 1 rfl) ?_
    refine cgetR (C := RX3) (T := TX3) (N := 7) hx hb hown hts hK zin2 rfl h7 p7 cE75_at rfl (Nat.zero_lt_one) (by decide) rfl cw5 dY101 ?_
    refine lv_iconst (v := 0) hx hb dY104 (by decide) ?_
    refine lv_aload_n hx hb dY105 rfl (lv_at hl 0 rfl) ?_
    refine cgetR (C := RX3) (T := TX3) (N := 7) hx hb hown hts hK zin2 rfl h7 p7 cE74_at rfl hj (by decide) rfl cw5 dY106 ?_
    refine lv_iconst (v := 0) hx hb dY109 (by decide) ?_
    refine lv_bipush (v := 12) hx hb dY110 (by decide) ?_
    refine scpyW (f0 := 104) (f1 := 99) (j0 := 0) (j1 := j) tInj tfmok hx hb hml' hown hts hK (cwa _ (List.Mem.head _)) (cwa _ (List.Mem.tail _ (List.Mem.head _))) (cwa _ (List.Mem.tail _ (List.Mem.tail _ (List.Mem.head _)))) (cwa _ (List.Mem.tail _ (List.Mem.tail _ (List.Mem.tail _ (List.Mem.head _))))) h7 p7 d7 s7 rfl rfl rfl rfl rfl rfl (Nat.zero_lt_one) hj (by decide) (Nat.le_refl 12) (Nat.le_refl 12) (Nat.zero_le _) hRf hRl dY112 (fun ws8 H8 locs8 h8 p8 d8 s8 => ?_)
    have v8 : cInv M0 j (sMcp M7 104 0 99 j (12 : Int32).toNatClampNeg) := cInv_cpy v7 (by decide) (fun i q hq => ⟨(0, 1000), rfl, by cases (show srg tg 99 i = some (0, 1000) from rfl).symm.trans hq; exact ⟨by decide, by decide⟩⟩)
    have u1 : sMcp M7 104 0 99 j (12 : Int32).toNatClampNeg 74 j 1 = M0 75 0 1 := by rw [smcp_f (by decide), u1]
    have c100 : ∀ i : Nat, i < x.toNatClampNeg → sMcp M7 104 0 99 j (12 : Int32).toNatClampNeg 100 j i = M0 105 0 i := fun i hi => (smcp_f (by decide)).trans (c100 i hi)
    have c96 : ∀ i : Nat, i < (12 : Int32).toNatClampNeg → sMcp M7 104 0 99 j (12 : Int32).toNatClampNeg 96 j i = M0 101 0 i := fun i hi => (smcp_f (by decide)).trans (c96 i hi)
    have c97 : ∀ i : Nat, i < (12 : Int32).toNatClampNeg → sMcp M7 104 0 99 j (12 : Int32).toNatClampNeg 97 j i = M0 102 0 i := fun i hi => (smcp_f (by decide)).trans (c97 i hi)
    have c98 : ∀ i : Nat, i < (12 : Int32).toNatClampNeg → sMcp M7 104 0 99 j (12 : Int32).toNatClampNeg 98 j i = M0 103 0 i := fun i hi => (smcp_f (by decide)).trans (c98 i hi)
    have c99 : ∀ i : Nat, i < (12 : Int32).toNatClampNeg → sMcp M7 104 0 99 j (12 : Int32).toNatClampNeg 99 j i = M0 104 0 i := fun i hi => (show sMcp M7 104 0 99 j (12 : Int32).toNatClampNeg 99 j i = M7 104 0 i from if_pos ⟨rfl, rfl, hi⟩).trans (v7.1 104 0 i (by decide))
    have u0 : sMcp M7 104 0 99 j (12 : Int32).toNatClampNeg 74 j 0 = M0 75 0 0 := by rw [smcp_f (by decide), u0]
    have hL : M0 75 0 1 ≤ sMcp M7 104 0 99 j (12 : Int32).toNatClampNeg 106 j 0 := by rw [smcp_f (by decide)]; exact hL
    refine hend 115 ls [] ws8 H8 locs8 nc ns ⟨dY115, rfl⟩ ⟨rfl, _, ad, h8, ha, v8, u0, u1, hL, fun i hi => c100 i (by omega), c96, c97, c98, c99⟩ p8 d8 s8 hnc hns
  refine lv_aload_n hx hb dY16 rfl (lv_at hl 0 rfl) ?_
  refine cgetR (C := RX3) (T := TX3) (N := 7) hx hb hown hts hK zin2 rfl h2 p2 cE74_at rfl hj (by decide) rfl cw6 dY17 ?_
  obtain ⟨wc, hwc, hsc⟩ := h2 100 cE100 cE100_at j hj
  obtain ⟨gc, rfl, -⟩ := hsc.1 (by decide)
  refine va_alen hx hb hK p2 _ 0 hwc rfl rfl dY20 ?_
  refine lv_aload_n hx hb dY21 rfl (lv_at hl 0 rfl) ?_
  refine cgetI (C := RX3) (T := TX3) (N := 7) hx hb hown hts hK zin2 rfl h2 p2 cE74_at rfl hj (by decide) rfl cw1 dY22 (fun x e9 => ?_)
  rw [u1] at e9
  have eL : (Int32.ofNat (slen M2 j (0, 1, 106, 0))).toInt = M2 106 j 0 := by
    have e1 : slen M2 j (0, 1, 106, 0) = (M2 106 j 0).toNat := rfl
    rw [e1, sofn (by omega)]
    omega
  refine zw_icmp hx hb dY25 (tgt := 38) rfl (fun q => ?_) (fun q => ?_)
  · have := szro.mp q
    simp only [sCmp] at this
    exact fin M2 ad0 ws2 H2 locs2 0 0 (Nat.zero_le _) (Nat.zero_le _) h2 p2 d2 s2 v2 u0 u1 (by omega) (fun _ _ _ => rfl)
  · refine lv_aload_n hx hb dY28 rfl (lv_at hl 0 rfl) ?_
    refine lv_aload_n hx hb dY29 rfl (lv_at hl 0 rfl) ?_
    refine cgetI (C := RX3) (T := TX3) (N := 7) hx hb hown hts hK zin2 rfl h2 p2 cE74_at rfl hj (by decide) rfl cw1 dY30 (fun x e9 => ?_)
    rw [u1] at e9
    refine cnew hx hb hown hts hK hA h2 p2 d2 s2 hj (by omega) (by omega) (by omega) (by omega) (fun ws' H' locs' q9 h3 p3 d3 s3 => ?_)
    refine fin _ _ ws' H' locs' (0 + 1) (0 + 1000) (by omega) (by omega) h3 p3 d3 s3 (cInv_new v2 (by omega) (by omega)) ?_ ?_ ?_ (fun f j' hf => if_neg (fun z => hf z.1))
    · unfold cM
      rw [if_neg (fun z => by cases z.1), if_neg (fun z => by cases z.1), u0]
    · unfold cM
      rw [if_neg (fun z => by cases z.1), if_neg (fun z => by cases z.1), u1]
    · unfold cM
      rw [if_neg (fun z => by cases z.1), if_pos ⟨rfl, rfl, rfl⟩]
      omega
