/-! String.charAt, from what is known beside the world -/
def sJ (EX : SEx) (aK aV : Nat) : Prop := ∀ A s H, EX A s H → (va_O RJ0 aK A s H ∧ va_OF RJ0 "coder" "B" (.int 0) aK A s H ∧ va_OF RJ0 "value" "[B" (.ref aV) aK A s H ∧ ∃ g : Nat → Int32, va_T .byte aV 120 (fun j => .int (g j)) A s H) ∧ va_Z RJ0 "COMPACT_STRINGS" "Z" (.int 1) A s H ∧ va_Zq RJ3 "SIOOBE_FORMATTER" "Ljava/util/function/BiFunction;" A s H
section SCH
variable {EX : SEx} {l : Launch} {dC : Nat → ClassId} {dI : Nat → Nat → Nat} {cA : Nat → ClassId} {aK aV : Nat}
theorem jr_C (hEX : sEXok EX) (hJ : sJ EX aK aV) {ws : va_W} {i n : Int32} (h0 : 0 ≤ i.toInt) (h1 : i.toInt < n.toInt) : sRun 1 meC EX l dC dI cA ws [.int i, .int n] (fun r ws' => r = [] ∧ ws' = ws) := by
  intro p e R s m args below meth c Q A ls F hP hD hl hend
  have F' := F
  obtain ⟨hx, hb, hml, hown, hts, hK, hA, hRd, hRb, hE9⟩ := F
  have hb : c.code = cJ0_checkIndex_df160 := hb
  have hown : s.vm.findClass RJ0 = some m.cls := hown
  refine lv_iload_n hx hb dC0 rfl (lv_at hl 0 rfl) ?_
  refine lv_iload_n hx hb dC1 rfl (lv_at hl 1 rfl) ?_
  have hcall : ∀ v : Value, v.category = 1 → W p l e R s m args below meth c s.heap [] 0 0 Q (F0 m 5 ls [v, .int n, .int i]) := by
    intro v hv
    refine scallX (d' := 0) (me2 := meP) (cas := [.int i, .int n, v]) (crest := []) (clv := lv_args 0 [.int i, .int n]) hEX F' jwP (Or.inl rfl) (n := 3) (by decide +kernel) (by decide) (by decide) rfl (jr_P (ws := ws) hv h0 h1) hP hD va_S.rf hl rfl (by decide) ?_ rfl (fun q => absurd q (by decide)) ⟨Nat.zero_le _, Nat.zero_le _⟩ (Or.inl ⟨Or.inl rfl, rfl⟩) dC5 (fun r ws' H1 locs1 hr q1 q2 q3 => ?_)
    · rw [zslots]
      simp only [List.map_cons, List.map_nil, hv]
      exact Nat.le_of_ble_eq_true rfl
    · obtain ⟨rfl, rfl⟩ := hr
      refine lv_pop hx hb dC8 rfl ?_
      exact hend 9 ls [] ws' H1 locs1 _ _ ⟨dC9, rfl⟩ ⟨rfl, rfl⟩ q1 q2 q3 (Nat.le_refl _) (Nat.le_refl _)
  rcases (hJ A s s.heap hE9).2.2 with hz | ⟨t, hz⟩
  · exact va_gets hx hb hz va_S.rf hown (hts _ (jwF _ (by simp))) (fun _ z => z) dC2 (hcall .null rfl)
  · exact va_gets hx hb hz va_S.rf hown (hts _ (jwF _ (by simp))) (fun _ z => z) dC2 (hcall (.ref t) rfl)
theorem jr_I (hJ : sJ EX aK aV) {ws : va_W} : sRun 0 meI EX l dC dI cA ws [.ref aK] (fun r ws' => r = [.int 1] ∧ ws' = ws) := by
  intro p e R s m args below meth c Q A ls F hP hD hl hend
  obtain ⟨hx, hb, hml, hown, hts, hK, hA, hRd, hRb, hE9⟩ := F
  have hb : c.code = cJ0_isLatin1_aae02 := hb
  have hown : s.vm.findClass RJ0 = some m.cls := hown
  obtain ⟨⟨j1, j2, j3, g, j4⟩, j5, j6⟩ := hJ A s s.heap hE9
  refine va_gets hx hb j5 va_S.rf hown (hts _ (jwF _ (by simp))) (fun _ z => z) dI0 ?_
  refine zw_if hx hb dI3 (tgt := 17) rfl (fun q => by cases q) (fun _ => ?_)
  refine lv_aload_n hx hb dI6 rfl (lv_at hl 0 rfl) ?_
  refine va_getX (N := 1) (v := fun _ => .int 0) (ad := fun _ => aK) (i := 0) hx hb (fun _ _ => j2) (by decide) va_S.rf hown (hts _ (jwF _ (by simp))) (fun _ z => z) dI7 ?_
  refine zw_if hx hb dI10 (tgt := 17) rfl (fun q => by cases q) (fun _ => ?_)
  refine lv_iconst (v := 1) hx hb dI13 (by decide) ?_
  refine lv_goto hx hb dI14 (tgt := 18) rfl ?_
  exact hend 18 ls [.int 1] ws s.heap [] 0 0 ⟨dI18, 1, rfl, rfl⟩ ⟨rfl, rfl⟩ hP hD va_S.rf (Nat.le_refl _) (Nat.le_refl _)
theorem snarr {x : Int32} (h0 : 0 ≤ x.toInt) (h1 : x.toInt ≤ 65535) : narrow .char (.int x) = .int x := congrArg Value.int (snarc h0 h1)
theorem jr_L (hEX : sEXok EX) (hJ : sJ EX aK aV) {ws : va_W} {i : Int32} (h0 : 0 ≤ i.toInt) (h1 : i.toInt < 120) : sRun 2 meL EX l dC dI cA ws [.ref aV, .int i] (fun r ws' => (∃ x : Int32, r = [.int x] ∧ 0 ≤ x.toInt ∧ x.toInt ≤ 65535) ∧ ws' = ws) := by
  intro p e R s m args below meth c Q A ls F hP hD hl hend
  have F' := F
  obtain ⟨hx, hb, hml, hown, hts, hK, hA, hRd, hRb, hE9⟩ := F
  have hb : c.code = cJ1_charAt_3b067 := hb
  have hown : s.vm.findClass RJ1 = some m.cls := hown
  obtain ⟨⟨j1, j2, j3, g, j4⟩, j5, j6⟩ := hJ A s s.heap hE9
  refine lv_iload_n hx hb dS0 rfl (lv_at hl 1 rfl) ?_
  refine lv_aload_n hx hb dS1 rfl (lv_at hl 0 rfl) ?_
  refine va_tlen hx hb j4 va_S.rf rfl dS2 ?_
  have e120 : (Int32.ofNat 120).toInt = 120 := by decide
  refine scallX (d' := 1) (me2 := meC) (cas := [.int i, .int (Int32.ofNat 120)]) (crest := []) (clv := lv_args 0 [.ref aV, .int i]) hEX F' jwC (Or.inl rfl) (n := 2) (by decide +kernel) (by decide) (by decide) rfl (jr_C (ws := ws) hEX hJ h0 (by rw [e120]; exact h1)) hP hD va_S.rf hl rfl (by decide) (Nat.le_of_ble_eq_true rfl) rfl (fun q => absurd q (by decide)) ⟨Nat.zero_le _, Nat.zero_le _⟩ (Or.inl ⟨Or.inl rfl, rfl⟩) dS3 (fun r ws' H1 locs1 hr q1 q2 q3 => ?_)
  obtain ⟨rfl, rfl⟩ := hr
  refine lv_aload_n hx hb dS6 rfl (lv_at hl 0 rfl) ?_
  refine lv_iload_n hx hb dS7 rfl (lv_at hl 1 rfl) ?_
  refine va_tb hx hb j4 q3 (vp_in_iff.mpr ⟨h0, by omega⟩) rfl dS8 ?_
  refine lv_sipush hx hb dS9 rfl ?_
  refine lv_iand hx hb dS12 ?_
  refine lv_i2c hx hb dS13 rfl ?_
  have h2 := s2c (g i.toNatClampNeg &&& (Int16.ofInt 255).toInt32)
  exact hend 14 ls [.int _] ws' H1 locs1 _ _ ⟨dS14, _, rfl, snarr h2.1 h2.2.1⟩ ⟨⟨_, rfl, h2.1, h2.2.1⟩, rfl⟩ q1 q2 q3 (Nat.le_refl _) (Nat.le_refl _)
theorem jr_A (hEX : sEXok EX) (hJ : sJ EX aK aV) {ws : va_W} {i : Int32} (h0 : 0 ≤ i.toInt) (h1 : i.toInt < 120) : sRun 3 meA EX l dC dI cA ws [.ref aK, .int i] (fun r ws' => (∃ x : Int32, r = [.int x] ∧ 0 ≤ x.toInt ∧ x.toInt ≤ 65535) ∧ ws' = ws) := by
  intro p e R s m args below meth c Q A ls F hP hD hl hend
  have F' := F
  obtain ⟨hx, hb, hml, hown, hts, hK, hA, hRd, hRb, hE9⟩ := F
  have hb : c.code = cJ0_charAt_5068e := hb
  have hown : s.vm.findClass RJ0 = some m.cls := hown
  obtain ⟨⟨j1, j2, j3, g, j4⟩, j5, j6⟩ := hJ A s s.heap hE9
  refine lv_aload_n hx hb dA0 rfl (lv_at hl 0 rfl) ?_
  refine scallX (d' := 2) (me2 := meI) (cas := [.ref aK]) (crest := []) (clv := lv_args 0 [.ref aK, .int i]) hEX F' jwI (Or.inr rfl) (n := 0) (by decide +kernel) (by decide) (by decide) rfl (sRun_mono (Nat.zero_le 2) (jr_I (ws := ws) hJ)) hP hD va_S.rf hl rfl (by decide) (Nat.le_of_ble_eq_true rfl) rfl (fun _ => ⟨aK, [], rfl, fun _ => ?_⟩) ⟨Nat.zero_le _, Nat.zero_le _⟩ (Or.inr ⟨rfl, rfl⟩) dA1 (fun r ws' H1 locs1 hr q1 q2 q3 => ?_)
  · obtain ⟨cell, k1, k2, k3, -⟩ := j1
    exact ⟨cell, k1, k2, k3⟩
  obtain ⟨rfl, rfl⟩ := hr
  refine zw_if hx hb dA4 (tgt := 16) rfl (fun q => by cases q) (fun _ => ?_)
  refine lv_aload_n hx hb dA7 rfl (lv_at hl 0 rfl) ?_
  refine va_getX (N := 1) (v := fun _ => .ref aV) (ad := fun _ => aK) (i := 0) hx hb (fun _ _ => j3) (by decide) q3 hown (hts _ (jwF _ (by simp))) (fun _ z => z) dA8 ?_
  refine lv_iload_n hx hb dA11 rfl (lv_at hl 1 rfl) ?_
  refine scallX (d' := 2) (me2 := meL) (cas := [.ref aV, .int i]) (crest := []) (clv := lv_args 0 [.ref aK, .int i]) hEX F' jwL (Or.inl rfl) (n := 2) (by decide +kernel) (by decide) (by decide) rfl (jr_L (ws := ws') hEX hJ h0 h1) q1 q2 q3 hl rfl (by decide) (Nat.le_of_ble_eq_true rfl) rfl (fun q => absurd q (by decide)) ⟨Nat.zero_le _, Nat.zero_le _⟩ (Or.inl ⟨Or.inl rfl, rfl⟩) dA12 (fun r2 ws2 H2 locs2 hr2 p1 p2 p3 => ?_)
  obtain ⟨⟨x, rfl, x0, x1⟩, rfl⟩ := hr2
  exact hend 15 ls [.int x] ws2 H2 locs2 _ _ ⟨dA15, x, rfl, snarr x0 x1⟩ ⟨⟨x, rfl, x0, x1⟩, rfl⟩ p1 p2 p3 (Nat.le_refl _) (Nat.le_refl _)
theorem jchr (hEX : sEXok EX) (hJ : sJ EX aK aV) : sCHR EX l dC dI cA aK := by
  intro p e R s m args below meth c Q A H locs ls rest nc ns pc idx own cc i ws hx hb hml hown hts hK hA hS hE9 hP hD h8 hRf hRl hRc hRs hlk hdg h0 h1 kk
  have hE2 := sEX_now hEX hE9 hS
  have hfree := zfree hD hS hA
  have hM := smeti (l := l) (cas := [.ref aK, .int i]) (ws := ws) (sz := H.size) (by decide) rfl (Nat.le_of_ble_eq_true rfl) (jr_A (ws := ws) (dC := dC) (dI := dI) (cA := cA) (l := l) hEX hJ h0 h1)
  have hw : ∀ w ∈ zcw own idx 2 yJ0_charAt_5068e cJ0_charAt_5068e 2 (some .char), w ∈ zT := by
    intro w hw
    simp only [zcw, List.mem_cons, List.not_mem_nil, or_false] at hw
    rcases hw with rfl | rfl | rfl | rfl | rfl
    · exact hlk
    · exact jwA _ (by simp)
    · exact jwA _ (by simp [yJ0_charAt_5068e])
    · exact jwA _ (by simp)
    · exact jwA _ (by simp [yJ0_charAt_5068e])
  obtain ⟨⟨j1, -⟩, -⟩ := hJ A s H hE2
  have hR9 := srun (e := e) (below := below) (meth := meth) (locs := locs) (nc := nc) (ns := ns) (own := own) (ls := ls) (cst := .int i :: .ref aK :: rest) (crest := rest) (n := 1) (kd := 2) (d' := 3) hEX hx hb hml hown hts hK hP hD rfl hM hE2 hfree hw (fun q => by rcases q with q | q <;> cases q) (by decide +kernel) (by decide) (by decide) ⟨by omega, by omega⟩ ⟨hRc, hRs⟩ rfl h8 rfl (fun _ => ⟨aK, [.int i], rfl, fun _ => by obtain ⟨cell, k1, k2, k3, -⟩ := j1; exact ⟨cell, k1, k2, k3⟩⟩) (Or.inr ⟨rfl, rfl⟩) hdg
  refine va_calli hR9 hS (fun q _ h => hfree q h) hfree (fun x u t H1 locs1 ht hvm hw9 hB hz1 hk1 hS1 => ?_)
  obtain ⟨⟨x', e1, x0, x1⟩, rfl⟩ := hw9
  cases e1
  obtain ⟨hP1, hK1, hD1⟩ := hB
  rw [ht] at hP1
  exact kk x H1 locs1 x0 x1 hP1 (hD1.weaken (fun _ q _ z => hfree q.1 z)) hS1
end SCH
