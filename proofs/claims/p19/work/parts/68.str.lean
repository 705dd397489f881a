/-! the signs of the words: String.charAt over a String that is a constant -/
def meP : ZMe := (RJ3, yJ3_checkIndex_8e157, cJ3_checkIndex_8e157, 3, some .int, 0, 0)
def meC : ZMe := (RJ0, yJ0_checkIndex_df160, cJ0_checkIndex_df160, 2, none, 0, 0)
def meL : ZMe := (RJ1, yJ1_charAt_3b067, cJ1_charAt_3b067, 2, some .char, 0, 0)
def meI : ZMe := (RJ0, yJ0_isLatin1_aae02, cJ0_isLatin1_aae02, 1, some .boolean, 0, 0)
def meA : ZMe := (RJ0, yJ0_charAt_5068e, cJ0_charAt_5068e, 2, some .char, 0, 0)
theorem dP0 : decode cJ3_checkIndex_8e157 0 = .ok (.iload_n 0, 1) := by decide +kernel
theorem dP1 : decode cJ3_checkIndex_8e157 1 = .ok (.ifCond .lt 8, 3) := by decide +kernel
theorem dP4 : decode cJ3_checkIndex_8e157 4 = .ok (.iload_n 0, 1) := by decide +kernel
theorem dP5 : decode cJ3_checkIndex_8e157 5 = .ok (.iload_n 1, 1) := by decide +kernel
theorem dP6 : decode cJ3_checkIndex_8e157 6 = .ok (.if_icmp .lt 10, 3) := by decide +kernel
theorem dP16 : decode cJ3_checkIndex_8e157 16 = .ok (.iload_n 0, 1) := by decide +kernel
theorem dP17 : decode cJ3_checkIndex_8e157 17 = .ok (.ireturn, 1) := by decide +kernel
theorem dC0 : decode cJ0_checkIndex_df160 0 = .ok (.iload_n 0, 1) := by decide +kernel
theorem dC1 : decode cJ0_checkIndex_df160 1 = .ok (.iload_n 1, 1) := by decide +kernel
theorem dC2 : decode cJ0_checkIndex_df160 2 = .ok (.getstatic 1053, 3) := by decide +kernel
theorem dC5 : decode cJ0_checkIndex_df160 5 = .ok (.invokestatic 1059, 3) := by decide +kernel
theorem dC8 : decode cJ0_checkIndex_df160 8 = .ok (.pop, 1) := by decide +kernel
theorem dC9 : decode cJ0_checkIndex_df160 9 = .ok (.return_, 1) := by decide +kernel
theorem dI0 : decode cJ0_isLatin1_aae02 0 = .ok (.getstatic 38, 3) := by decide +kernel
theorem dI3 : decode cJ0_isLatin1_aae02 3 = .ok (.ifCond .eq 14, 3) := by decide +kernel
theorem dI6 : decode cJ0_isLatin1_aae02 6 = .ok (.aload_n 0, 1) := by decide +kernel
theorem dI7 : decode cJ0_isLatin1_aae02 7 = .ok (.getfield 15, 3) := by decide +kernel
theorem dI10 : decode cJ0_isLatin1_aae02 10 = .ok (.ifCond .ne 7, 3) := by decide +kernel
theorem dI13 : decode cJ0_isLatin1_aae02 13 = .ok (.iconst 1, 1) := by decide +kernel
theorem dI14 : decode cJ0_isLatin1_aae02 14 = .ok (.goto 4, 3) := by decide +kernel
theorem dI18 : decode cJ0_isLatin1_aae02 18 = .ok (.ireturn, 1) := by decide +kernel
theorem dS0 : decode cJ1_charAt_3b067 0 = .ok (.iload_n 1, 1) := by decide +kernel
theorem dS1 : decode cJ1_charAt_3b067 1 = .ok (.aload_n 0, 1) := by decide +kernel
theorem dS2 : decode cJ1_charAt_3b067 2 = .ok (.arraylength, 1) := by decide +kernel
theorem dS3 : decode cJ1_charAt_3b067 3 = .ok (.invokestatic 9, 3) := by decide +kernel
theorem dS6 : decode cJ1_charAt_3b067 6 = .ok (.aload_n 0, 1) := by decide +kernel
theorem dS7 : decode cJ1_charAt_3b067 7 = .ok (.iload_n 1, 1) := by decide +kernel
theorem dS8 : decode cJ1_charAt_3b067 8 = .ok (.baload, 1) := by decide +kernel
theorem dS9 : decode cJ1_charAt_3b067 9 = .ok (.sipush 255, 3) := by decide +kernel
theorem dS12 : decode cJ1_charAt_3b067 12 = .ok (.iand, 1) := by decide +kernel
theorem dS13 : decode cJ1_charAt_3b067 13 = .ok (.i2c, 1) := by decide +kernel
theorem dS14 : decode cJ1_charAt_3b067 14 = .ok (.ireturn, 1) := by decide +kernel
theorem dA0 : decode cJ0_charAt_5068e 0 = .ok (.aload_n 0, 1) := by decide +kernel
theorem dA1 : decode cJ0_charAt_5068e 1 = .ok (.invokevirtual 492, 3) := by decide +kernel
theorem dA4 : decode cJ0_charAt_5068e 4 = .ok (.ifCond .eq 12, 3) := by decide +kernel
theorem dA7 : decode cJ0_charAt_5068e 7 = .ok (.aload_n 0, 1) := by decide +kernel
theorem dA8 : decode cJ0_charAt_5068e 8 = .ok (.getfield 9, 3) := by decide +kernel
theorem dA11 : decode cJ0_charAt_5068e 11 = .ok (.iload_n 1, 1) := by decide +kernel
theorem dA12 : decode cJ0_charAt_5068e 12 = .ok (.invokestatic 495, 3) := by decide +kernel
theorem dA15 : decode cJ0_charAt_5068e 15 = .ok (.ireturn, 1) := by decide +kernel
theorem jwP : ∀ w ∈ zcw RJ0 1059 0 yJ3_checkIndex_8e157 cJ3_checkIndex_8e157 3 (some .int), w ∈ zT := zchk_ok (is := [926, 927, 135, 928]) (by decide +kernel)
theorem jwC : ∀ w ∈ zcw RJ1 9 0 yJ0_checkIndex_df160 cJ0_checkIndex_df160 2 none, w ∈ zT := zchk_ok (is := [921, 922, 133, 923]) (by decide +kernel)
theorem jwL : ∀ w ∈ zcw RJ0 495 0 yJ1_charAt_3b067 cJ1_charAt_3b067 2 (some .char), w ∈ zT := zchk_ok (is := [918, 919, 134, 920]) (by decide +kernel)
theorem jwI : ∀ w ∈ zcw RJ0 492 2 yJ0_isLatin1_aae02 cJ0_isLatin1_aae02 1 (some .boolean), w ∈ zT := zchk_ok (is := [912, 913, 133, 915, 914]) (by decide +kernel)
theorem jwA : ∀ w ∈ [Cond.instanceMethod yJ0_charAt_5068e, .initialized RJ0, .code yJ0_charAt_5068e cJ0_charAt_5068e 2 (some .char), .selects RJ0 yJ0_charAt_5068e yJ0_charAt_5068e], w ∈ zT := zchk_ok (is := [909, 133, 911, 910]) (by decide +kernel)
theorem jwF : ∀ w ∈ [Cond.fieldLink RJ0 38 RJ0 "COMPACT_STRINGS" "Z", .fieldLink RJ0 1053 RJ3 "SIOOBE_FORMATTER" "Ljava/util/function/BiFunction;", .fieldLink RJ0 15 RJ0 "coder" "B", .fieldLink RJ0 9 RJ0 "value" "[B"], w ∈ zT := zchk_ok (is := [916, 924, 1825, 1826]) (by decide +kernel)
section SSR
variable {EX : SEx} {p : Program} {l : Launch} {e : Env} {R : Room} {s : State} {m : MethodId} {args : Array Value} {below : List Frame} {meth : Method} {c : Code} {Q : State → Prop} {dC : Nat → ClassId} {dI : Nat → Nat → Nat} {cA : Nat → ClassId} {A : Nat → Prop} {pc : Nat} {nc ns : Nat}
theorem scallX (hEX : sEXok EX) {d' idx kd n : Nat} {ins : Instr} {me me2 : ZMe} {ws : va_W} {H : Heap} {locs : List Loc} {ls : Array Slot} {clv : ZL} {cst cas crest : List Value} {PO : List Value → va_W → Prop}
    (F : sF (d' + 1) me EX p R s m args c dC dI cA A) (hw : ∀ w ∈ zcw me.1 idx kd me2.2.1 me2.2.2.1 me2.2.2.2.1 me2.2.2.2.2.1, w ∈ zT) (hkd : kd = 0 ∨ kd = 2) (hd : me2.2.1.cls ≠ "java/lang/invoke/MethodHandle" ∧ me2.2.1.cls ≠ "java/lang/invoke/VarHandle" ∧ (parseMethodDescriptor me2.2.1.desc).map (fun d => d.parameters.length) = some n) (hm : me2.2.2.2.1 ≤ 21) (hpl : Jvm.plainName me2.2.1.cls = true) (hoy : me2.1 = me2.2.1.cls) (hRun : sRun d' me2 EX l dC dI cA ws cas PO)
    (hP : va_P (dC, dI) vwCl ws H) (hD : va_D A ws) (hS : va_S A s.heap H locs) (hl : lv_has ls me.2.2.2.1 clv)
    (hst : cst = cas.reverse ++ crest) (h8 : (crest.map fun v => v.category).sum ≤ 8) (hlen : (lg_sl cas).length ≤ me2.2.2.2.1) (hn : cas.length = if kd ≤ 1 then n else n + 1)
    (hrc : 2 ≤ kd → ∃ (b : Nat) (as2 : List Value), cas = .ref b :: as2 ∧ (kd = 2 → ∃ cell : Cell, H[b]? = some cell ∧ cell.vm.isStatics = false ∧ s.vm.findClass me2.2.1.cls = some cell.cls))
    (hff : nc + me2.2.2.2.2.2.1 ≤ R.cells ∧ ns + me2.2.2.2.2.2.2 ≤ R.slots)
    (hins : (kd = 0 ∨ kd = 1) ∧ ins = .invokestatic idx ∨ kd = 2 ∧ ins = .invokevirtual idx) (hdg : decode me.2.2.1 pc = .ok (ins, 3))
    (kk : ∀ (r : List Value) (ws' : va_W) (H1 : Heap) (locs1 : List Loc), PO r ws' → va_P (dC, dI) vwCl ws' H1 → va_D A ws' → va_S A s.heap H1 locs1 → W p l e R s m args below meth c H1 locs1 (nc + me2.2.2.2.2.2.1) (ns + me2.2.2.2.2.2.2) Q (F0 m (pc + 3) ls (r ++ crest))) :
    W p l e R s m args below meth c H locs nc ns Q (F0 m pc ls cst) := by
  obtain ⟨hx, hb, hml, hown, hts, hK, hA, hRd, hRb, hE9⟩ := F
  obtain ⟨own2, y2, cc2, mL2, rt2, bc2, bs2⟩ := me2
  have hfree := zfree hD hS hA
  have hk4 : kd ≤ 2 := by rcases hkd with h | h <;> omega
  have hnest : kd = 1 ∨ kd = 5 → Cond.methodLinkNest me.1 idx y2 "NamesUnder" ∈ zNl := fun q => by
    rcases hkd with h | h <;> rcases q with q | q <;> omega
  have hE2 := sEX_now hEX hE9 hS
  cases rt2 with
  | none =>
    have hM := smetv (l := l) (sz := H.size) hpl hoy hlen hRun
    have hR9 := srun (e := e) (below := below) (meth := meth) (locs := locs) (nc := nc) (ns := ns) (own := me.1) hEX hx hb hml hown hts hK hP hD hl.1 hM hE2 hfree hw hnest hd hm hk4 hRd hff hst h8 hn hrc hins hdg
    refine va_callv hR9 hS (fun q _ h => hfree q h) hfree (fun u t H1 locs1 ht hvm hw hB hz1 hk1 hS1 => ?_)
    obtain ⟨hP1, hK1, hD1⟩ := hB
    rw [ht] at hP1
    exact kk [] u H1 locs1 hw hP1 (hD1.weaken (fun _ q _ z => hfree q.1 z)) hS1
  | some ty =>
    have hM := smeti (l := l) (sz := H.size) hpl hoy hlen hRun
    have hR9 := srun (e := e) (below := below) (meth := meth) (locs := locs) (nc := nc) (ns := ns) (own := me.1) hEX hx hb hml hown hts hK hP hD hl.1 hM hE2 hfree hw hnest hd hm hk4 hRd hff hst h8 hn hrc hins hdg
    refine va_calli hR9 hS (fun q _ h => hfree q h) hfree (fun x u t H1 locs1 ht hvm hw hB hz1 hk1 hS1 => ?_)
    obtain ⟨hP1, hK1, hD1⟩ := hB
    rw [ht] at hP1
    exact kk [.int x] u H1 locs1 hw hP1 (hD1.weaken (fun _ q _ z => hfree q.1 z)) hS1
theorem jr_P {ws : va_W} {i n : Int32} {v : Value} (hv : v.category = 1) (h0 : 0 ≤ i.toInt) (h1 : i.toInt < n.toInt) : sRun 0 meP EX l dC dI cA ws [.int i, .int n, v] (fun r ws' => r = [.int i] ∧ ws' = ws) := by
  intro p e R s m args below meth c Q A ls F hP hD hl hend
  obtain ⟨hx, hb, hml, hown, hts, hK, hA, hRd, hRb, hE9⟩ := F
  have hb : c.code = cJ3_checkIndex_8e157 := hb
  refine lv_iload_n hx hb dP0 rfl (lv_at hl 0 rfl) ?_
  refine zw_if hx hb dP1 (tgt := 9) rfl (fun q => ?_) (fun _ => ?_)
  · have := szro.mp q
    have e0 : (0 : Int32).toInt = 0 := rfl
    simp only [sCmp] at this
    omega
  refine lv_iload_n hx hb dP4 rfl (lv_at hl 0 rfl) ?_
  refine lv_iload_n hx hb dP5 rfl (lv_at hl 1 rfl) ?_
  refine zw_icmp hx hb dP6 (tgt := 16) rfl (fun _ => ?_) (fun q => ?_)
  · refine lv_iload_n hx hb dP16 rfl (lv_at hl 0 rfl) ?_
    exact hend 17 ls [.int i] ws s.heap [] 0 0 ⟨dP17, i, rfl, rfl⟩ ⟨rfl, rfl⟩ hP hD va_S.rf (Nat.le_refl _) (Nat.le_refl _)
  · have h9 : zro .lt i.toInt n.toInt = true := szro.mpr (by simp only [sCmp]; omega)
    rw [h9] at q
    cases q
end SSR
