/-! case 8: the class throws, the law catches; the reference books it -/
theorem dX9_layer_0 : decode cX9_layer 0 = .ok (.aload_n 0, 1) := by decide +kernel
theorem dX9_layer_1 : decode cX9_layer 1 = .ok (.iload_n 1, 1) := by decide +kernel
theorem dX9_layer_2 : decode cX9_layer 2 = .ok (.iload_n 2, 1) := by decide +kernel
theorem dX9_layer_3 : decode cX9_layer 3 = .ok (.invokevirtual 142, 3) := by decide +kernel
theorem dX9_layer_6 : decode cX9_layer 6 = .ok (.ifCond .eq 11, 3) := by decide +kernel
theorem dX9_layer_9 : decode cX9_layer 9 = .ok (.iload_n 3, 1) := by decide +kernel
theorem dX9_layer_10 : decode cX9_layer 10 = .ok (.iconst 3, 1) := by decide +kernel
theorem dX9_layer_11 : decode cX9_layer 11 = .ok (.invokestatic 110, 3) := by decide +kernel
theorem dX9_layer_14 : decode cX9_layer 14 = .ok (.ifCond .ne 13, 3) := by decide +kernel
theorem dX9_layer_17 : decode cX9_layer 17 = .ok (.new 145, 3) := by decide +kernel
theorem dX9_layer_20 : decode cX9_layer 20 = .ok (.dup, 1) := by decide +kernel
theorem dX9_layer_21 : decode cX9_layer 21 = .ok (.ldc 147, 2) := by decide +kernel
theorem dX9_layer_23 : decode cX9_layer 23 = .ok (.invokespecial 149, 3) := by decide +kernel
theorem dX9_layer_26 : decode cX9_layer 26 = .ok (.athrow, 1) := by decide +kernel
theorem dL_layer_0 : decode cL_layer 0 = .ok (.aload 4, 2) := by decide +kernel
theorem dL_layer_2 : decode cL_layer 2 = .ok (.iconst 0, 1) := by decide +kernel
theorem dL_layer_3 : decode cL_layer 3 = .ok (.aload_n 0, 1) := by decide +kernel
theorem dL_layer_4 : decode cL_layer 4 = .ok (.iload_n 1, 1) := by decide +kernel
theorem dL_layer_5 : decode cL_layer 5 = .ok (.iload_n 2, 1) := by decide +kernel
theorem dL_layer_6 : decode cL_layer 6 = .ok (.iload_n 3, 1) := by decide +kernel
theorem dL_layer_7 : decode cL_layer 7 = .ok (.invokevirtual 7, 3) := by decide +kernel
theorem dL_layer_10 : decode cL_layer 10 = .ok (.i2l, 1) := by decide +kernel
theorem dL_layer_11 : decode cL_layer 11 = .ok (.lastore, 1) := by decide +kernel
theorem dL_layer_12 : decode cL_layer 12 = .ok (.goto 7, 3) := by decide +kernel
theorem dL_layer_15 : decode cL_layer 15 = .ok (.astore 5, 2) := by decide +kernel
theorem dL_layer_17 : decode cL_layer 17 = .ok (.iconst 1, 1) := by decide +kernel
theorem dL_layer_18 : decode cL_layer 18 = .ok (.ireturn, 1) := by decide +kernel
theorem dL_layer_19 : decode cL_layer 19 = .ok (.iconst 0, 1) := by decide +kernel
theorem dL_layer_20 : decode cL_layer 20 = .ok (.ireturn, 1) := by decide +kernel
theorem dL_law_658 : decode cL_law 658 = .ok (.aload_n 1, 1) := by decide +kernel
theorem dL_law_659 : decode cL_law 659 = .ok (.aload_n 0, 1) := by decide +kernel
theorem dL_law_660 : decode cL_law 660 = .ok (.iload 4, 2) := by decide +kernel
theorem dL_law_662 : decode cL_law 662 = .ok (.iconst 1, 1) := by decide +kernel
theorem dL_law_663 : decode cL_law 663 = .ok (.iadd, 1) := by decide +kernel
theorem dL_law_664 : decode cL_law 664 = .ok (.iaload, 1) := by decide +kernel
theorem dL_law_665 : decode cL_law 665 = .ok (.aload_n 0, 1) := by decide +kernel
theorem dL_law_666 : decode cL_law 666 = .ok (.iload 4, 2) := by decide +kernel
theorem dL_law_668 : decode cL_law 668 = .ok (.iconst 2, 1) := by decide +kernel
theorem dL_law_669 : decode cL_law 669 = .ok (.iadd, 1) := by decide +kernel
theorem dL_law_670 : decode cL_law 670 = .ok (.iaload, 1) := by decide +kernel
theorem dL_law_671 : decode cL_law 671 = .ok (.aload_n 0, 1) := by decide +kernel
theorem dL_law_672 : decode cL_law 672 = .ok (.iload 4, 2) := by decide +kernel
theorem dL_law_674 : decode cL_law 674 = .ok (.iconst 3, 1) := by decide +kernel
theorem dL_law_675 : decode cL_law 675 = .ok (.iadd, 1) := by decide +kernel
theorem dL_law_676 : decode cL_law 676 = .ok (.iaload, 1) := by decide +kernel
theorem dL_law_677 : decode cL_law 677 = .ok (.aload_n 3, 1) := by decide +kernel
theorem dL_law_678 : decode cL_law 678 = .ok (.invokestatic 59, 3) := by decide +kernel
def zfinI (r : ZS) : Bool := zstop (some .boolean) .ireturn && (Nat.beq r.1 29 && ((match r.2.2.1 with
  | [.int x] => decide (x = 0)
  | _ => false) && (zeh r.2.2.2.1 zzh && (Nat.ble r.2.2.2.2.1 0 && Nat.ble r.2.2.2.2.2 0))))
theorem dX9_isCut_29 : decode cX9_isCut 29 = .ok (.ireturn, 1) := by decide +kernel
def zla : ZL := [(0, .ref 0), (1, .retAddr 1), (2, .retAddr 2)]
noncomputable def zdrvI (N : Nat) (n : Nat) : ZN → Bool := Nat.rec (motive := fun _ => ZN → Bool) (fun _ => false) (fun _ ih box => match zgo zzm zzc zzd box 7 99999 N 41 5 0 zla [] zzh 0 0 with
  | .ok r => zfinI r
  | .error q => (match zget box q.1 with
    | some b => cond (decide (b.1 < q.2) && decide (q.2 ≤ b.2)) (zsk box (b.1, q.2 - 1) q.1 (fun b1 => cond (ih b1) (zsk box (q.2, b.2) q.1 ih) false)) false
    | none => false)) n
theorem zqI : zdrvI 1000 100 (zbox 8) = true := by decide +kernel
abbrev zmeI : ZMe := (RX9, yX9_isCut, cX9_isCut, 3, (some .boolean), 0, 0)
/-- isCut on the new object: there is none -/
theorem zc_isCut (l : Launch) (dC : Nat → ClassId) (dI : Nat → Nat → Nat) (cA : Nat → ClassId) (g : ZG) (ws : va_W) (sz : Nat) (cas : List Value) (hg7 : g.1 7 = g.1 0 &&& 31) (hzh : zh g cA zzh ws) (hzv : zvs (zad ws) g [.ref 0, .retAddr 1, .retAddr 2] cas) {N : Nat} : ∀ (n : Nat) (box : ZN), zdrvI N n box = true → zen box g →
    Met l yX9_isCut (.code yX9_isCut cX9_isCut 3 (some .boolean) :: zT) { frames := 5, cells := 0, slots := 0, locals := 40 * 5 } (va_Pc cas (zB dC dI cA ws sz)) (va_Qi (fun x u => zpost (zga g (zad ws)) cA zzh ws u ∧ zv (zad u) (zga g (zad ws)) (.int 0) (.int x)) (zend dC dI cA (va_A ws sz)) (va_A ws sz)) 0 0 (va_A ws sz) := by
  intro n
  induction n with
  | zero =>
    intro box h
    cases h
  | succ n ih =>
    intro box h hE
    have h : (match zgo zzm zzc zzd box 7 99999 N 41 5 0 zla [] zzh 0 0 with
      | .ok r => zfinI r
      | .error q => (match zget box q.1 with
        | some b => cond (decide (b.1 < q.2) && decide (q.2 ≤ b.2)) (zsk box (b.1, q.2 - 1) q.1 (fun b1 => cond (zdrvI N n b1) (zsk box (q.2, b.2) q.1 (zdrvI N n)) false)) false
        | none => false)) = true := h
    cases hgo : zgo zzm zzc zzd box 7 99999 N 41 5 0 zla [] zzh 0 0 with
    | ok r =>
      rw [hgo] at h
      simp only [zfinI, Bool.and_eq_true] at h
      obtain ⟨-, h1, h4, h5, h2, h3⟩ := h
      obtain ⟨pc, lv, st, hp, nc, ns⟩ := r
      have e1 : pc = 29 := Nat.beq_eq.mp h1
      subst e1
      have e5 : hp = zzh := zeh_ok h5
      subst e5
      match st, h4, hgo with
      | [.int x], h4, hgo =>
        have e2 : x = 0 := of_decide_eq_true h4
        subst e2
        have hRun : zRun box 7 41 5 zmeI l dC dI cA (lv_args 0 [.ref 0, .retAddr 1, .retAddr 2]) zzh (29, lv, [.int 0], zzh, nc, ns) := fun p e R s m args below meth c Q g A F hw => zgo_sound zzcl zztab N 41 5 0 zla [] zzh 0 0 _ hgo zmeI rfl p l e R s m args below meth c Q dC dI cA g A F hw
        exact zmeti (v := .int 0) (own := RX9) (by decide) rfl (by decide) hE hg7 hzh hzv (by rw [zslots, zvs_sum hzv]; decide) (Nat.le_of_ble_eq_true h2) (Nat.le_of_ble_eq_true h3) rfl dX9_isCut_29 hRun
    | error q =>
      rw [hgo] at h
      simp only [zget_eq] at h
      cases hb : box[q.1]? with
      | none => rw [hb] at h; cases h
      | some b =>
        rw [hb] at h
        simp only [zsk_eq] at h
        cases hd : (decide (b.1 < q.2) && decide (q.2 ≤ b.2)) with
        | false => rw [hd] at h; cases h
        | true =>
          rw [hd, cond_true] at h
          cases h1 : zdrvI N n (box.set q.1 (b.1, q.2 - 1)) with
          | false => rw [h1] at h; cases h
          | true =>
            rw [h1, cond_true] at h
            have hq := hE q.1 b hb
            by_cases hc : (g.1 q.1).toInt < q.2
            · exact ih _ h1 (zen_set hE hq.1 (by omega))
            · exact ih _ h (zen_set hE (by omega) hq.2)
theorem zw_isCut : ∀ w ∈ zcw RX9 142 2 yX9_isCut cX9_isCut 3 (some .boolean), w ∈ zT := zchk_ok (is := [686, 688, 117, 689, 8]) (by decide +kernel)
theorem zw_layer : ∀ w ∈ zcw RL 7 2 yX9_layer cX9_layer 5 (some .int), w ∈ zT := zchk_ok (is := [1191, 1192, 117, 1194, 1193]) (by decide +kernel)
theorem zw_nse : ∀ w ∈ [Cond.classLink RX9 145 "java/util/NoSuchElementException", Cond.initialized "java/util/NoSuchElementException", Cond.classLink RL 13 "java/util/NoSuchElementException", Cond.methodLink RL 59 yL_layer, Cond.static yL_layer, Cond.initialized RL, Cond.codeWith yL_layer cL_layer 6 (some .int) [(0, 12, 15, 13)]], w ∈ zT := zchk_ok (is := [1195, 131, 1190, 1187, 1188, 116, 1189]) (by decide +kernel)
theorem zw_vx : ∀ w ∈ (zatS RX9 149).filter goodWord, w ∈ lw_tbl := by decide +kernel
theorem zw_vxn : ∀ w ∈ (zatS RX9 149).filter (fun w => !goodWord w), w ∈ [Cond.castable "java/util/NoSuchElementException" "java/util/NoSuchElementException", .declares (Bundle.initS "java/lang/RuntimeException"), .declares (Bundle.initS "java/lang/Exception"), .declares (Bundle.initS "java/lang/Throwable")] := by decide +kernel
theorem zw_vxo : ∀ w ∈ Cond.classLink RX9 145 "java/util/NoSuchElementException" :: Cond.initialized "java/util/NoSuchElementException" :: zatS RX9 149, vx_ot w = true := by decide +kernel
def zBY (dC : Nat → ClassId) (dI : Nat → Nat → Nat) (cA : Nat → ClassId) (ws : va_W) (sz sa : Nat) (U : State) : Prop := zB dC dI cA ws sz U ∧ zY (va_A ws sz) sa U
theorem zBY_blind {dC : Nat → ClassId} {dI : Nat → Nat → Nat} {cA : Nat → ClassId} {ws : va_W} {sz sa : Nat} {cas : List Value} : FrameBlind (va_Pc cas (zBY dC dI cA ws sz sa)) := by
  intro a U g mk q
  obtain ⟨q0, ⟨q1, qP, qK, qD, qX⟩, qY⟩ := q
  exact ⟨q0, ⟨q1, qP, va_K.moved (u := U) (U := U.calling g mk a) (Vm.Alike.refl U.vm) qK, qD, zX.same (s := U) (U := U.calling g mk a) rfl qX⟩, zY_same (u := U) (U := U.calling g mk a) rfl rfl qY⟩
set_option maxHeartbeats 4000000 in
/-- NamesUnder.layer on the new object: it throws -/
theorem zc_layer (l : Launch) (hst : l.stackTraces = false) (dC : Nat → ClassId) (dI : Nat → Nat → Nat) (cA : Nat → ClassId) (g : ZG) (ws : va_W) (sz sa a1 : Nat) (i1 i2 i3 : Int32) (hg7 : g.1 7 = g.1 0 &&& 31) (hE : zen (zbox 8) g) (hzh : zh g cA zzh ws) (ha : (zad ws)[0]? = some a1) (h1 : i1 = g.1 1) (h2 : i2 = g.1 2) :
    vx_Met l yX9_layer (.code yX9_layer cX9_layer 5 (some .int) :: zT) { frames := 8, cells := 1, slots := 6, locals := 40 * 8 } (va_Pc [.ref a1, .int i1, .int i2, .int i3] (zBY dC dI cA ws sz sa)) (va_Qi (fun _ (_ : Unit) => False) (fun _ _ => True) (va_A ws sz)) (vx_X (zpost (zga g (zad ws)) cA zzh ws) (fun E u t => E = "java/util/NoSuchElementException" ∧ zend dC dI cA (va_A ws sz) u t) (va_A ws sz)) 1 6 (va_A ws sz) := by
  refine vx_ofW (cc := cX9_layer) (maxL := 5) (ret := some .int) (by decide) rfl ?_
  intro p e s m args below meth c s₁ B hml htb hv
  obtain ⟨rfl, ⟨hsz, hP, hK, hD0, hz9⟩, hY⟩ := hv
  have hx := B.exec
  have hb := B.bytes
  have hts : ∀ w ∈ zT, w.before _ s = true := fun w hw => atoms_spec (ws := .code yX9_layer cX9_layer 5 (some .int) :: zT) B.pre w (List.mem_cons_of_mem _ hw)
  have hown : s.vm.findClass RX9 = some m.cls := findClass_of_methodNamed B.named
  have hlocks := B.notSynchronized
  subst hsz
  have hD := hD0.self (sz := s.heap.size)
  have hA : ∀ q, s.heap.size ≤ q → va_A ws s.heap.size q := fun q h => Or.inr h
  have hS : va_S (va_A ws s.heap.size) s.heap s.heap [] := va_S.rf
  have hl := lv_entry ([.ref a1, .int i1, .int i2, .int i3]) (n := 5) (Nat.le_of_ble_eq_true rfl)
  rw [lg_entry_eq]
  generalize (lg_sl ([.ref a1, .int i1, .int i2, .int i3]) ++ List.replicate (5 - (lg_sl ([.ref a1, .int i1, .int i2, .int i3])).length) Slot.unset).toArray = ls at hl ⊢
  have hl : lv_has ls 5 [(0, .ref a1), (1, .int i1), (2, .int i2), (3, .int i3)] := hl
  refine lv_aload_n hx hb dX9_layer_0 rfl (lv_at hl 0 rfl) ?_
  refine lv_iload_n hx hb dX9_layer_1 rfl (lv_at hl 1 rfl) ?_
  refine lv_iload_n hx hb dX9_layer_2 rfl (lv_at hl 2 rfl) ?_
  have hM := zc_isCut l dC dI cA g ws s.heap.size [.ref a1, .int i1, .int i2] hg7 hzh ⟨⟨a1, ha, rfl⟩, by rw [h1]; rfl, by rw [h2]; rfl, trivial⟩ 100 (zbox 8) zqI hE
  obtain ⟨w0, k0, z0⟩ := zh_at hzh (k := 0) rfl ha
  obtain ⟨gx, rfl, -⟩ := zobj z0
  have hR9 := zrun (e := e) (below := below) (meth := meth) (locs := []) (nc := 0) (ns := 0) (own := RX9) (idx := 142) (kd := 2) (n := 2) (R := { frames := 8, cells := 1, slots := 6, locals := 40 * 8 }) (cst := [.int i2, .int i1, .ref a1]) (crest := []) (ls := ls) hx hb hml hown hts hK hP hD hl.1 hM hz9 zw_isCut (fun q => by omega) (by decide +kernel) (by decide) (fun q => by omega) (by decide) (by decide) rfl (by decide) rfl (fun _ => ⟨a1, _, rfl, fun _ => va_recv hK hP (ci := 8) (q0 := 0) rfl k0⟩) (Or.inr (Or.inl ⟨rfl, rfl⟩)) dX9_layer_3
  have hF := zfree hD hS hA
  refine va_calli hR9 hS (fun q _ h => hF q h) hF (fun x u t9 H1 locs1 ht hvm hw hB hz1 hk1 hS1 => ?_)
  obtain ⟨hw1, hw2⟩ := hw
  obtain ⟨hP1, hK1, hD1⟩ := hB
  rw [ht] at hP1
  have e0 : x = 0 := Value.int.inj (show Value.int x = .int 0 from hw2)
  refine lv_if_eq (tgt := 17) hx hb dX9_layer_6 (by decide) (fun _ => ?_) (fun c9 => absurd e0 c9)
  have hat : ∀ w ∈ zatS RX9 149, w.before [Value.ref a1, Value.int i1, Value.int i2, Value.int i3].toArray s = true :=
    vx_hat (fun w hw => hts w (List.mem_filter.mpr ⟨zw_vx w hw, (List.mem_filter.mp hw).2⟩)) zw_vxn (vx_c (va_Nw.use rfl hY.2.2.2.1) (vx_c (va_Nw.use rfl hY.2.2.2.2.1) (vx_c (va_Nw.use rfl hY.2.2.2.2.2.1) (vx_c (va_Nw.use rfl hY.2.2.2.2.2.2) vx_n))))
  refine zthrow (A := va_A ws s.heap.size) hx hb hst hown (hts _ (zw_nse _ (by simp [zXn]))) (hts _ (zw_nse _ (by simp [zXn]))) hY.2.2.1 hat zw_vxo hY.1 hY.2.1 hS1 (hl.1.trans hml.symm) dX9_layer_17 dX9_layer_20 dX9_layer_21 dX9_layer_23 dX9_layer_26 (fun z hz => (htb z hz).elim) (by decide) (by decide) (by decide) (by decide) hlocks (fun t hvt hsz hkt => ?_) hS1.2.2 (by decide) (by decide)
  refine ⟨u, hw1, ⟨rfl, ?_, va_K.moved hvt hK, hD1⟩, ⟨Nat.le_trans hS1.1 hsz, fun q q1 q2 => (hkt q (Nat.lt_of_lt_of_le q1 hS1.1)).trans (hS1.2.1 q q1 q2)⟩⟩
  exact hP1.kept (fun k x hx => hkt x.1 ((hP1 k x hx).lt))
theorem zofWH {l : Launch} {y : MethodName} {ws ws' : List Cond} {rm : Room} {Pc : Array Value → State → Prop} {Qc : Array Value → State → Outcome → State → Prop} {mc ms : Nat} {free : Addr → Prop} {cc : ByteArray} {maxL : Nat} {ret : Option FieldType} {hh : List (Nat × Nat × Nat × Nat)}
    (hy : Jvm.plainName y.cls = true) (hw : ws = Cond.codeWith y cc maxL ret hh :: ws')
    (body : ∀ p e s m args below meth c s₁, BodyLoose p l y (headSpec ws rm) cc maxL ret e s m args below meth c s₁ → c.maxLocals = maxL → Pc args s →
      W p l e (headSpec ws rm).room s m args below meth c s.heap [] 0 0 (MQ below Qc args s mc ms free) (entryFrame m args maxL)) : Met l y ws rm Pc Qc mc ms free := by
  refine MetFree.of_bodyS (code := cc) (maxLocals := maxL) (ret := ret) hy ?_ ?_
  · intro args s m h hn
    obtain ⟨m9, meth, c, hn9, h1, h2, h3, h4, -, h5, h6, -⟩ := Cond.codeWith_spec (atoms_spec (ws := ws) h _ (by rw [hw]; exact List.mem_cons_self))
    cases hn.symm.trans hn9
    exact ⟨meth, c, h1, h2, h3, h4, h5, h6⟩
  · intro p e s m args below meth c s₁ B hml hP _
    have hh0 : s₁.heap = s.heap := by rw [B.state]; rfl
    obtain ⟨t, a1, o, b1, b2, b3⟩ := body p e s m args below meth c s₁ B hml hP s₁ hh0 (Stand.of_body B)
    exact ⟨t, o, a1, b1, b2, ⟨b3.1, b3.2⟩⟩
set_option maxHeartbeats 4000000 in
/-- the law's own layer: it catches, and answers 1 -/
theorem zc_llay (l : Launch) (hst : l.stackTraces = false) (dC : Nat → ClassId) (dI : Nat → Nat → Nat) (cA : Nat → ClassId) (g : ZG) (ws : va_W) (sz sa a1 a3 : Nat) (i1 i2 i3 : Int32) (hg7 : g.1 7 = g.1 0 &&& 31) (hE : zen (zbox 8) g) (hzh : zh g cA zzh ws) (ha : (zad ws)[0]? = some a1) (h1 : i1 = g.1 1) (h2 : i2 = g.1 2) :
    Met l yL_layer (.codeWith yL_layer cL_layer 6 (some .int) [(0, 12, 15, 13)] :: zT) { frames := 9, cells := 1, slots := 6, locals := 40 * 9 } (va_Pc [.ref a1, .int i1, .int i2, .int i3, .ref a3] (zBY dC dI cA ws sz sa)) (va_Qi (fun x u => x = 1 ∧ zpost (zga g (zad ws)) cA zzh ws u) (zend dC dI cA (va_A ws sz)) (va_A ws sz)) 1 6 (va_A ws sz) := by
  refine zofWH (cc := cL_layer) (maxL := 6) (ret := some .int) (hh := [(0, 12, 15, 13)]) (by decide) rfl ?_
  intro p e s m args below meth c s₁ B hml hv
  obtain ⟨rfl, ⟨hsz, hP, hK, hD0, hz9⟩, hY⟩ := hv
  have hx := B.exec
  have hb := B.bytes
  have hr := B.returns
  have hts0 := atoms_spec (ws := .codeWith yL_layer cL_layer 6 (some .int) [(0, 12, 15, 13)] :: zT) B.pre
  have hts : ∀ w ∈ zT, w.before _ s = true := fun w hw => hts0 w (List.mem_cons_of_mem _ hw)
  have htb := vx_table (x := yL_layer) B (hts0 _ List.mem_cons_self)
  have hown : s.vm.findClass RL = some m.cls := findClass_of_methodNamed B.named
  have hlocks := B.notSynchronized
  subst hsz
  have hD := hD0.self (sz := s.heap.size)
  have hA : ∀ q, s.heap.size ≤ q → va_A ws s.heap.size q := fun q h => Or.inr h
  have hS : va_S (va_A ws s.heap.size) s.heap s.heap [] := va_S.rf
  have hl := lv_entry ([.ref a1, .int i1, .int i2, .int i3, .ref a3]) (n := 6) (Nat.le_of_ble_eq_true rfl)
  rw [lg_entry_eq]
  generalize (lg_sl ([.ref a1, .int i1, .int i2, .int i3, .ref a3]) ++ List.replicate (6 - (lg_sl ([.ref a1, .int i1, .int i2, .int i3, .ref a3])).length) Slot.unset).toArray = ls at hl ⊢
  have hl : lv_has ls 6 [(0, .ref a1), (1, .int i1), (2, .int i2), (3, .int i3), (4, .ref a3)] := hl
  refine lv_aload hx hb dL_layer_0 (lv_at hl 4 rfl) ?_
  refine lv_iconst (v := 0) hx hb dL_layer_2 (by decide) ?_
  refine lv_aload_n hx hb dL_layer_3 rfl (lv_at hl 0 rfl) ?_
  refine lv_iload_n hx hb dL_layer_4 rfl (lv_at hl 1 rfl) ?_
  refine lv_iload_n hx hb dL_layer_5 rfl (lv_at hl 2 rfl) ?_
  refine lv_iload_n hx hb dL_layer_6 rfl (lv_at hl 3 rfl) ?_
  have hM := zc_layer l hst dC dI cA g ws s.heap.size sa a1 i1 i2 i3 hg7 hE hzh ha h1 h2
  obtain ⟨w0, k0, z0⟩ := zh_at hzh (k := 0) rfl ha
  obtain ⟨gx, rfl, -⟩ := zobj z0
  have w1 := zw_layer (.methodLink RL 7 yX9_layer) (by simp [zcw])
  have w2 := zw_layer (.instanceMethod yX9_layer) (by simp [zcw])
  have w3 := zw_layer (.initialized yX9_layer.cls) (by simp [zcw])
  have w4 := zw_layer (.code yX9_layer cX9_layer 5 (some .int)) (by simp [zcw])
  have w5 := zw_layer (.selects yX9_layer.cls yX9_layer yX9_layer) (by simp [zcw])
  have hroom := lv_room (m := m) (pc := 7) (ls := ls) (rest := [Value.int i3, .int i2, .int i1, .ref a1, .int 0, .ref a3]) (st := [Value.int 0, .ref a3]) (Nat.le_of_ble_eq_true rfl)
  have hF := zfree hD hS hA
  have hR9 := vx_runV (p := p) (e := e) (below := below) (meth := meth) (locs := []) (cells := 0) (slots := 0) (Ts := zT) (own := RL) (C := RX9) (R := { frames := 9, cells := 1, slots := 6, locals := 40 * 9 }) (As := [.int i1, .int i2, .int i3]) (b := a1) (rest := [.int 0, .ref a3]) (g := F0 m 7 ls [.int i3, .int i2, .int i1, .ref a1, .int 0, .ref a3]) ⟨hx, hb, hml, hown, hts⟩ hM ⟨callB_of 3 hts (zT_good1 w4) rfl rfl rfl (hts _ w3) (hts _ w1) (by decide +kernel) (by decide), hts _ w2, hts _ w5⟩ ⟨zBY_blind, va_recv hK hP (ci := 8) (q0 := 0) rfl k0, fun U hU hW => ⟨rfl, ⟨by rw [hU], by rw [hU]; exact hP, va_K.moved hW.alike hK, hD.weaken (fun _ _ _ _ => trivial), hz9.warm hW⟩, zY_call hY hS (fun q h => h) hU hW⟩⟩ rfl rfl hl.1 rfl hroom dL_layer_7 (by decide)
  refine vx_calli hR9 hS (fun q _ h => hF q h) hF (fun q _ h => hF q h) (fun E ce q9 u t9 H1 locs1 ht hvm hpx hBX hz1 hk1 hS1 hce hcv hcl => ?_) (fun x u t9 H1 locs1 ht hvm hw hB hz1 hk1 hS1 => hw.elim)
  obtain ⟨rfl, hP1, hK1, hD1⟩ := hBX
  rw [ht] at hP1
  refine vx_catch1 (own := RL) (name := "java/util/NoSuchElementException") hown ⟨0, 12, 15, 13⟩ [] (by rw [htb]; rfl) (by decide) (by decide) (hts _ (zw_nse _ (by simp))) (va_Nw.use rfl hY.2.2.2.1) hce hcv hcl ?_
  refine lv_astore (lv' := [(5, .ref q9), (0, .ref a1), (1, .int i1), (2, .int i2), (3, .int i3), (4, .ref a3)]) hx hb dL_layer_15 hl (by decide) rfl (fun ls hl => ?_)
  refine lv_iconst (v := 1) hx hb dL_layer_17 (by decide) ?_
  exact W.iret hx hb hr (fun t ht hW => ⟨⟨1, u, rfl, ⟨rfl, hpx⟩, by rw [ht]; exact hP1, va_K.moved hW.alike hK, hD1⟩, hS1.F ht⟩) hS1.2.2 dL_layer_18
