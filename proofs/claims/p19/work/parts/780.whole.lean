/-! THE CLAIM OUT OF ONE WALK OF THE LAW'S BODY. Your part is whole_start (and what it stands on); all else here is the same for every law, but numbers. -/
def R_law : String := "NamesUnderLaw"
def lw_P (b : Addr) (xs : List Int32) (args : Array Value) (s : State) : Prop := args = #[.ref b] ∧ s.IntsAt b xs ∧ xs.length ≤ 3584 ∧ (Jvm.Cond.and given_1 narrow_1).before args s = true
def lw_Q (_ : Array Value) (s : State) (o : Outcome) (t : State) : Prop := o = .returned (some (.int 1)) ∧ Framed s o t [] 601024 7293034
def lw_Z (below : List Frame) (a : Array Value) (s : State) : State → Prop := fun t => ∃ o, t.status = .running ∧ Ended t below o ∧ lw_Q a s o t
/-- the law's own end, with 1 on the stack, nothing written that was there before, its room as the claim has it -/
theorem lw_ret {p : Program} {l : Launch} {e : Env} {s : State} {m : MethodId} {below : List Frame} {meth : Method} {c : Code} {b : Nat} (hx : p.tables.exec = Jvm.exec) (hb : c.code = code) (hr : meth.sig.returnType = ret) (hlocks : meth.locks = false) {pc : Nat} {H : Heap} {ls : Array Slot} (hdg : decode code pc = .ok (.ireturn, 1)) : W p l e room_1 s m #[Value.ref b] below meth c H [] 601024 7293034 (lw_Z below #[Value.ref b] s) (F0 m pc ls [.int 1]) := by
  intro T hT X
  obtain ⟨fs, hret, hrun, hended, hW, hframe⟩ := X.leave (v := some (.int 1)) (hlocks := hlocks) (fun h => by rw [hr] at h; cases h)
  have hmeth' : T.vm.method? m = some meth := X.method'
  refine ⟨T.setFrames fs, ?_, .returned (some (.int 1)), hrun, hended, rfl, ⟨_, rfl⟩, hW, hframe⟩
  jvm_step X.here [X.here.top, hx, hb, hdg, hmeth', hr, ret, narrow_b1]
  (try refine ⟨rfl, ?_⟩); (try refine ⟨rfl, ?_⟩)
  first | (intro acts; rw [hret _ acts rfl rfl rfl]) | rw [hret _ _ rfl rfl rfl]
  exact Steps.refl _
/-- what holds at the law's entry: the machine, the code, the tables' words (any of lw_tbl by 'hts w (by decide +kernel)'), the script of L ints xs at the cell b, what the Statement gives of the start (any of its parts by flat_of_before) -/
def lw_At (p : Program) (s : State) (m : MethodId) (meth : Method) (c : Code) (b L : Nat) (xs : Nat → Int32) : Prop :=
  p.tables.exec = Jvm.exec ∧ c.code = code ∧ meth.sig.returnType = ret ∧ c.maxLocals = 7 ∧ s.vm.findClass R_law = some m.cls ∧ (∀ w ∈ lw_tbl, w.before #[Value.ref b] s = true) ∧ va_X b L xs s s.heap ∧ b < s.heap.size ∧ meth.locks = false ∧ (Jvm.Cond.and given_1 narrow_1).before #[Value.ref b] s = true
theorem zstr {l : Launch} (h : l.flags = flags0) : l.stackTraces = false := by
  unfold Launch.stackTraces
  rw [h]
  decide +kernel
theorem dL_law_1478 : decode cL_law 1478 = .ok (.ireturn, 1) := by decide +kernel

theorem Vm_cls {s : State} {args : Array Value} (hts : ∀ w ∈ zT, w.before args s = true) : s.vm.findClass RX9 = some (Classical.choose (Cond.instantiable_spec (hts (.instantiable RX9 9) (zin_ok (i := 139) (by decide +kernel))))) := (Classical.choose_spec (Cond.instantiable_spec (hts (.instantiable RX9 9) (zin_ok (i := 139) (by decide +kernel))))).choose_spec.1
/-- the classes' and the arrays' numbers at the start -/
theorem zworld {s : State} {args : Array Value} (hts : ∀ w ∈ zT, w.before args s = true) (hw : ∀ w ∈ lw_tbl, w.before args s = true) : ∃ (dC : Nat → ClassId) (dI : Nat → Nat → Nat) (cA : Nat → ClassId), va_K (dC, dI) vwCl (ztys cA) s ∧ zX s := by
  obtain ⟨c0, i0, k0⟩ := u_known (C := RX1) (T := TX1) (N := 7) (n := 7) hts zin0 (hts (.instantiable RX1 7) (zin_ok (i := 491) (by decide +kernel)))
  obtain ⟨c1, i1, k1⟩ := u_known (C := RX2) (T := TX2) (N := 6) (n := 6) hts zin1 (hts (.instantiable RX2 6) (zin_ok (i := 176) (by decide +kernel)))
  obtain ⟨c2, i2, k2⟩ := u_known (C := RX3) (T := TX3) (N := 7) (n := 7) hts zin2 (hts (.instantiable RX3 7) (zin_ok (i := 343) (by decide +kernel)))
  obtain ⟨c3, i3, k3⟩ := u_known (C := RX4) (T := TX4) (N := 12) (n := 12) hts zin3 (hts (.instantiable RX4 12) (zin_ok (i := 387) (by decide +kernel)))
  obtain ⟨c4, i4, k4⟩ := u_known (C := RX5) (T := TX5) (N := 14) (n := 14) hts zin4 (hts (.instantiable RX5 14) (zin_ok (i := 433) (by decide +kernel)))
  obtain ⟨c5, i5, k5⟩ := u_known (C := RX6) (T := TX6) (N := 19) (n := 19) hts zin5 (hts (.instantiable RX6 19) (zin_ok (i := 274) (by decide +kernel)))
  obtain ⟨c6, i6, k6⟩ := u_known (C := RX7) (T := TX7) (N := 4) (n := 4) hts zin6 (hts (.instantiable RX7 4) (zin_ok (i := 147) (by decide +kernel)))
  obtain ⟨c7, i7, k7⟩ := u_known (C := RX8) (T := TX8) (N := 11) (n := 11) hts zin7 (hts (.instantiable RX8 11) (zin_ok (i := 210) (by decide +kernel)))
  obtain ⟨c8, i8, k8⟩ := u_known (C := RX9) (T := TX9) (N := 9) (n := 9) hts zin8 (hts (.instantiable RX9 9) (zin_ok (i := 139) (by decide +kernel)))
  obtain ⟨c9, i9, k9⟩ := u_known (C := RX10) (T := TX10) (N := 58) (n := 58) hts zin9 (hts (.instantiable RX10 58) (zin_ok (i := 1267) (by decide +kernel)))
  obtain ⟨t0, q0, m0, f0, g0, h0⟩ := Cond.arrayClass_spec (hts (.arrayClass .int) (zin_ok (i := 207) (by decide +kernel)))
  obtain ⟨t1, q1, m1, f1, g1, h1⟩ := Cond.arrayClass_spec (hts (.arrayClass .boolean) (zin_ok (i := 206) (by decide +kernel)))
  obtain ⟨t2, q2, m2, f2, g2, h2⟩ := Cond.arrayClass_spec (hts (.arrayClass .char) (zin_ok (i := 174) (by decide +kernel)))
  obtain ⟨t3, q3, m3, f3, g3, h3⟩ := Cond.arrayClass_spec (hts (.arrayClass .long) (zin_ok (i := 1465) (by decide +kernel)))
  have o4 : va_AO "NamesUnder$Wall" s := va_AO.of (hw (.arrayOver (.object "NamesUnder$Wall")) (List.mem_of_getElem? (i := 209) (by decide +kernel)))
  obtain ⟨m4, t4, q4, a4, _, g4, h4, f4⟩ := Cond.arrayOver_spec o4
  have o5 : va_AO "NamesUnder$Order" s := va_AO.of (hw (.arrayOver (.object "NamesUnder$Order")) (List.mem_of_getElem? (i := 342) (by decide +kernel)))
  obtain ⟨m5, t5, q5, a5, _, g5, h5, f5⟩ := Cond.arrayOver_spec o5
  refine ⟨fun k => match k with
    | 0 => c0
    | 1 => c1
    | 2 => c2
    | 3 => c3
    | 4 => c4
    | 5 => c5
    | 6 => c6
    | 7 => c7
    | 8 => c8
    | _ => c9, fun k => match k with
    | 0 => i0
    | 1 => i1
    | 2 => i2
    | 3 => i3
    | 4 => i4
    | 5 => i5
    | 6 => i6
    | 7 => i7
    | 8 => i8
    | _ => i9, fun k => match k with
    | 0 => t0
    | 1 => t1
    | 2 => t2
    | 3 => t3
    | 4 => t4
    | _ => t5, ⟨fun k q hq => ?_, fun k q hq => ?_⟩, fun w hw9 => ?_, o4, o5⟩
  · match k, hq with
    | 0, hq => cases hq; exact k0
    | 1, hq => cases hq; exact k1
    | 2, hq => cases hq; exact k2
    | 3, hq => cases hq; exact k3
    | 4, hq => cases hq; exact k4
    | 5, hq => cases hq; exact k5
    | 6, hq => cases hq; exact k6
    | 7, hq => cases hq; exact k7
    | 8, hq => cases hq; exact k8
    | 9, hq => cases hq; exact k9
    | n + 10, hq => simp [vwCl] at hq
  · match k, hq with
    | 0, hq => cases hq; exact ⟨fun n z => ⟨(fun k h => by cases h), q0, g0, m0, h0⟩, f0⟩
    | 1, hq => cases hq; exact ⟨fun n z => ⟨(fun k h => by cases h), q1, g1, m1, h1⟩, f1⟩
    | 2, hq => cases hq; exact ⟨fun n z => ⟨(fun k h => by cases h), q2, g2, m2, h2⟩, f2⟩
    | 3, hq => cases hq; exact ⟨fun n z => ⟨(fun k h => by cases h), q3, g3, m3, h3⟩, f3⟩
    | 4, hq => cases hq; exact ⟨fun n z => ⟨(fun k h => by cases h), q4, g4, m4, h4⟩, q4, m4, g4, h4, a4, f4⟩
    | 5, hq => cases hq; exact ⟨fun n z => ⟨(fun k h => by cases h), q5, g5, m5, h5⟩, q5, m5, g5, h5, a5, f5⟩
    | n + 6, hq => simp [ztys] at hq
  · have h1 := hw w (List.mem_filter.mp hw9).1
    have h2 := (List.mem_filter.mp hw9).2
    cases w with
    | methodLinkNest a i x b => exact va_Nw.of rfl h1
    | _ => cases h2
theorem zlaw_lv {ad : List Nat} {g : ZG} {clv : ZL} (h : zls ad g zzl clv) : ∃ a3 a2 a1 : Nat, clv = [(4, .int 0), (3, .ref a3), (2, .ref a2), (1, .ref a1), (0, .ref g.2.1)] ∧ ad[201]? = some a3 ∧ ad[155]? = some a2 ∧ ad[0]? = some a1 := by
  unfold zzl at h
  obtain ⟨⟨i4, c4⟩, q4, rfl, e4, f4, h⟩ := zls_cons h
  obtain ⟨⟨i3, c3⟩, q3, rfl, e3, f3, h⟩ := zls_cons h
  obtain ⟨⟨i2, c2⟩, q2, rfl, e2, f2, h⟩ := zls_cons h
  obtain ⟨⟨i1, c1⟩, q1, rfl, e1, f1, h⟩ := zls_cons h
  obtain ⟨⟨i0, c0⟩, q0, rfl, e0, f0, h⟩ := zls_cons h
  cases zls_nil h
  obtain ⟨a3, w3, rfl⟩ := f3
  obtain ⟨a2, w2, rfl⟩ := f2
  obtain ⟨a1, w1, rfl⟩ := f1
  cases e4; cases e3; cases e2; cases e1; cases e0
  cases (show c4 = _ from f4)
  cases (show c0 = _ from f0)
  exact ⟨a3, a2, a1, rfl, w3, w2, w1⟩
def ztx : String := "out     hack    put     mend    when    and     or      not     height  space   sort    width   place   cuts    stands  "
def zbt : List Int32 := [111, 117, 116, 32, 32, 32, 32, 32, 104, 97, 99, 107, 32, 32, 32, 32, 112, 117, 116, 32, 32, 32, 32, 32, 109, 101, 110, 100, 32, 32, 32, 32, 119, 104, 101, 110, 32, 32, 32, 32, 97, 110, 100, 32, 32, 32, 32, 32, 111, 114, 32, 32, 32, 32, 32, 32, 110, 111, 116, 32, 32, 32, 32, 32, 104, 101, 105, 103, 104, 116, 32, 32, 115, 112, 97, 99, 101, 32, 32, 32, 115, 111, 114, 116, 32, 32, 32, 32, 119, 105, 100, 116, 104, 32, 32, 32, 112, 108, 97, 99, 101, 32, 32, 32, 99, 117, 116, 115, 32, 32, 32, 32, 115, 116, 97, 110, 100, 115, 32, 32]
theorem zbt_in : ∀ j, j < 120 → Cond.eq (.elem (.field (.string "NamesUnder$OrderReader" 159) "java/lang/String" "value" "[B") (.int (Int32.ofNat j))) (.int (([zbt].getD 0 []).getD j 0)) ∈ flatC (Jvm.Cond.and given_1 narrow_1) := by decide +kernel
set_option maxHeartbeats 4000000 in
theorem zEX_start {s : State} {b : Nat} (hts : ∀ w ∈ zT, w.before #[Value.ref b] s = true) (hw : ∀ w ∈ lw_tbl, w.before #[Value.ref b] s = true) (hgv : (Jvm.Cond.and given_1 narrow_1).before #[Value.ref b] s = true) (hz9 : zX s) : ∃ aK aV sa : Nat, zEX aK aV sa ztx (fun q : Nat => s.heap.size ≤ q) s s.heap := by
  have hfl := flat_of_before _ hgv
  have hnA : ∀ a : Nat, a < s.heap.size → ¬ (fun q : Nat => s.heap.size ≤ q) a := fun a h => Nat.not_le.mpr h
  obtain ⟨k9, cf, i9, sa, -, -, -, -, -, h9⟩ := Cond.stringRef_spec (cls := RX9) (index := 147) (text := "no such cut") (Vm_cls hts) (hw (.stringRef RX9 147 "no such cut") (List.mem_of_getElem? (i := 1234) (by decide +kernel)))
  obtain ⟨adK, adV, hS, hev⟩ := vk_Sof (args := #[Value.ref b]) (s := s) (N := 1) (tm := fun _ => .string "NamesUnder$OrderReader" 159) (len := [120]) (byt := [zbt]) (A := fun q : Nat => s.heap.size ≤ q) (fun i hi => by
      have : i = 0 := by omega
      subst this
      decide) (fun i hi => hfl _ (by decide +kernel)) (fun i hi => hfl _ (by decide +kernel)) (fun i hi => hfl _ (by decide +kernel)) (fun i hi => by
      have : i = 0 := by omega
      subst this
      exact hfl _ (by decide +kernel)) (fun i hi j hj => by
      have : i = 0 := by omega
      subst this
      exact hfl _ (zbt_in j hj)) (fun i j hi hj hij => absurd (show i = j by omega) hij) hnA
  obtain ⟨s1, s2, s3, s4⟩ := hS.1 0 (by decide)
  refine ⟨adK 0, adV 0, sa, hz9, ⟨⟨s1, s2, s3, _, s4⟩, va_Zof (args := #[Value.ref b]) (hw _ (List.mem_of_getElem? (i := 917) (by decide +kernel))) (hw _ (List.mem_of_getElem? (i := 133) (by decide +kernel))) (va_eqt (hfl _ (by decide +kernel))) hnA, va_Zqof (args := #[Value.ref b]) (hw _ (List.mem_of_getElem? (i := 925) (by decide +kernel))) (hw _ (List.mem_of_getElem? (i := 135) (by decide +kernel))) (hfl _ (by decide +kernel)) hnA⟩, vk_R.of (A := #[Value.ref b]) (hw (.stringRef "NamesUnder$OrderReader" 159 ztx) (List.mem_of_getElem? (i := 907) (by decide +kernel))) (hev 0 (by decide)), ?_⟩
  exact ⟨vx_Zqof (args := #[Value.ref b]) (hw _ (List.mem_of_getElem? (i := 1222) (by decide +kernel))) (hw _ (List.mem_of_getElem? (i := 128) (by decide +kernel))) (hfl _ (by decide +kernel)) hnA, vx_Zqof (args := #[Value.ref b]) (hw _ (List.mem_of_getElem? (i := 1224) (by decide +kernel))) (hw _ (List.mem_of_getElem? (i := 128) (by decide +kernel))) (hfl _ (by decide +kernel)) hnA, vk_R.of (A := #[Value.ref b]) (hw (.stringRef RX9 147 "no such cut") (List.mem_of_getElem? (i := 1234) (by decide +kernel))) h9, va_Nw.of rfl (hw _ (List.mem_of_getElem? (i := 1197) (by decide +kernel))), va_Nw.of rfl (hw _ (List.mem_of_getElem? (i := 1199) (by decide +kernel))), va_Nw.of rfl (hw _ (List.mem_of_getElem? (i := 1201) (by decide +kernel))), va_Nw.of rfl (hw _ (List.mem_of_getElem? (i := 1203) (by decide +kernel)))⟩
abbrev zme1 : ZMe := (RL, yL_law, cL_law, 7, (some .boolean), 600000, 7290000)
theorem zrS : zgo zzm zzc zzd [] 0 23 5000 1 20 0 [(0, .float 0)] [] [] 0 0 = .ok (23, zzl, [], zzh, zzn, zzs) := zeq_ok (by decide +kernel)
/-- all names and tapes are empty at the start -/
theorem mRn {L : Nat} {xs : Nat → Int32} : Rn (mM L xs) := by
  have z : ∀ f, f ∈ [12, 17, 18, 19, 20, 21, 57, 58, 59, 60, 61, 62, 63] → mM L xs f 0 = fun _ => 0 := by
    intro f hf
    funext i
    simp only [List.mem_cons, List.not_mem_nil, or_false] at hf
    rcases hf with rfl | rfl | rfl | rfl | rfl | rfl | rfl | rfl | rfl | rfl | rfl | rfl | rfl <;> rfl
  unfold Rn
  rw [z 12 (by decide), z 17 (by decide), z 18 (by decide), z 19 (by decide), z 20 (by decide), z 21 (by decide), z 57 (by decide), z 58 (by decide), z 59 (by decide), z 60 (by decide), z 61 (by decide), z 62 (by decide), z 63 (by decide)]
  exact ⟨rfl, rfl, rfl, rfl, rfl, rfl, fun i _ => rfl⟩
theorem mRr {L : Nat} {xs : Nat → Int32} : Rr (mM L xs) := by
  refine ⟨mRn, ?_⟩
  have z : ∀ f, f ∈ [22, 23, 24, 25, 26, 27, 28, 29, 30, 31, 32, 91, 92, 93, 94, 95] → mM L xs f = fun _ _ => 0 := by
    intro f hf
    funext j i
    simp only [List.mem_cons, List.not_mem_nil, or_false] at hf
    match j with
    | 0 => rcases hf with rfl | rfl | rfl | rfl | rfl | rfl | rfl | rfl | rfl | rfl | rfl | rfl | rfl | rfl | rfl | rfl <;> rfl
    | 1 => rcases hf with rfl | rfl | rfl | rfl | rfl | rfl | rfl | rfl | rfl | rfl | rfl | rfl | rfl | rfl | rfl | rfl <;> rfl
    | 2 => rcases hf with rfl | rfl | rfl | rfl | rfl | rfl | rfl | rfl | rfl | rfl | rfl | rfl | rfl | rfl | rfl | rfl <;> rfl
    | 3 => rcases hf with rfl | rfl | rfl | rfl | rfl | rfl | rfl | rfl | rfl | rfl | rfl | rfl | rfl | rfl | rfl | rfl <;> rfl
    | 4 => rcases hf with rfl | rfl | rfl | rfl | rfl | rfl | rfl | rfl | rfl | rfl | rfl | rfl | rfl | rfl | rfl | rfl <;> rfl
    | 5 => rcases hf with rfl | rfl | rfl | rfl | rfl | rfl | rfl | rfl | rfl | rfl | rfl | rfl | rfl | rfl | rfl | rfl <;> rfl
    | 6 => rcases hf with rfl | rfl | rfl | rfl | rfl | rfl | rfl | rfl | rfl | rfl | rfl | rfl | rfl | rfl | rfl | rfl <;> rfl
    | 7 => rcases hf with rfl | rfl | rfl | rfl | rfl | rfl | rfl | rfl | rfl | rfl | rfl | rfl | rfl | rfl | rfl | rfl <;> rfl
    | 8 => rcases hf with rfl | rfl | rfl | rfl | rfl | rfl | rfl | rfl | rfl | rfl | rfl | rfl | rfl | rfl | rfl | rfl <;> rfl
    | 9 => rcases hf with rfl | rfl | rfl | rfl | rfl | rfl | rfl | rfl | rfl | rfl | rfl | rfl | rfl | rfl | rfl | rfl <;> rfl
    | 10 => rcases hf with rfl | rfl | rfl | rfl | rfl | rfl | rfl | rfl | rfl | rfl | rfl | rfl | rfl | rfl | rfl | rfl <;> rfl
    | 11 => rcases hf with rfl | rfl | rfl | rfl | rfl | rfl | rfl | rfl | rfl | rfl | rfl | rfl | rfl | rfl | rfl | rfl <;> rfl
    | n + 12 => rcases hf with rfl | rfl | rfl | rfl | rfl | rfl | rfl | rfl | rfl | rfl | rfl | rfl | rfl | rfl | rfl | rfl <;> rfl
  have z64 : ∀ p, p < 12 → mM L xs 64 p 0 = 0 ∧ mM L xs 64 p 1 = 0 ∧ mM L xs 64 p 2 = 0 ∧ mM L xs 64 p 3 = 0 ∧ mM L xs 64 p 4 = 0 ∧ mM L xs 64 p 5 = 0 := by
    intro p hp
    match p, hp with
    | 0, _ => exact ⟨rfl, rfl, rfl, rfl, rfl, rfl⟩
    | 1, _ => exact ⟨rfl, rfl, rfl, rfl, rfl, rfl⟩
    | 2, _ => exact ⟨rfl, rfl, rfl, rfl, rfl, rfl⟩
    | 3, _ => exact ⟨rfl, rfl, rfl, rfl, rfl, rfl⟩
    | 4, _ => exact ⟨rfl, rfl, rfl, rfl, rfl, rfl⟩
    | 5, _ => exact ⟨rfl, rfl, rfl, rfl, rfl, rfl⟩
    | 6, _ => exact ⟨rfl, rfl, rfl, rfl, rfl, rfl⟩
    | 7, _ => exact ⟨rfl, rfl, rfl, rfl, rfl, rfl⟩
    | 8, _ => exact ⟨rfl, rfl, rfl, rfl, rfl, rfl⟩
    | 9, _ => exact ⟨rfl, rfl, rfl, rfl, rfl, rfl⟩
    | 10, _ => exact ⟨rfl, rfl, rfl, rfl, rfl, rfl⟩
    | 11, _ => exact ⟨rfl, rfl, rfl, rfl, rfl, rfl⟩
    | n + 12, hp => omega
  unfold Rw
  rw [z 22 (by decide), z 23 (by decide), z 24 (by decide), z 25 (by decide), z 26 (by decide), z 27 (by decide), z 28 (by decide), z 29 (by decide), z 30 (by decide), z 31 (by decide), z 32 (by decide), z 91 (by decide), z 92 (by decide), z 93 (by decide), z 94 (by decide), z 95 (by decide)]
  refine ⟨fun p hp => z64 p hp, fun _ _ _ _ => ⟨rfl, rfl, rfl, rfl⟩, fun _ _ _ _ _ _ => rfl, fun _ _ _ => rfl, fun p l _ _ z => ?_, fun p l k _ _ _ z => ?_⟩
  · dsimp only at z
    omega
  · dsimp only at z
    omega
theorem mRs {L : Nat} {xs : Nat → Int32} : Rs (mM L xs) := by
  have e28 : mM L xs 1 0 28 = 1 := rfl
  refine ⟨mRr, ?_, sKx_fl ⟨rfl, rfl, rfl⟩, rfl, fun z => ?_⟩
  · funext i
    rfl
  · rw [e28] at z
    omega
set_option maxHeartbeats 4000000 in
theorem whole_start {p : Program} {e : Env} {s : State} {m : MethodId} {below : List Frame} {meth : Method} {c : Code} (l : Launch) (hst : l.stackTraces = false) {b L : Nat} {xs : Nat → Int32} (hL : L ≤ 3584) (C0 : lw_At p s m meth c b L xs) : W p l e room_1 s m #[Value.ref b] below meth c s.heap [] 0 0 (lw_Z below #[Value.ref b] s) (entryFrame m ([Value.ref b] : List Value).toArray 7) := by
  obtain ⟨hx, hb, hr, hml, hown, hw, hX, hbl, hlocks, hgv⟩ := C0
  have hts : ∀ w ∈ zT, w.before #[Value.ref b] s = true := fun w h => hw w (List.mem_filter.mp h).1
  obtain ⟨dC, dI, cA, hK, hz9⟩ := zworld hts hw
  obtain ⟨aK, aV, sa, hEX⟩ := zEX_start hts hw hgv hz9
  have hA : ∀ q : Nat, s.heap.size ≤ q → (fun q : Nat => s.heap.size ≤ q) q := fun _ h => h
  have hbA : ¬ (fun q : Nat => s.heap.size ≤ q) b := Nat.not_le.mpr hbl
  obtain ⟨g, hg⟩ : ∃ g : ZG, g = (fun j => if j = 7 then xs 0 &&& 31 else xs j, b, []) := ⟨_, rfl⟩
  have hg77 : g.1 7 = g.1 0 &&& 31 := by
    rw [hg]
    rfl
  have hg2 : g.2.1 = b := by rw [hg]
  have hg3 : g.2.2 = [] := by rw [hg]
  have hE0 : zen [] g := fun t q h => by simp at h
  have F : zF [] 0 1 20 zme1 p room_1 s m #[Value.ref b] meth c dC dI cA g (fun q : Nat => s.heap.size ≤ q) :=
    ⟨hx, hb, hml, hown, hts, hK, hA, hE0, hg77, by decide, by decide, fun h => absurd h (by decide), hz9, fun h => by cases h⟩
  have hl := lv_entry ([.ref b]) (n := 7) (Nat.le_of_ble_eq_true rfl)
  rw [lg_entry_eq]
  generalize (lg_sl ([.ref b]) ++ List.replicate (7 - (lg_sl ([.ref b])).length) Slot.unset).toArray = ls at hl ⊢
  have hl : lv_has ls 7 [(0, .ref b)] := hl
  have hrel : zrel dC dI cA g (fun q : Nat => s.heap.size ≤ q) s.heap 7 [(0, .float 0)] [] [] [] s.heap [] ls [(0, .ref b)] [] :=
    ⟨⟨rfl, fun k e w q => by simp at q, fun k a q => by rw [hg3] at q; simp at q⟩, fun k q h => by simp at h, ⟨fun i j p q h => by simp at h, fun k q h => by simp at h⟩, va_S.rf, hl, ⟨rfl, by show Value.ref b = .ref g.2.1; rw [hg2], trivial⟩, trivial⟩
  refine zgo_sound zzcl zztab 5000 1 20 0 [(0, .float 0)] [] [] 0 0 _ zrS zme1 rfl p l e room_1 s m #[Value.ref b] below meth c _ dC dI cA g _ F ?_ [] s.heap [] ls [(0, .ref b)] [] hrel
  intro ws H locs ls clv cst ⟨r1, r2, r3, r4, r5, r6, r7⟩
  cases zvs_nil r7
  obtain ⟨a3, a2, a1, rfl, w3, w2, w1⟩ := zlaw_lv r6
  rw [hg2] at r5
  obtain ⟨ws', hH', hP', hD'⟩ := mStart (L := L) (xs := xs) r1 r2 r3
  have e1 := mA_zad (f := 0) (j := 0) (k := 0) (ws := ws) rfl rfl w1
  have e2 := mA_zad (f := 1) (j := 0) (k := 155) (ws := ws) rfl rfl w2
  have e3 := mA_zad (f := 2) (j := 0) (k := 201) (ws := ws) rfl rfl w3
  subst e1 e2 e3
  obtain ⟨ρ, hρ⟩ : ∃ ρ : Nat → Int, ρ = fun t => if t = 1 then (L : Int) else 0 := ⟨_, rfl⟩
  have ρ0 : ρ 0 = 0 := by rw [hρ]; rfl
  have ρ1 : ρ 1 = (L : Int) := by rw [hρ]; rfl
  have ρ2 : ρ 2 = 0 := by rw [hρ]; rfl
  have FS : sF 33 (RL, yL_law, cL_law, 7, some .boolean, 50, 5000) (zEX aK aV sa ztx) p room_1 s m #[Value.ref b] c dC dI cA (fun q : Nat => s.heap.size ≤ q) := ⟨hx, hb, hml, hown, hts, hK, hA, by decide, by decide, hEX⟩
  have hscr : sSCR tg b s (fun q : Nat => s.heap.size ≤ q) (mM L xs) (lmd, []) := by
    refine ⟨L, xs, hX, hbl, hbA, by omega, rfl, fun j hj => ?_, fun i => ?_, fun i => ?_, fun _ => rfl⟩
    · show cond (Nat.blt j L) (xs j).toInt 0 = _
      rw [Nat.blt_eq.mpr hj]
      rfl
    · show (107, 0) ∉ lmd
      decide +kernel
    · show (108, 0) ∉ lmd
      decide +kernel
  refine tLoop (ρP := ρ) (nE := 601024) (sE := 7293034) hst FS (fun H locs ls hS => ?_) (by decide) (by decide) 3585 ρ (mM L xs) (mA ws) ws' H locs ls [(0, .ref b), (1, .ref (mA ws 0 0)), (2, .ref (mA ws 1 0)), (3, .ref (mA ws 2 0)), (4, .int 0)] [] zzn zzs ⟨⟨fun _ _ => rfl, Nat.zero_le _, ⟨fun q hq => ?_, fun q hq => by cases hq⟩⟩, ⟨hH', ⟨mI hL, mX⟩, ⟨fun q hq => ?_, fun q hq => ?_⟩, ⟨fun _ _ _ _ => rfl, fun _ _ _ => rfl, fun _ hq => by cases hq⟩⟩, hP', hD', r4, ⟨r5.1, r5.2.1, fun q hq => r5.2.2 q ?_⟩, ⟨rfl, Or.inr (Or.inr (Or.inr ⟨rfl, rfl⟩)), rfl, Or.inr (Or.inr (Or.inl ⟨rfl, 0, _, rfl, rfl, by decide, rfl⟩)), rfl, Or.inr (Or.inr (Or.inl ⟨rfl, 0, _, rfl, rfl, by decide, rfl⟩)), rfl, Or.inr (Or.inr (Or.inl ⟨rfl, 0, _, rfl, rfl, by decide, rfl⟩)), rfl, Or.inl ⟨rfl, 0, rfl, ?_⟩, trivial⟩, trivial⟩ mRs hscr ?_ (by decide) (by decide)
  · refine va_forget (fun q hq => hS.2.2 q hq) ?_
    exact lw_ret hx hb hr hlocks dL_law_1478
  · simp only [lwN, List.mem_cons, List.not_mem_nil, or_false] at hq
    rcases hq with rfl | rfl | rfl
    · simp only [ρ0]; omega
    · simp only [ρ1]; omega
    · simp only [ρ2]; omega
  · simp only [lwN, List.mem_cons, List.not_mem_nil, or_false] at hq
    rcases hq with rfl | rfl | rfl
    · refine ⟨0, 1, rfl, rfl, ?_⟩
      have e0 : mM L xs 3 0 1 = 0 := rfl
      rw [e0]
      simp only [sev, svl]
      omega
    · refine ⟨0, 2, rfl, rfl, ?_⟩
      have e0 : mM L xs 1 0 2 = 0 := rfl
      rw [e0]
      simp only [sev, svl]
      omega
    · refine ⟨0, 0, rfl, rfl, ?_⟩
      show (L : Int) = sev ρ (0, [(1, 1)])
      simp only [sev, svl]
      omega
  · simp only [lwN, List.mem_cons, List.not_mem_nil, or_false] at hq
    rcases hq with rfl | rfl
    · exact mG
    · exact mEa
  · simp only [List.mem_cons, List.not_mem_nil, or_false] at hq ⊢
    rcases hq with rfl | rfl | rfl | rfl | rfl <;> simp
  · simp only [sev, svl, ρ0]
    rfl
  · simp only [lrk, sev, svl, ρ0]
    omega
set_option maxHeartbeats 4000000 in
theorem lw_walk (l : Launch) (hst : l.stackTraces = false) (b : Addr) (xs : List Int32) : MetFree l x (headSpec (Jvm.Cond.code x code maxLocals ret :: tables_1) room_1) (lw_P b xs) (fun _ _ _ _ _ => True) lw_Q := by
  refine MetFree.of_bodyS (code := code) (maxLocals := maxLocals) (ret := ret) (by decide) ?_ ?_
  · intro args s m h hn
    obtain ⟨meth, c, h1, h2, h3, h4, h5, h6, -, -⟩ := Cond.code_spec hn (atoms_spec (ws := Jvm.Cond.code x code maxLocals ret :: tables_1) h _ List.mem_cons_self)
    exact ⟨meth, c, h1, h2, h3, h4, h5, h6⟩
  · intro p e s m args below meth c s₁ B hml0 hP _
    obtain ⟨rfl, hx, hbd, hgv⟩ := hP
    obtain ⟨scr, harrAt, hlist, hof, hsmall⟩ := hx
    obtain ⟨hcb, hkn, -, -⟩ := State.arrayAt?_spec harrAt
    have hown : s.vm.findClass R_law = some m.cls := findClass_of_methodNamed B.named
    have hts0 : ∀ c ∈ (Jvm.Cond.code x code maxLocals ret :: tables_1), c.before #[Value.ref b] s = true := atoms_spec (ws := Jvm.Cond.code x code maxLocals ret :: tables_1) B.pre
    have hts : ∀ w ∈ lw_tbl, w.before #[Value.ref b] s = true := k2_hts_sels lw_privs (fun w hw => hts0 w (List.mem_cons_of_mem _ hw)) lw_privs_ok
    have hml : c.maxLocals = 7 := B.maxLocals_eq (hts0 _ List.mem_cons_self)
    have X₀ : Stand p l e room_1 s m #[Value.ref b] below meth c s₁ [] 0 0 := Stand.of_body B
    have hh0 : s₁.heap = s.heap := by rw [B.state]; rfl
    have hsz : scr.slots.size = xs.length := by rw [← Array.length_toList, hlist, List.length_map]
    have hval : ∀ j : Nat, j < xs.length → scr.slots[j]? = some (.int (xs.getD j 0)) := fun j hj => by
      rw [← Array.getElem?_toList, hlist]
      simp [hj]
    have hbl : b < s.heap.size := (Array.getElem?_eq_some_iff.mp hcb).1
    have hX : va_X b xs.length (fun j => xs.getD j 0) s s.heap := ⟨scr, hcb, hof, hkn, hsz, hval⟩
    have K : W p l e room_1 s m #[Value.ref b] below meth c s₁.heap [] 0 0 (lw_Z below #[Value.ref b] s) (entryFrame m ([Value.ref b] : List Value).toArray 7) := by
      rw [hh0]
      exact whole_start l hst hbd ⟨B.exec, B.bytes, B.returns, hml, hown, hts, hX, hbl, B.notSynchronized, hgv⟩
    obtain ⟨t, a1, o, b1, b2, b3⟩ := K s₁ rfl X₀
    exact ⟨t, o, a1, b1, b2, b3⟩
theorem lw_pre_spec {args : Array Value} {s : State} (h : (Jvm.Cond.and given_1 narrow_1).before args s = true) (hr : rest_1_c.before args s = true) : ∃ (b : Addr) (xs : List Int32), lw_P b xs args s := by
  have hs := flat_of_before _ h
  have hq := flat_of_before _ hr
  have hc : (Cond.count 1).before args s = true := hs _ (by decide +kernel)
  have harr : (Cond.arrayOf (.arg 0) .int).before args s = true := hs _ (by decide +kernel)
  have hle : (Cond.le (.length (.arg 0)) (.int 3584)).before args s = true := hs _ (by decide +kernel)
  have hlen : (Cond.isInt (.length (.arg 0))).before args s = true := hq _ (by decide +kernel)
  have hall : (Cond.all (.arg 0) (.isInt (.elem (.arg 0) (.index 0)))).before args s = true := hq _ (by decide +kernel)
  obtain ⟨b, xs, hb, hx⟩ := State.ints_of_pre rfl harr hlen hall
  have hsm : xs.length < 2 ^ 31 := hx.choose_spec.2.2.2
  have hev : (Term.length (.arg 0)).eval args s none [] s = some (.int xs.length.toInt32) := hx.length_eval hb
  have hv := Cond.le_ints hev (show (Term.int 3584).eval args s none [] s = some (.int 3584) from rfl)
  have hd : xs.length.toInt32 ≤ 3584 := by
    simpa [Cond.before, Cond.holds, hv] using hle
  have hN : xs.length ≤ 3584 := (Int32.ofNat_le_ofNat hsm (by decide)).mp (show Int32.ofNat xs.length ≤ Int32.ofNat 3584 from hd)
  exact ⟨b, xs, Cond.one_arg hc (show args[0]? = some (.ref b) from hb), hx, hN, h⟩
theorem lw_comes (l : Launch) (hst : l.stackTraces = false) : Comes l x (Jvm.Cond.code x code maxLocals ret :: tables_1) room_1 (fun tb e args s => Calls_1 tb e args s ∧ rest_1 tb e args s ∧ Pre_1 tb e args s)
    (fun _ _ args s o t => lw_Q args s o t) := by
  intro p e ha hc hk s m args below hf hfit hheap happ hpre
  obtain ⟨b, xs, hP⟩ := lw_pre_spec hpre.2.2 hpre.2.1
  obtain ⟨k, o, h1, h2, h3, hQ⟩ := lw_walk l hst b xs p e ha hc hk s m args below hf ((Spec.applies_iff_loose hf).mp happ).1 hP trivial
  exact ⟨k, o, h1, h2, h3, hQ⟩
theorem lw_frame {s t : State} {o : Outcome} {args : Array Value} (h : Framed s o t [] 601024 7293034) :
    Framed s o t (fieldLocs frame_1_writes args s ++ arrayLocs frame_1_arrays args s ++ staticLocs frame_1_statics s) 601024 7293034 := h
theorem lw_limb (L : Cond) (hL : ∀ (args : Array Value) (s t : State), L.after args s (.returned (some (.int 1))) t = true) :
    ArmFor flags0 classFile x code maxLocals ret World_1 tables_1 room_1 Calls_1 rest_1 Pre_1
      (fun tb e a s o t => postC L tb e a s o t ∧ Framed s o t (fieldLocs frame_1_writes a s ++ arrayLocs frame_1_arrays a s ++ staticLocs frame_1_statics s) 601024 7293034) := by
  intro l hfl _ _ p e ha hc hk s m args below hf hfit hheap happ hpre
  obtain ⟨k, o, h1, h2, h3, rfl, hF⟩ := lw_comes l (zstr hfl) p e ha hc hk s m args below hf hfit hheap happ hpre
  exact ⟨k, _, h1, h2, h3, hL args s _, lw_frame hF⟩
theorem i_vc : Claimed_1_1 ∧ Claimed_1_2 := ⟨lw_limb limb_1_1 (fun args s t => by simp [limb_1_1, Cond.after, Cond.holds, Cond.value]), lw_limb limb_1_2 (fun args s t => Cond.after_iff.mpr (by
  first | (rw [show limb_1_2 = Cond.eq .result (.int 1) from rfl, Cond.eq_ints (x := 1) (y := 1) rfl rfl]; simp; done) | (simp [limb_1_2, Cond.value, Term.eval]; done)))⟩

