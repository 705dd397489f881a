/-! THE CLAIM OUT OF ONE WALK OF THE LAW'S BODY. Your part is whole_start (and what it stands on); all else here is the same for every law, but numbers. -/
def R_law : String := "NamesUnderLaw"
def lw_P (b : Addr) (xs : List Int32) (args : Array Value) (s : State) : Prop := args = #[.ref b] ∧ s.IntsAt b xs ∧ xs.length ≤ 7 ∧ (Jvm.Cond.and given_1 narrow_1).before args s = true
def lw_Q (_ : Array Value) (s : State) (o : Outcome) (t : State) : Prop := o = .returned (some (.int 1)) ∧ Framed s o t [] 600002 7302232
def lw_Z (below : List Frame) (a : Array Value) (s : State) : State → Prop := fun t => ∃ o, t.status = .running ∧ Ended t below o ∧ lw_Q a s o t
/-- the law's own end, with 1 on the stack, nothing written that was there before, its room as the claim has it -/
theorem lw_ret {p : Program} {l : Launch} {e : Env} {s : State} {m : MethodId} {below : List Frame} {meth : Method} {c : Code} {b : Nat} (hx : p.tables.exec = Jvm.exec) (hb : c.code = code) (hr : meth.sig.returnType = ret) (hlocks : meth.locks = false) {pc : Nat} {H : Heap} {ls : Array Slot} (hdg : decode code pc = .ok (.ireturn, 1)) : W p l e room_1 s m #[Value.ref b] below meth c H [] 600002 7302232 (lw_Z below #[Value.ref b] s) (F0 m pc ls [.int 1]) := by
  intro T hT X
  obtain ⟨fs, hret, hrun, hended, hW, hframe⟩ := X.leave (v := some (.int 1)) (hlocks := hlocks) (fun h => by rw [hr] at h; cases h)
  have hmeth' : T.vm.method? m = some meth := X.method'
  refine ⟨T.setFrames fs, ?_, .returned (some (.int 1)), hrun, hended, rfl, ⟨_, rfl⟩, hW, hframe⟩
  jvm_step X.here [X.here.top, hx, hb, hdg, hmeth', hr, ret, narrow_b1]
  (try refine ⟨rfl, ?_⟩); (try refine ⟨rfl, ?_⟩)
  first | (intro acts; rw [hret _ acts rfl rfl rfl]) | rw [hret _ _ rfl rfl rfl]
  exact Steps.refl _
/-- what holds at the law's entry: the machine, the code, the tables' words (any of lw_tbl by 'hts w (by decide +kernel)'), the script of L ints xs at the cell b, what the Statement gives of the start (any of its parts by flat_of_before) -/
def lw_At (p : Program) (s : State) (m : MethodId) (meth : Method) (c : Code) (b L : Nat) (xs : Nat → Int32) : Prop :=
  p.tables.exec = Jvm.exec ∧ c.code = code ∧ meth.sig.returnType = ret ∧ c.maxLocals = 7 ∧ s.vm.findClass R_law = some m.cls ∧ (∀ w ∈ lw_tbl, w.before #[Value.ref b] s = true) ∧ va_X b L xs s s.heap ∧ b < s.heap.size ∧ meth.locks = false ∧ (Jvm.Cond.and given_1 narrow_1).before #[Value.ref b] s = true
theorem zstr {l : Launch} (h : l.flags = flags0) : l.stackTraces = false := by
  unfold Launch.stackTraces
  rw [h]
  decide +kernel
theorem dL_law_1506 : decode cL_law 1506 = .ok (.ireturn, 1) := by decide +kernel

theorem Vm_cls {s : State} {args : Array Value} (hts : ∀ w ∈ zT, w.before args s = true) : s.vm.findClass RX9 = some (Classical.choose (Cond.instantiable_spec (hts (.instantiable RX9 9) (zin_ok (i := 139) (by decide +kernel))))) := (Classical.choose_spec (Cond.instantiable_spec (hts (.instantiable RX9 9) (zin_ok (i := 139) (by decide +kernel))))).choose_spec.1
/-- the classes' and the arrays' numbers at the start -/
theorem zworld {s : State} {args : Array Value} (hts : ∀ w ∈ zT, w.before args s = true) (hw : ∀ w ∈ lw_tbl, w.before args s = true) : ∃ (dC : Nat → ClassId) (dI : Nat → Nat → Nat) (cA : Nat → ClassId), va_K (dC, dI) vwCl (ztys cA) s ∧ zX s := by
  obtain ⟨c0, i0, k0⟩ := u_known (C := RX1) (T := TX1) (N := 7) (n := 7) hts zin0 (hts (.instantiable RX1 7) (zin_ok (i := 491) (by decide +kernel)))
  obtain ⟨c1, i1, k1⟩ := u_known (C := RX2) (T := TX2) (N := 6) (n := 6) hts zin1 (hts (.instantiable RX2 6) (zin_ok (i := 176) (by decide +kernel)))
  obtain ⟨c2, i2, k2⟩ := u_known (C := RX3) (T := TX3) (N := 7) (n := 7) hts zin2 (hts (.instantiable RX3 7) (zin_ok (i := 343) (by decide +kernel)))
  obtain ⟨c3, i3, k3⟩ := u_known (C := RX4) (T := TX4) (N := 12) (n := 12) hts zin3 (hts (.instantiable RX4 12) (zin_ok (i := 387) (by decide +kernel)))
  obtain ⟨c4, i4, k4⟩ := u_known (C := RX5) (T := TX5) (N := 14) (n := 14) hts zin4 (hts (.instantiable RX5 14) (zin_ok (i := 433) (by decide +kernel)))
  obtain ⟨c5, i5, k5⟩ := u_known (C := RX6) (T := TX6) (N := 19) (n := 19) hts zin5 (hts (.instantiable RX6 19) (zin_ok (i := 274) (by decide +kernel)))
  obtain ⟨c6, i6, k6⟩ := u_known (C := RX7) (T := TX7) (N := 4) (n := 4) hts zin6 (hts (.instantiable RX7 4) (zin_ok (i := 147) (by decide +kernel)))
  obtain ⟨c7, i7, k7⟩ := u_known (C := RX8) (T := TX8) (N := 11) (n := 11) hts zin7 (hts (.instantiable RX8 11) (zin_ok (i := 210) (by decide +kernel)))
  obtain ⟨c8, i8, k8⟩ := u_known (C := RX9) (T := TX9) (N := 9) (n := 9) hts zin8 (hts (.instantiable RX9 9) (zin_ok (i := 139) (by decide +kernel)))
  obtain ⟨c9, i9, k9⟩ := u_known (C := RX10) (T := TX10) (N := 58) (n := 58) hts zin9 (hts (.instantiable RX10 58) (zin_ok (i := 1271) (by decide +kernel)))
  obtain ⟨t0, q0, m0, f0, g0, h0⟩ := Cond.arrayClass_spec (hts (.arrayClass .int) (zin_ok (i := 207) (by decide +kernel)))
  obtain ⟨t1, q1, m1, f1, g1, h1⟩ := Cond.arrayClass_spec (hts (.arrayClass .boolean) (zin_ok (i := 206) (by decide +kernel)))
  obtain ⟨t2, q2, m2, f2, g2, h2⟩ := Cond.arrayClass_spec (hts (.arrayClass .char) (zin_ok (i := 174) (by decide +kernel)))
  obtain ⟨t3, q3, m3, f3, g3, h3⟩ := Cond.arrayClass_spec (hts (.arrayClass .long) (zin_ok (i := 1469) (by decide +kernel)))
  have o4 : va_AO "NamesUnder$Wall" s := va_AO.of (hw (.arrayOver (.object "NamesUnder$Wall")) (List.mem_of_getElem? (i := 209) (by decide +kernel)))
  obtain ⟨m4, t4, q4, a4, _, g4, h4, f4⟩ := Cond.arrayOver_spec o4
  have o5 : va_AO "NamesUnder$Order" s := va_AO.of (hw (.arrayOver (.object "NamesUnder$Order")) (List.mem_of_getElem? (i := 342) (by decide +kernel)))
  obtain ⟨m5, t5, q5, a5, _, g5, h5, f5⟩ := Cond.arrayOver_spec o5
  refine ⟨fun k => match k with
    | 0 => c0
    | 1 => c1
    | 2 => c2
    | 3 => c3
    | 4 => c4
    | 5 => c5
    | 6 => c6
    | 7 => c7
    | 8 => c8
    | _ => c9, fun k => match k with
    | 0 => i0
    | 1 => i1
    | 2 => i2
    | 3 => i3
    | 4 => i4
    | 5 => i5
    | 6 => i6
    | 7 => i7
    | 8 => i8
    | _ => i9, fun k => match k with
    | 0 => t0
    | 1 => t1
    | 2 => t2
    | 3 => t3
    | 4 => t4
    | _ => t5, ⟨fun k q hq => ?_, fun k q hq => ?_⟩, fun w hw9 => ?_, o4, o5⟩
  · match k, hq with
    | 0, hq => cases hq; exact k0
    | 1, hq => cases hq; exact k1
    | 2, hq => cases hq; exact k2
    | 3, hq => cases hq; exact k3
    | 4, hq => cases hq; exact k4
    | 5, hq => cases hq; exact k5
    | 6, hq => cases hq; exact k6
    | 7, hq => cases hq; exact k7
    | 8, hq => cases hq; exact k8
    | 9, hq => cases hq; exact k9
    | n + 10, hq => simp [vwCl] at hq
  · match k, hq with
    | 0, hq => cases hq; exact ⟨fun n z => ⟨(fun k h => by cases h), q0, g0, m0, h0⟩, f0⟩
    | 1, hq => cases hq; exact ⟨fun n z => ⟨(fun k h => by cases h), q1, g1, m1, h1⟩, f1⟩
    | 2, hq => cases hq; exact ⟨fun n z => ⟨(fun k h => by cases h), q2, g2, m2, h2⟩, f2⟩
    | 3, hq => cases hq; exact ⟨fun n z => ⟨(fun k h => by cases h), q3, g3, m3, h3⟩, f3⟩
    | 4, hq => cases hq; exact ⟨fun n z => ⟨(fun k h => by cases h), q4, g4, m4, h4⟩, q4, m4, g4, h4, a4, f4⟩
    | 5, hq => cases hq; exact ⟨fun n z => ⟨(fun k h => by cases h), q5, g5, m5, h5⟩, q5, m5, g5, h5, a5, f5⟩
    | n + 6, hq => simp [ztys] at hq
  · have h1 := hw w (List.mem_filter.mp hw9).1
    have h2 := (List.mem_filter.mp hw9).2
    cases w with
    | methodLinkNest a i x b => exact va_Nw.of rfl h1
    | _ => cases h2
theorem zrunL_ok {L : Nat} (h : zrunL L = true) : ∃ (lv : ZL) (hp : List ZE) (nc ns : Nat), zgo zzm zzc zzd [] L 99999 5000 0 20 0 [(0, .float 0)] [] [] 0 0 = .ok (1506, lv, [.int 1], hp, nc, ns) ∧ nc ≤ 600002 ∧ ns ≤ 7302232 := by
  unfold zrunL at h
  cases hg : zgo zzm zzc zzd [] L 99999 5000 0 20 0 [(0, .float 0)] [] [] 0 0 with
  | error q => rw [hg] at h; cases h
  | ok r =>
    rw [hg] at h
    simp only [zfin1, Bool.and_eq_true] at h
    obtain ⟨h1, ⟨h2, h3⟩, h4⟩ := h
    obtain ⟨pc, lv, st, hp, nc, ns⟩ := r
    have e1 : pc = 1506 := Nat.beq_eq.mp h1
    subst e1
    match st, h4 with
    | [.int x], h4 =>
      have e2 : x = 1 := of_decide_eq_true h4
      subst e2
      exact ⟨lv, hp, nc, ns, rfl, Nat.le_of_ble_eq_true h2, Nat.le_of_ble_eq_true h3⟩
theorem zen_box {g : ZG} {j : Nat} (h7 : g.1 7 = nI j) (hj : j < 32) : zen (zbox j) g := by
  have hb : ∀ x : Int32, -2147483648 ≤ x.toInt ∧ x.toInt ≤ 2147483647 := fun x => ⟨Int32.le_toInt x, by have := Int32.toInt_lt x; omega⟩
  intro t q hq
  match t, hq with
  | 0, hq => cases hq; exact hb _
  | 1, hq => cases hq; exact hb _
  | 2, hq => cases hq; exact hb _
  | 3, hq => cases hq; exact hb _
  | 4, hq => cases hq; exact hb _
  | 5, hq => cases hq; exact hb _
  | 6, hq => cases hq; exact hb _
  | 7, hq =>
    cases hq
    rw [h7, nI_toInt (by omega)]
    exact ⟨Int.le_refl _, Int.le_refl _⟩
  | n + 8, hq => simp [zbox] at hq
set_option maxRecDepth 100000 in
set_option maxHeartbeats 4000000 in
theorem whole_start {p : Program} {e : Env} {s : State} {m : MethodId} {below : List Frame} {meth : Method} {c : Code} (l : Launch) (hst : l.stackTraces = false) {b L : Nat} {xs : Nat → Int32} (hL : L ≤ 7) (C0 : lw_At p s m meth c b L xs) : W p l e room_1 s m #[Value.ref b] below meth c s.heap [] 0 0 (lw_Z below #[Value.ref b] s) (entryFrame m ([Value.ref b] : List Value).toArray 7) := by
  obtain ⟨hx, hb, hr, hml, hown, hw, hX, hbl, hlocks, hgv⟩ := C0
  have hts : ∀ w ∈ zT, w.before #[Value.ref b] s = true := fun w h => hw w (List.mem_filter.mp h).1
  obtain ⟨dC, dI, cA, hK, hz9⟩ := zworld hts hw
  have hA : ∀ q : Nat, s.heap.size ≤ q → (fun q : Nat => s.heap.size ≤ q) q := fun _ h => h
  have hbA : ¬ (fun q : Nat => s.heap.size ≤ q) b := Nat.not_le.mpr hbl
  obtain ⟨g, hg⟩ : ∃ g : ZG, g = (fun j => if j = 7 then xs 0 &&& 31 else xs j, b, []) := ⟨_, rfl⟩
  have hg1 : ∀ j, j < 7 → g.1 j = xs j := by
    intro j hj
    rw [hg]
    show (if j = 7 then xs 0 &&& 31 else xs j) = xs j
    rw [if_neg (by omega)]
  have hg7 : g.1 7 = xs 0 &&& 31 := by
    rw [hg]
    rfl
  have hg77 : g.1 7 = g.1 0 &&& 31 := by rw [hg7, hg1 0 (by omega)]
  have hg2 : g.2.1 = b := by rw [hg]
  have hg3 : g.2.2 = [] := by rw [hg]
  have F : ∀ E, zen E g → zF E L 0 20 zme0 p room_1 s m #[Value.ref b] meth c dC dI cA g (fun q : Nat => s.heap.size ≤ q) := fun E hE =>
    ⟨hx, hb, hml, hown, hts, hK, hA, hE, hg77, by decide, by decide, fun h => absurd h (by decide), hz9, fun _ => ⟨xs, by rw [hg2]; exact hX, by rw [hg2]; exact hbl, by rw [hg2]; exact hbA, fun j hj => hg1 j (by omega), by omega⟩⟩
  have Hf : ∀ (lv : ZL) (hp : List ZE) (nc ns : Nat), nc ≤ 600002 → ns ≤ 7302232 → zW p l e room_1 s m #[Value.ref b] below meth c (lw_Z below #[Value.ref b] s) dC dI cA g (fun q : Nat => s.heap.size ≤ q) 7 1506 lv [.int 1] hp nc ns := by
    intro lv hp nc ns h1 h2 ws H locs ls clv cst ⟨r1, r2, r3, r4, r5, r6, r7⟩
    obtain ⟨c1, cr, rfl, h7, h8⟩ := zvs_cons r7
    cases zvs_nil h8
    cases (show c1 = _ from h7)
    refine va_forget (fun q hq => r4.2.2 q hq) ?_
    refine W.widen h1 h2 ?_
    exact lw_ret hx hb hr hlocks dL_law_1506
  have hl := lv_entry ([.ref b]) (n := 7) (Nat.le_of_ble_eq_true rfl)
  rw [lg_entry_eq]
  generalize (lg_sl ([.ref b]) ++ List.replicate (7 - (lg_sl ([.ref b])).length) Slot.unset).toArray = ls at hl ⊢
  have hl : lv_has ls 7 [(0, .ref b)] := hl
  have hE0 : zen [] g := fun t q h => by simp at h
  have hrel : zrel dC dI cA g (fun q : Nat => s.heap.size ≤ q) s.heap 7 [(0, .float 0)] [] [] [] s.heap [] ls [(0, .ref b)] [] :=
    ⟨⟨rfl, fun k e w q => by simp at q, fun k a q => by rw [hg3] at q; simp at q⟩, fun k q h => by simp at h, ⟨fun i j p q h => by simp at h, fun k q h => by simp at h⟩, va_S.rf, hl, ⟨rfl, by show Value.ref b = .ref g.2.1; rw [hg2], trivial⟩, trivial⟩
  have hshort : zrunL L = true → W p l e room_1 s m #[Value.ref b] below meth c s.heap [] 0 0 (lw_Z below #[Value.ref b] s) (F0 m 0 ls []) := by
    intro h
    obtain ⟨lv, hp, nc, ns, h1, h2, h3⟩ := zrunL_ok h
    exact zgo_sound zzcl zztab 5000 0 20 0 [(0, .float 0)] [] [] 0 0 _ h1 zme0 rfl p l e room_1 s m #[Value.ref b] below meth c _ dC dI cA g _ (F _ hE0) (Hf lv hp nc ns h2 h3) [] s.heap [] ls [(0, .ref b)] [] hrel
  rcases (show L = 0 ∨ L = 1 ∨ L = 2 ∨ L = 3 ∨ L = 4 ∨ L = 5 ∨ L = 6 ∨ L = 7 by omega) with rfl | rfl | rfl | rfl | rfl | rfl | rfl | rfl
  · exact hshort zrL0
  · exact hshort zrL1
  · exact hshort zrL2
  · exact hshort zrL3
  · exact hshort zrL4
  · exact hshort zrL5
  · exact hshort zrL6
  · refine zgo_sound zzcl zztab 5000 0 20 0 [(0, .float 0)] [] [] 0 0 _ zrL7 zme0 rfl p l e room_1 s m #[Value.ref b] below meth c _ dC dI cA g _ (F _ hE0) ?_ [] s.heap [] ls [(0, .ref b)] [] hrel
    have hY : zL8 l s (fun q : Nat => s.heap.size ≤ q) := by
      have hfl := flat_of_before _ hgv
      have hnA : ∀ a : Nat, a < s.heap.size → ¬ (fun q : Nat => s.heap.size ≤ q) a := fun a h => Nat.not_le.mpr h
      obtain ⟨k9, cf, i9, sa, -, -, -, -, -, h9⟩ := Cond.stringRef_spec (cls := RX9) (index := 147) (text := "no such cut") (Vm_cls hts) (hw (.stringRef RX9 147 "no such cut") (List.mem_of_getElem? (i := 1234) (by decide +kernel)))
      refine ⟨hst, sa, vx_Zqof (args := #[Value.ref b]) (hw _ (List.mem_of_getElem? (i := 1222) (by decide +kernel))) (hw _ (List.mem_of_getElem? (i := 128) (by decide +kernel))) (hfl _ (by decide +kernel)) hnA, vx_Zqof (args := #[Value.ref b]) (hw _ (List.mem_of_getElem? (i := 1224) (by decide +kernel))) (hw _ (List.mem_of_getElem? (i := 128) (by decide +kernel))) (hfl _ (by decide +kernel)) hnA, vk_R.of (A := #[Value.ref b]) (hw (.stringRef RX9 147 "no such cut") (List.mem_of_getElem? (i := 1234) (by decide +kernel))) h9, va_Nw.of rfl (hw _ (List.mem_of_getElem? (i := 1197) (by decide +kernel))), va_Nw.of rfl (hw _ (List.mem_of_getElem? (i := 1199) (by decide +kernel))), va_Nw.of rfl (hw _ (List.mem_of_getElem? (i := 1201) (by decide +kernel))), va_Nw.of rfl (hw _ (List.mem_of_getElem? (i := 1203) (by decide +kernel)))⟩
    obtain ⟨j, hj, hxj⟩ := pk_andE (xs 0) (m := 31) 5 (by decide)
    have hE := zen_box (g := g) (hg7.trans hxj) hj
    have fin : ∀ j : Nat, j < 32 → zen (zbox j) g → zW p l e room_1 s m #[Value.ref b] below meth c (lw_Z below #[Value.ref b] s) dC dI cA g (fun q : Nat => s.heap.size ≤ q) 7 23 zzl [] zzh zzn zzs := by
      intro j hj hE
      match j, hj with
      | 0, _ => exact zo0 p l e s m #[Value.ref b] below meth c _ dC dI cA g _ hg3 hY hE F Hf
      | 1, _ => exact zo1 zzcl zztab p l e s m #[Value.ref b] below meth c _ dC dI cA g _ hE F Hf
      | 2, _ => exact zo2 zzcl zztab p l e s m #[Value.ref b] below meth c _ dC dI cA g _ hE F Hf
      | 3, _ => exact zo3 zzcl zztab p l e s m #[Value.ref b] below meth c _ dC dI cA g _ hE F Hf
      | 4, _ => exact zo4 zzcl zztab p l e s m #[Value.ref b] below meth c _ dC dI cA g _ hE F Hf
      | 5, _ => exact zo5 zzcl zztab p l e s m #[Value.ref b] below meth c _ dC dI cA g _ hE F Hf
      | 6, _ => exact zo6 zzcl zztab p l e s m #[Value.ref b] below meth c _ dC dI cA g _ hE F Hf
      | 7, _ => exact zo7 zzcl zztab p l e s m #[Value.ref b] below meth c _ dC dI cA g _ hE F Hf
      | 8, _ => exact zo8 p l e s m #[Value.ref b] below meth c _ dC dI cA g _ hg3 hY hE F Hf
      | 9, _ => exact zo9 zzcl zztab p l e s m #[Value.ref b] below meth c _ dC dI cA g _ hE F Hf
      | 10, _ => exact zo10 zzcl zztab p l e s m #[Value.ref b] below meth c _ dC dI cA g _ hE F Hf
      | 11, _ => exact zo11 zzcl zztab p l e s m #[Value.ref b] below meth c _ dC dI cA g _ hE F Hf
      | 12, _ => exact zo12 zzcl zztab p l e s m #[Value.ref b] below meth c _ dC dI cA g _ hE F Hf
      | 13, _ => exact zo13 zzcl zztab p l e s m #[Value.ref b] below meth c _ dC dI cA g _ hE F Hf
      | 14, _ => exact zo14 zzcl zztab p l e s m #[Value.ref b] below meth c _ dC dI cA g _ hE F Hf
      | 15, _ => exact zo15 zzcl zztab p l e s m #[Value.ref b] below meth c _ dC dI cA g _ hE F Hf
      | 16, _ => exact zo16 zzcl zztab p l e s m #[Value.ref b] below meth c _ dC dI cA g _ hE F Hf
      | 17, _ => exact zo17 zzcl zztab p l e s m #[Value.ref b] below meth c _ dC dI cA g _ hE F Hf
      | 18, _ => exact zo18 zzcl zztab p l e s m #[Value.ref b] below meth c _ dC dI cA g _ hE F Hf
      | 19, _ => exact zo19 zzcl zztab p l e s m #[Value.ref b] below meth c _ dC dI cA g _ hE F Hf
      | 20, _ => exact zo20 zzcl zztab p l e s m #[Value.ref b] below meth c _ dC dI cA g _ hE F Hf
      | 21, _ => exact zo21 zzcl zztab p l e s m #[Value.ref b] below meth c _ dC dI cA g _ hE F Hf
      | 22, _ => exact zo22 zzcl zztab p l e s m #[Value.ref b] below meth c _ dC dI cA g _ hE F Hf
      | 23, _ => exact zo23 zzcl zztab p l e s m #[Value.ref b] below meth c _ dC dI cA g _ hE F Hf
      | 24, _ => exact zo24 zzcl zztab p l e s m #[Value.ref b] below meth c _ dC dI cA g _ hE F Hf
      | 25, _ => exact zo25 zzcl zztab p l e s m #[Value.ref b] below meth c _ dC dI cA g _ hE F Hf
      | 26, _ => exact zo26 zzcl zztab p l e s m #[Value.ref b] below meth c _ dC dI cA g _ hE F Hf
      | 27, _ => exact zo27 zzcl zztab p l e s m #[Value.ref b] below meth c _ dC dI cA g _ hE F Hf
      | 28, _ => exact zo28 zzcl zztab p l e s m #[Value.ref b] below meth c _ dC dI cA g _ hE F Hf
      | 29, _ => exact zo29 zzcl zztab p l e s m #[Value.ref b] below meth c _ dC dI cA g _ hE F Hf
      | 30, _ => exact zo30 zzcl zztab p l e s m #[Value.ref b] below meth c _ dC dI cA g _ hE F Hf
      | 31, _ => exact zo31 zzcl zztab p l e s m #[Value.ref b] below meth c _ dC dI cA g _ hE F Hf
      | n + 32, hj => exact absurd hj (by omega)
    exact fin j (by omega) hE
set_option maxHeartbeats 4000000 in
theorem lw_walk (l : Launch) (hst : l.stackTraces = false) (b : Addr) (xs : List Int32) : MetFree l x (headSpec (Jvm.Cond.code x code maxLocals ret :: tables_1) room_1) (lw_P b xs) (fun _ _ _ _ _ => True) lw_Q := by
  refine MetFree.of_bodyS (code := code) (maxLocals := maxLocals) (ret := ret) (by decide) ?_ ?_
  · intro args s m h hn
    obtain ⟨meth, c, h1, h2, h3, h4, h5, h6, -, -⟩ := Cond.code_spec hn (atoms_spec (ws := Jvm.Cond.code x code maxLocals ret :: tables_1) h _ List.mem_cons_self)
    exact ⟨meth, c, h1, h2, h3, h4, h5, h6⟩
  · intro p e s m args below meth c s₁ B hml0 hP _
    obtain ⟨rfl, hx, hbd, hgv⟩ := hP
    obtain ⟨scr, harrAt, hlist, hof, hsmall⟩ := hx
    obtain ⟨hcb, hkn, -, -⟩ := State.arrayAt?_spec harrAt
    have hown : s.vm.findClass R_law = some m.cls := findClass_of_methodNamed B.named
    have hts0 : ∀ c ∈ (Jvm.Cond.code x code maxLocals ret :: tables_1), c.before #[Value.ref b] s = true := atoms_spec (ws := Jvm.Cond.code x code maxLocals ret :: tables_1) B.pre
    have hts : ∀ w ∈ lw_tbl, w.before #[Value.ref b] s = true := k2_hts_sels lw_privs (fun w hw => hts0 w (List.mem_cons_of_mem _ hw)) lw_privs_ok
    have hml : c.maxLocals = 7 := B.maxLocals_eq (hts0 _ List.mem_cons_self)
    have X₀ : Stand p l e room_1 s m #[Value.ref b] below meth c s₁ [] 0 0 := Stand.of_body B
    have hh0 : s₁.heap = s.heap := by rw [B.state]; rfl
    have hsz : scr.slots.size = xs.length := by rw [← Array.length_toList, hlist, List.length_map]
    have hval : ∀ j : Nat, j < xs.length → scr.slots[j]? = some (.int (xs.getD j 0)) := fun j hj => by
      rw [← Array.getElem?_toList, hlist]
      simp [hj]
    have hbl : b < s.heap.size := (Array.getElem?_eq_some_iff.mp hcb).1
    have hX : va_X b xs.length (fun j => xs.getD j 0) s s.heap := ⟨scr, hcb, hof, hkn, hsz, hval⟩
    have K : W p l e room_1 s m #[Value.ref b] below meth c s₁.heap [] 0 0 (lw_Z below #[Value.ref b] s) (entryFrame m ([Value.ref b] : List Value).toArray 7) := by
      rw [hh0]
      exact whole_start l hst hbd ⟨B.exec, B.bytes, B.returns, hml, hown, hts, hX, hbl, B.notSynchronized, hgv⟩
    obtain ⟨t, a1, o, b1, b2, b3⟩ := K s₁ rfl X₀
    exact ⟨t, o, a1, b1, b2, b3⟩
theorem lw_pre_spec {args : Array Value} {s : State} (h : (Jvm.Cond.and given_1 narrow_1).before args s = true) (hr : rest_1_c.before args s = true) : ∃ (b : Addr) (xs : List Int32), lw_P b xs args s := by
  have hs := flat_of_before _ h
  have hq := flat_of_before _ hr
  have hc : (Cond.count 1).before args s = true := hs _ (by decide +kernel)
  have harr : (Cond.arrayOf (.arg 0) .int).before args s = true := hs _ (by decide +kernel)
  have hle : (Cond.le (.length (.arg 0)) (.int 7)).before args s = true := hs _ (by decide +kernel)
  have hlen : (Cond.isInt (.length (.arg 0))).before args s = true := hq _ (by decide +kernel)
  have hall : (Cond.all (.arg 0) (.isInt (.elem (.arg 0) (.index 0)))).before args s = true := hq _ (by decide +kernel)
  obtain ⟨b, xs, hb, hx⟩ := State.ints_of_pre rfl harr hlen hall
  have hsm : xs.length < 2 ^ 31 := hx.choose_spec.2.2.2
  have hev : (Term.length (.arg 0)).eval args s none [] s = some (.int xs.length.toInt32) := hx.length_eval hb
  have hv := Cond.le_ints hev (show (Term.int 7).eval args s none [] s = some (.int 7) from rfl)
  have hd : xs.length.toInt32 ≤ 7 := by
    simpa [Cond.before, Cond.holds, hv] using hle
  have hN : xs.length ≤ 7 := (Int32.ofNat_le_ofNat hsm (by decide)).mp (show Int32.ofNat xs.length ≤ Int32.ofNat 7 from hd)
  exact ⟨b, xs, Cond.one_arg hc (show args[0]? = some (.ref b) from hb), hx, hN, h⟩
theorem lw_comes (l : Launch) (hst : l.stackTraces = false) : Comes l x (Jvm.Cond.code x code maxLocals ret :: tables_1) room_1 (fun tb e args s => Calls_1 tb e args s ∧ rest_1 tb e args s ∧ Pre_1 tb e args s)
    (fun _ _ args s o t => lw_Q args s o t) := by
  intro p e ha hc hk s m args below hf hfit hheap happ hpre
  obtain ⟨b, xs, hP⟩ := lw_pre_spec hpre.2.2 hpre.2.1
  obtain ⟨k, o, h1, h2, h3, hQ⟩ := lw_walk l hst b xs p e ha hc hk s m args below hf ((Spec.applies_iff_loose hf).mp happ).1 hP trivial
  exact ⟨k, o, h1, h2, h3, hQ⟩
theorem lw_frame {s t : State} {o : Outcome} {args : Array Value} (h : Framed s o t [] 600002 7302232) :
    Framed s o t (fieldLocs frame_1_writes args s ++ arrayLocs frame_1_arrays args s ++ staticLocs frame_1_statics s) 600002 7302232 := h
theorem lw_limb (L : Cond) (hL : ∀ (args : Array Value) (s t : State), L.after args s (.returned (some (.int 1))) t = true) :
    ArmFor flags0 classFile x code maxLocals ret World_1 tables_1 room_1 Calls_1 rest_1 Pre_1
      (fun tb e a s o t => postC L tb e a s o t ∧ Framed s o t (fieldLocs frame_1_writes a s ++ arrayLocs frame_1_arrays a s ++ staticLocs frame_1_statics s) 600002 7302232) := by
  intro l hfl _ _ p e ha hc hk s m args below hf hfit hheap happ hpre
  obtain ⟨k, o, h1, h2, h3, rfl, hF⟩ := lw_comes l (zstr hfl) p e ha hc hk s m args below hf hfit hheap happ hpre
  exact ⟨k, _, h1, h2, h3, hL args s _, lw_frame hF⟩
theorem i_vc : Claimed_1_1 ∧ Claimed_1_2 := ⟨lw_limb limb_1_1 (fun args s t => by simp [limb_1_1, Cond.after, Cond.holds, Cond.value]), lw_limb limb_1_2 (fun args s t => Cond.after_iff.mpr (by
  first | (rw [show limb_1_2 = Cond.eq .result (.int 1) from rfl, Cond.eq_ints (x := 1) (y := 1) rfl rfl]; simp; done) | (simp [limb_1_2, Cond.value, Term.eval]; done)))⟩

