/-! a call, from what the callee does -/
theorem sEX_now {EX : SEx} (hEX : sEXok EX) {A : Nat → Prop} {s : State} {H : Heap} {locs : List Loc} (h : EX A s s.heap) (hS : va_S A s.heap H locs) : EX A s H := hEX.1 _ _ _ _ h (fun a ha hn => by
  have := hS.2.1
  exact hS.2.1 a ha hn)
section SCC
variable {EX : SEx} {p : Program} {l : Launch} {e : Env} {R : Room} {s : State} {m : MethodId} {args : Array Value} {below : List Frame} {meth : Method} {c : Code} {Q : State → Prop} {dC : Nat → ClassId} {dI : Nat → Nat → Nat} {cA : Nat → ClassId} {A : Nat → Prop} {pc : Nat} {nc ns : Nat}
theorem scall (hEX : sEXok EX) {d' idx kd kc n ci : Nat} {is : List Nat} {ins : Instr} {zm : List ZMe} {me me2 : ZMe} {ws : va_W} {H : Heap} {locs : List Loc} {ls : Array Slot} {clv : ZL} {cst cas crest : List Value} {PO : List Value → va_W → Prop}
    (F : sF (d' + 1) me EX p R s m args c dC dI cA A) (hmc : zm[kc]? = some me2) (hcal : zcal zm me.1 idx kd kc n ci is = true) (hRun : sRun d' me2 EX l dC dI cA ws cas PO)
    (hP : va_P (dC, dI) vwCl ws H) (hD : va_D A ws) (hS : va_S A s.heap H locs) (hl : lv_has ls me.2.2.2.1 clv)
    (hst : cst = cas.reverse ++ crest) (h8 : (crest.map fun v => v.category).sum ≤ 8) (hlen : (lg_sl cas).length ≤ me2.2.2.2.1) (hn : cas.length = if kd ≤ 1 then n else n + 1)
    (hrc : 2 ≤ kd → ∃ (b : Nat) (as2 : List Value), cas = .ref b :: as2 ∧ (kd = 2 → ∃ cell : Cell, H[b]? = some cell ∧ cell.vm.isStatics = false ∧ s.vm.findClass me2.2.1.cls = some cell.cls))
    (hff : nc + me2.2.2.2.2.2.1 ≤ R.cells ∧ ns + me2.2.2.2.2.2.2 ≤ R.slots)
    (hins : (kd = 0 ∨ kd = 1) ∧ ins = .invokestatic idx ∨ kd = 2 ∧ ins = .invokevirtual idx) (hdg : decode me.2.2.1 pc = .ok (ins, 3))
    (kk : ∀ (r : List Value) (ws' : va_W) (H1 : Heap) (locs1 : List Loc), PO r ws' → va_P (dC, dI) vwCl ws' H1 → va_D A ws' → va_S A s.heap H1 locs1 → W p l e R s m args below meth c H1 locs1 (nc + me2.2.2.2.2.2.1) (ns + me2.2.2.2.2.2.2) Q (F0 m (pc + 3) ls (r ++ crest))) :
    W p l e R s m args below meth c H locs nc ns Q (F0 m pc ls cst) := by
  obtain ⟨hx, hb, hml, hown, hts, hK, hA, hRd, hRb, hE9⟩ := F
  obtain ⟨own2, y2, cc2, mL2, rt2, bc2, bs2⟩ := me2
  unfold zcal at hcal
  rw [hmc] at hcal
  simp only [Bool.and_eq_true] at hcal
  obtain ⟨c1, c2, c3, c4, c5, c6, c7, c8⟩ := hcal
  have hoy : own2 = y2.cls := of_decide_eq_true c5
  have hfree := zfree hD hS hA
  have hk4 : kd ≤ 2 := by
    rcases hins with ⟨h | h, -⟩ | ⟨h, -⟩ <;> omega
  have hE2 := sEX_now hEX hE9 hS
  have hff : nc + bc2 ≤ R.cells ∧ ns + bs2 ≤ R.slots := hff
  cases rt2 with
  | none =>
    have hM := smetv (l := l) (sz := H.size) c4 hoy hlen hRun
    have hR9 := srun (e := e) (below := below) (meth := meth) (locs := locs) (nc := nc) (ns := ns) (own := me.1) hEX hx hb hml hown hts hK hP hD hl.1 hM hE2 hfree (zcwk_ok c1).1 (zcwk_ok c1).2 (of_decide_eq_true c2) (Nat.le_of_ble_eq_true c3) hk4 hRd hff hst h8 hn hrc hins hdg
    refine va_callv hR9 hS (fun q _ h => hfree q h) hfree (fun u t H1 locs1 ht hvm hw hB hz1 hk1 hS1 => ?_)
    obtain ⟨hP1, hK1, hD1⟩ := hB
    rw [ht] at hP1
    exact kk [] u H1 locs1 hw hP1 (hD1.weaken (fun _ q _ z => hfree q.1 z)) hS1
  | some ty =>
    have hM := smeti (l := l) (sz := H.size) c4 hoy hlen hRun
    have hR9 := srun (e := e) (below := below) (meth := meth) (locs := locs) (nc := nc) (ns := ns) (own := me.1) hEX hx hb hml hown hts hK hP hD hl.1 hM hE2 hfree (zcwk_ok c1).1 (zcwk_ok c1).2 (of_decide_eq_true c2) (Nat.le_of_ble_eq_true c3) hk4 hRd hff hst h8 hn hrc hins hdg
    refine va_calli hR9 hS (fun q _ h => hfree q h) hfree (fun x u t H1 locs1 ht hvm hw hB hz1 hk1 hS1 => ?_)
    obtain ⟨hP1, hK1, hD1⟩ := hB
    rw [ht] at hP1
    exact kk [.int x] u H1 locs1 hw hP1 (hD1.weaken (fun _ q _ z => hfree q.1 z)) hS1
end SCC
