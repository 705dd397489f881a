/-! a contract is checked: from its entry and from each cut every end is as told, and the rank falls -/
abbrev SCu : Type := Nat × SL × List SV × SW × SE
def svlv (n : Nat) (g : SG) (K : SK) (lv : SL) : SL → Bool
  | [] => true
  | q :: r => match slk lv q.1 with
    | some v => cond (svv n g K q.2 v) (svlv n g K lv r) false
    | none => false
theorem svlv_ok {fm : List SF} {scr n nL : Nat} {g : SG} {ρ : Nat → Int} {ad : SAd} {K : SK} {lv : SL} {clv : ZL} {ls : Array Slot} (hK : sK ρ K) (hs : sls fm scr ρ ad lv clv) (hl : lv_has ls nL clv) : ∀ {lvA : SL}, svlv n g K lv lvA = true → ∃ clvA, sls fm scr (srh n g ρ) ad lvA clvA ∧ lv_has ls nL clvA := by
  intro lvA
  induction lvA with
  | nil => exact fun _ => ⟨[], trivial, hl.1, hl.2.1, fun q hq => by cases hq⟩
  | cons q r ih =>
    intro h
    unfold svlv at h
    cases hk : slk lv q.1 with
    | none => rw [hk] at h; cases h
    | some v =>
      rw [hk] at h
      obtain ⟨h1, h2⟩ := bcond h
      obtain ⟨clvA, h3, h4⟩ := ih h2
      obtain ⟨k, c, h5, h6⟩ := sls_get hs hk
      refine ⟨(q.1, c) :: clvA, ⟨rfl, svv_ok hK h1 h6, h3⟩, h4.1, h4.2.1, fun z hz => ?_⟩
      rcases List.mem_cons.mp hz with rfl | hz
      · exact lv_at hl k h5
      · exact h4.2.2 z hz
def srk (n : Nat) (g : SG) (K : SK) (rk : Option SE) (rkB : SE) : Bool := match rk with
  | none => true
  | some a => (match ssb n g rkB with
    | some e => sent3 K (saddc (ssub a e) (-1))
    | none => false)
def scut (rg : SRg) (nP : Nat) (rk : Option SE) (pc : Nat) (lv : SL) (st : List SV) : List SCu → SW → SX
  | [], _ => none
  | B :: r, w => cond (Nat.beq B.1 pc && Nat.beq B.2.2.1.length st.length) (sgp (sbdV nP lv B.2.1 (sbdL nP B.2.2.1 st [])) (fun g => smtm rg nP lv st B.2.2.2.1.1.1 g w (fun g w => cond (svlv nP g w.2.2.1 lv B.2.1 && (svL nP g w.2.2.1 B.2.2.1 st && (svW nP g w B.2.2.2.1 && (Nat.ble w.2.2.2.1 B.2.2.2.1.2.2.2.1 && (Nat.ble w.2.2.2.2 B.2.2.2.1.2.2.2.2 && srk nP g w.2.2.1 rk B.2.2.2.2))))) (some []) (scut rg nP rk pc lv st r w)))) (scut rg nP rk pc lv st r w)
def sexi (rg : SRg) (nP : Nat) (lv : SL) (st : List SV) : List (List SV × SW) → SW → SX
  | [], _ => none
  | E :: r, w => sgp (sbdL nP E.1 st []) (fun g => smtm rg nP lv st E.2.1.1 g w (fun g w => cond (svL nP g w.2.2.1 E.1 st && svW nP g w E.2) (some []) (sexi rg nP lv st r w)))
noncomputable def send (zc : List (List ZI)) (rg : SRg) (nP kc bc bs : Nat) (rt : Option FieldType) (exits : List (List SV × SW)) (cuts : List SCu) (rk : Option SE) (X : SS) : SX := cond (srp zc kc rt X.1) (cond (srtk rt X.2.2.2.2.2.1 X.2.2.1 && (Nat.ble X.2.2.2.2.2.2.1 bc && Nat.ble X.2.2.2.2.2.2.2 bs)) (sexi rg nP X.2.1 X.2.2.1 exits X.2.2.2) none) (scut rg nP rk X.1 X.2.1 X.2.2.1 cuts X.2.2.2)
def sis (x : SX) : Bool := match x with
  | some _ => true
  | none => false
theorem sis_ok {x : SX} (h : sis x = true) : ∃ xs, sub x xs := by
  cases x with
  | none => cases h
  | some ys => exact ⟨ys, ys, rfl, fun _ h => h⟩
noncomputable def sck1 (zm : List ZMe) (zc : List (List ZI)) (fm : List SF) (rg : SRg) (cts : List (List SC)) (C : SC) (cuts : List SCu) (fuel : Nat) (me : ZMe) (rk : Option SE) (pc : Nat) (lv : SL) (st : List SV) (w : SW) : Bool := match sstep zm zc fm rg cts C.2.2.2.2.1 C.2.2.2.2.2.1 C.1 C.2.2.2.2.2.2.2 (cuts.map (fun B => B.1)) true (sgo zm zc fm rg cts C.2.2.2.2.1 C.2.2.2.2.2.1 C.1 C.2.2.2.2.2.2.2 (cuts.map (fun B => B.1)) fuel) C.2.1 C.2.2.2.2.2.2.2 pc lv st w with
  | some ys => sall (fun Y => sis (send zc rg C.2.2.2.1.2.1 C.2.1 me.2.2.2.2.2.1 me.2.2.2.2.2.2 me.2.2.2.2.1 C.2.2.2.2.2.2.1 cuts rk Y)) ys
  | none => false
/-- the entry -/
noncomputable def sckE (zm : List ZMe) (zc : List (List ZI)) (fm : List SF) (rg : SRg) (cts : List (List SC)) (C : SC) (cuts : List SCu) (fuel : Nat) : Bool := match zget zm C.2.1 with
  | some me => !(Nat.beq C.2.1 0) && (sall (fun q => sbe C.2.2.2.1.2.1 q.2) C.2.2.2.2.2.1 && sck1 zm zc fm rg cts C cuts fuel me none 0 (sargs 0 C.2.2.1) [] (C.2.2.2.1.1, C.2.2.2.1.2.1, C.2.2.2.1.2.2.1, 0, 0))
  | none => false
/-- a cut -/
noncomputable def sckA (zm : List ZMe) (zc : List (List ZI)) (fm : List SF) (rg : SRg) (cts : List (List SC)) (C : SC) (cuts : List SCu) (fuel : Nat) (B : SCu) : Bool := match zget zm C.2.1 with
  | some me => Nat.ble C.2.2.2.1.2.1 B.2.2.2.1.2.1 && (sbe B.2.2.2.1.2.1 B.2.2.2.2 && (sent B.2.2.2.1.2.2.1 B.2.2.2.2 && sck1 zm zc fm rg cts C cuts fuel me (some B.2.2.2.2) B.1 B.2.1 B.2.2.1 B.2.2.2.1))
  | none => false
section SCK
variable {p : Program} {l : Launch} {e : Env} {R : Room} {s : State} {m : MethodId} {args : Array Value} {below : List Frame} {meth : Method} {c : Code} {Q : State → Prop} {dC : Nat → ClassId} {dI : Nat → Nat → Nat} {cA : Nat → ClassId} {A : Nat → Prop} {nL : Nat} {fm : List SF} {rg : SRg} {wr : SWr} {scr n0 : Nat} {ρ0 : Nat → Int} {M0 : SMem} {ad0 : SAd} {nc0 ns0 : Nat} {cc : ByteArray} {pc : Nat} {lv : SL} {st : List SV} {w : SW} {ret : SRt} {xs : List SS} {own : String}
variable {ρ : Nat → Int} {M : SMem} {ad : SAd} {ws : va_W} {H : Heap} {locs : List Loc} {ls : Array Slot} {clv : ZL} {cst : List Value} {nP : Nat} {ρP : Nat → Int}
theorem srel_note {g : SG} {lvA : SL} {stA : List SV} {wA : SW} {clvA : ZL} (hr : sRel fm rg sX sfI wr scr n0 ρ0 M0 ad0 dC dI cA A s.heap nL lv st w ρ M ad ws H locs ls clv cst) (hnP : nP ≤ n0) (hρ : ∀ t, t < nP → ρ0 t = ρP t) (hnA : nP ≤ wA.2.1) (h1 : sls fm scr (srh nP g ρ) ad lvA clvA) (h2 : lv_has ls nL clvA) (h3 : svs fm scr (srh nP g ρ) ad stA cst) (h4 : sK (srh nP g ρ) wA.2.2.1) (h5 : smo sfI (srh nP g ρ) M wA.1) : sRel fm rg sX sfI wr scr nP ρP M0 ad0 dC dI cA A s.heap nL lvA stA wA (srh nP g ρ) M ad ws H locs ls clvA cst := by
  obtain ⟨⟨ag, hn, hK⟩, ⟨r1, hI, hmo, hfr⟩, r2, r3, r4, r5, r6, r7⟩ := hr
  refine ⟨⟨fun t ht => ?_, hnA, h4⟩, ⟨r1, hI, h5, hfr⟩, r2, r3, r4, h2, h1, h3⟩
  unfold srh
  rw [if_pos ht, ag t (Nat.lt_of_lt_of_le ht hnP), hρ t ht]
theorem scut_ok (hST : sST fm rg) {rk : Option SE} (hnP : nP ≤ n0) (hρ : ∀ t, t < nP → ρ0 t = ρP t) (hrk : ∀ a, rk = some a → sbe n0 a = true) : ∀ {cuts : List SCu} {w : SW} {ρ : Nat → Int}, (∀ B ∈ cuts, nP ≤ B.2.2.2.1.2.1) → sRel fm rg sX sfI wr scr n0 ρ0 M0 ad0 dC dI cA A s.heap nL lv st w ρ M ad ws H locs ls clv cst → sub (scut rg nP rk pc lv st cuts w) xs → ∃ B ∈ cuts, B.1 = pc ∧ ∃ (ρB : Nat → Int) (clvB : ZL), sRel fm rg sX sfI wr scr nP ρP M0 ad0 dC dI cA A s.heap nL B.2.1 B.2.2.1 B.2.2.2.1 ρB M ad ws H locs ls clvB cst ∧ w.2.2.2.1 ≤ B.2.2.2.1.2.2.2.1 ∧ w.2.2.2.2 ≤ B.2.2.2.1.2.2.2.2 ∧ ∀ a, rk = some a → sev ρB B.2.2.2.2 < sev ρ0 a := by
  intro cuts
  induction cuts with
  | nil => intro w ρ _ _ h; exact (sub_none h).elim
  | cons B r ih =>
    intro w ρ hB hr h
    have ih2 := fun {w : SW} {ρ : Nat → Int} => ih (w := w) (ρ := ρ) (fun C hC => hB C (List.mem_cons_of_mem _ hC))
    have lift : ∀ {w1 : SW}, w1.2.2.2 = w.2.2.2 → (∃ B ∈ r, B.1 = pc ∧ ∃ (ρB : Nat → Int) (clvB : ZL), sRel fm rg sX sfI wr scr nP ρP M0 ad0 dC dI cA A s.heap nL B.2.1 B.2.2.1 B.2.2.2.1 ρB M ad ws H locs ls clvB cst ∧ w1.2.2.2.1 ≤ B.2.2.2.1.2.2.2.1 ∧ w1.2.2.2.2 ≤ B.2.2.2.1.2.2.2.2 ∧ ∀ a, rk = some a → sev ρB B.2.2.2.2 < sev ρ0 a) → ∃ B' ∈ B :: r, B'.1 = pc ∧ ∃ (ρB : Nat → Int) (clvB : ZL), sRel fm rg sX sfI wr scr nP ρP M0 ad0 dC dI cA A s.heap nL B'.2.1 B'.2.2.1 B'.2.2.2.1 ρB M ad ws H locs ls clvB cst ∧ w.2.2.2.1 ≤ B'.2.2.2.1.2.2.2.1 ∧ w.2.2.2.2 ≤ B'.2.2.2.1.2.2.2.2 ∧ ∀ a, rk = some a → sev ρB B'.2.2.2.2 < sev ρ0 a := by
      rintro w1 e1 ⟨B', h1, h2⟩
      rw [e1] at h2
      exact ⟨B', List.mem_cons_of_mem _ h1, h2⟩
    unfold scut at h
    cases hq : (Nat.beq B.1 pc && Nat.beq B.2.2.1.length st.length) with
    | false => rw [hq, cond_false] at h; exact lift rfl (ih2 hr h)
    | true =>
      rw [hq, cond_true, sgp_eq] at h
      rw [Bool.and_eq_true] at hq
      obtain ⟨ρ1, g, w1, hr1, h, hcnt⟩ := smtm_ok hST hr h
      cases hv : (svlv nP g w1.2.2.1 lv B.2.1 && (svL nP g w1.2.2.1 B.2.2.1 st && (svW nP g w1 B.2.2.2.1 && (Nat.ble w1.2.2.2.1 B.2.2.2.1.2.2.2.1 && (Nat.ble w1.2.2.2.2 B.2.2.2.1.2.2.2.2 && srk nP g w1.2.2.1 rk B.2.2.2.2))))) with
      | false => rw [hv, cond_false] at h; exact lift hcnt (ih2 hr1 h)
      | true =>
        simp only [Bool.and_eq_true] at hv
        obtain ⟨v1, v2, v3, v4, v5, v6⟩ := hv
        have hK1 := srel_sK hr1
        obtain ⟨p1, p2⟩ := svW_ok hK1 hr1.2.1.2.2.1 v3
        obtain ⟨clvB, q1, q2⟩ := svlv_ok hK1 hr1.2.2.2.2.2.2.1 hr1.2.2.2.2.2.1 v1
        have p3 := svL_ok hK1 v2 hr1.2.2.2.2.2.2.2
        refine ⟨B, List.mem_cons_self, Nat.beq_eq.mp hq.1, srh nP g ρ1, clvB, srel_note hr1 hnP hρ (hB B List.mem_cons_self) q1 q2 p3 p1 p2, by rw [← hcnt]; exact Nat.le_of_ble_eq_true v4, by rw [← hcnt]; exact Nat.le_of_ble_eq_true v5, fun a ha => ?_⟩
        subst ha
        unfold srk at v6
        simp only at v6
        cases hb : ssb nP g B.2.2.2.2 with
        | none => rw [hb] at v6; cases v6
        | some e =>
          rw [hb] at v6
          have h9 := sent3_ok hK1 v6
          rw [saddc_ev, ssub_ev, ssb_ok (ρ := ρ1) hb, sbe_ev (ρ := ρ0) (ρ' := ρ1) hr1.1.1 (hrk a rfl)] at h9
          omega
theorem sexi_ok (hST : sST fm rg) (hnP : nP ≤ n0) (hρ : ∀ t, t < nP → ρ0 t = ρP t) : ∀ {exits : List (List SV × SW)} {w : SW} {ρ : Nat → Int}, sRel fm rg sX sfI wr scr n0 ρ0 M0 ad0 dC dI cA A s.heap nL lv st w ρ M ad ws H locs ls clv cst → sub (sexi rg nP lv st exits w) xs → ∃ X ∈ exits, ∃ (ρX : Nat → Int), (∀ t, t < nP → ρX t = ρP t) ∧ sK ρX X.2.2.2.1 ∧ smo sfI ρX M X.2.1 ∧ svs fm scr ρX ad X.1 cst := by
  intro exits
  induction exits with
  | nil => intro w ρ _ h; exact (sub_none h).elim
  | cons X r ih =>
    intro w ρ hr h
    unfold sexi at h
    rw [sgp_eq] at h
    obtain ⟨ρ1, g, w1, hr1, h, hcnt⟩ := smtm_ok hST hr h
    cases hv : (svL nP g w1.2.2.1 X.1 st && svW nP g w1 X.2) with
    | false =>
      rw [hv, cond_false] at h
      obtain ⟨X', h1, h2⟩ := ih hr1 h
      exact ⟨X', List.mem_cons_of_mem _ h1, h2⟩
    | true =>
      rw [Bool.and_eq_true] at hv
      have hK1 := srel_sK hr1
      obtain ⟨p1, p2⟩ := svW_ok hK1 hr1.2.1.2.2.1 hv.2
      refine ⟨X, List.mem_cons_self, srh nP g ρ1, fun t ht => ?_, p1, p2, svL_ok hK1 hv.1 hr1.2.2.2.2.2.2.2⟩
      unfold srh
      rw [if_pos ht, hr1.1.1 t (Nat.lt_of_lt_of_le ht hnP), hρ t ht]
end SCK
theorem sbl_mono {n n' : Nat} (h : n ≤ n') : ∀ {l : List (Nat × Int)}, sbl n l = true → sbl n' l = true := by
  intro l
  induction l with
  | nil => intro _; rfl
  | cons q r ih =>
    intro h2
    simp only [sbl, Bool.and_eq_true] at h2 ⊢
    exact ⟨Nat.blt_eq.mpr (Nat.lt_of_lt_of_le (zblt h2.1) h), ih h2.2⟩
section SCF
variable {zm : List ZMe} {zc : List (List ZI)} {fm : List SF} {rg : SRg} {EX : SEx} {l : Launch} {dC : Nat → ClassId} {dI : Nat → Nat → Nat} {cA : Nat → ClassId} {scrS : Nat} {cts : List (List SC)}
set_option maxHeartbeats 1000000 in
theorem sck_ok {C : SC} {cuts : List SCu} {fuel : Nat} (hX : sCtx zm fm rg EX l dC dI cA scrS cts C.1) (htab : sTab zm zc) (hE : sckE zm zc fm rg cts C cuts fuel = true) (hA : ∀ B ∈ cuts, sckA zm zc fm rg cts C cuts fuel B = true) : sCok zm fm rg EX l dC dI cA scrS C := by
  intro me hme ρP M0 ad0 ws cas i1 i2 i3 i4 i5 i6 p e R s m args below meth c Q A ls F hP hD hl hend
  unfold sckE at hE
  rw [zget_eq, hme] at hE
  simp only [Bool.and_eq_true] at hE
  obtain ⟨hk0, hwlb, hE⟩ := hE
  have hk0 : C.2.1 ≠ 0 := fun q => by rw [q] at hk0; cases hk0
  have hgo := sgo_ok (md := C.2.2.2.2.1) (wl := C.2.2.2.2.2.1) (D0 := C.2.2.2.2.2.2.2) (cuts := cuts.map (fun B => B.1)) hX htab fuel
  have hst := sstep_ok (cuts := cuts.map (fun B => B.1)) hX htab hgo true
  have hwr : ∀ (n0 : Nat) (ρ0 : Nat → Int), C.2.2.2.1.2.1 ≤ n0 → (∀ t, t < C.2.2.2.1.2.1 → ρ0 t = ρP t) → sWR C.2.2.2.2.1 C.2.2.2.2.2.1 n0 ρ0 (C.2.2.2.2.1, C.2.2.2.2.2.1.map (fun q => (q.1, sev ρP q.2))) := by
    intro n0 ρ0 h1 h2
    refine ⟨rfl, fun q hq => ?_⟩
    obtain ⟨z, z1, rfl⟩ := List.mem_map.mp hq
    have hb := sall_ok hwlb z z1
    exact ⟨z.2, z1, sbl_mono h1 hb, (sbe_ev (fun t ht => (h2 t ht).symm) hb)⟩
  have hnB : ∀ B ∈ cuts, C.2.2.2.1.2.1 ≤ B.2.2.2.1.2.1 := by
    intro B hB
    have h9 := hA B hB
    unfold sckA at h9
    rw [zget_eq, hme] at h9
    simp only [Bool.and_eq_true] at h9
    exact Nat.le_of_ble_eq_true h9.1
  -- an end of a run
  have hfin : ∀ (n0 : Nat) (ρ0 : Nat → Int) (rk : Option SE) (K : Int), C.2.2.2.1.2.1 ≤ n0 → (∀ t, t < C.2.2.2.1.2.1 → ρ0 t = ρP t) → (∀ a, rk = some a → sbe n0 a = true ∧ sev ρ0 a ≤ K) →
      (∀ B ∈ cuts, ∀ (ρ : Nat → Int) (M : SMem) (ad : SAd) (ws : va_W) (H : Heap) (locs : List Loc) (ls : Array Slot) (clv : ZL) (cst : List Value), sRel fm rg sX sfI (C.2.2.2.2.1, C.2.2.2.2.2.1.map (fun q => (q.1, sev ρP q.2))) scrS C.2.2.2.1.2.1 ρP M0 ad0 dC dI cA A s.heap me.2.2.2.1 B.2.1 B.2.2.1 B.2.2.2.1 ρ M ad ws H locs ls clv cst → (∀ a, rk = some a → sev ρ B.2.2.2.2 < K) → W p l e R s m args below meth c H locs (0 + B.2.2.2.1.2.2.2.1) (0 + B.2.2.2.1.2.2.2.2) Q (F0 m B.1 ls cst)) →
      ∀ Y : SS, sis (send zc rg C.2.2.2.1.2.1 C.2.1 me.2.2.2.2.2.1 me.2.2.2.2.2.2 me.2.2.2.2.1 C.2.2.2.2.2.2.1 cuts rk Y) = true → sW p l e R s m args below meth c Q dC dI cA A me.2.2.2.1 fm rg sX sfI (C.2.2.2.2.1, C.2.2.2.2.2.1.map (fun q => (q.1, sev ρP q.2))) scrS n0 ρ0 M0 ad0 0 0 Y.1 Y.2.1 Y.2.2.1 Y.2.2.2 := by
    intro n0 ρ0 rk K h1 h2 h3 hrec Y hY ρ M ad ws H locs ls clv cst hr
    obtain ⟨xs, hs⟩ := sis_ok hY
    unfold send at hs
    cases hrp : srp zc C.2.1 me.2.2.2.2.1 Y.1 with
    | true =>
      rw [hrp, cond_true] at hs
      obtain ⟨g1, g2⟩ := sub_cond hs
      simp only [Bool.and_eq_true] at g1
      obtain ⟨X, hX9, ρX, x1, x2, x3, x4⟩ := sexi_ok hX.2.2.1 h1 h2 hr g2
      have hret := srp_ok htab hme hrp
      have hrv := srtk_ok (srel_sK hr) g1.1 hr.2.2.2.2.2.2.2
      simp only [Nat.zero_add]
      refine hend Y.1 ls cst ws H locs _ _ ?_ ⟨X, hX9, ρX, M, ad, x1, x2, ⟨hr.2.1.1, hr.2.1.2.1, x3, hr.2.1.2.2.2⟩, x4⟩ hr.2.2.1 hr.2.2.2.1 hr.2.2.2.2.1 (Nat.le_of_ble_eq_true g1.2.1) (Nat.le_of_ble_eq_true g1.2.2)
      unfold sret
      unfold srd at hret
      unfold srtv at hrv
      cases hrt : me.2.2.2.2.1 with
      | none =>
        rw [hrt] at hret hrv
        exact ⟨hret, hrv⟩
      | some ty =>
        rw [hrt] at hret hrv
        exact ⟨hret, hrv⟩
    | false =>
      rw [hrp, cond_false] at hs
      obtain ⟨B, hB, e1, ρB, clvB, b1, b2, b3, b4⟩ := scut_ok hX.2.2.1 h1 h2 (fun a ha => (h3 a ha).1) hnB hr hs
      have := hrec B hB ρB M ad ws H locs ls clvB cst b1 (fun a ha => Int.lt_of_lt_of_le (b4 a ha) (h3 a ha).2)
      rw [e1] at this
      exact W.widen (by omega) (by omega) this
  -- from the cuts, by the rank
  have hcut : ∀ (n : Nat), ∀ B ∈ cuts, ∀ (ρ : Nat → Int) (M : SMem) (ad : SAd) (ws : va_W) (H : Heap) (locs : List Loc) (ls : Array Slot) (clv : ZL) (cst : List Value), sRel fm rg sX sfI (C.2.2.2.2.1, C.2.2.2.2.2.1.map (fun q => (q.1, sev ρP q.2))) scrS C.2.2.2.1.2.1 ρP M0 ad0 dC dI cA A s.heap me.2.2.2.1 B.2.1 B.2.2.1 B.2.2.2.1 ρ M ad ws H locs ls clv cst → sev ρ B.2.2.2.2 < (n : Int) → W p l e R s m args below meth c H locs (0 + B.2.2.2.1.2.2.2.1) (0 + B.2.2.2.1.2.2.2.2) Q (F0 m B.1 ls cst) := by
    intro n
    induction n with
    | zero =>
      intro B hB ρ M ad ws H locs ls clv cst hr hlt
      have h9 := hA B hB
      unfold sckA at h9
      rw [zget_eq, hme] at h9
      simp only [Bool.and_eq_true] at h9
      have := sent_ok hr.1.2.2 h9.2.2.1
      omega
    | succ n ih =>
      intro B hB ρ M ad ws H locs ls clv cst hr hlt
      have h9 := hA B hB
      unfold sckA at h9
      rw [zget_eq, hme] at h9
      simp only [Bool.and_eq_true] at h9
      obtain ⟨a1, a2, a3, a4⟩ := h9
      unfold sck1 at a4
      cases hys : sstep zm zc fm rg cts C.2.2.2.2.1 C.2.2.2.2.2.1 C.1 C.2.2.2.2.2.2.2 (cuts.map (fun B => B.1)) true (sgo zm zc fm rg cts C.2.2.2.2.1 C.2.2.2.2.2.1 C.1 C.2.2.2.2.2.2.2 (cuts.map (fun B => B.1)) fuel) C.2.1 C.2.2.2.2.2.2.2 B.1 B.2.1 B.2.2.1 B.2.2.2.1 with
      | none => rw [hys] at a4; cases a4
      | some ys =>
        rw [hys] at a4
        have hag : ∀ t, t < C.2.2.2.1.2.1 → ρ t = ρP t := hr.1.1
        have := hst C.2.1 C.2.2.2.2.2.2.2 B.1 B.2.1 B.2.2.1 B.2.2.2.1 ys (Nat.le_refl _) ⟨ys, hys, fun _ h => h⟩ me hme p e R s m args below meth c Q A (C.2.2.2.2.1, C.2.2.2.2.2.1.map (fun q => (q.1, sev ρP q.2))) scrS B.2.2.2.1.2.1 ρ M0 ad0 0 0 F (by rw [Nat.zero_add]; exact F.2.2.2.2.2.2.2.2.1.1) (by rw [Nat.zero_add]; exact F.2.2.2.2.2.2.2.2.1.2) (hwr _ _ (Nat.le_of_ble_eq_true a1) hag) (fun q => absurd q hk0) (fun _ => rfl) (fun Y hY => hfin B.2.2.2.1.2.1 ρ (some B.2.2.2.2) n (Nat.le_of_ble_eq_true a1) hag (fun a ha => by cases ha; exact ⟨a2, by omega⟩) (fun B' hB' ρ' M' ad' ws' H' locs' ls' clv' cst' hr' hlt' => ih B' hB' ρ' M' ad' ws' H' locs' ls' clv' cst' hr' (hlt' _ rfl)) Y (sall_ok a4 Y hY))
        exact this ρ M ad ws H locs ls clv cst ⟨⟨fun _ _ => rfl, Nat.le_refl _, hr.1.2.2⟩, hr.2⟩
  -- from the entry
  unfold sck1 at hE
  cases hys : sstep zm zc fm rg cts C.2.2.2.2.1 C.2.2.2.2.2.1 C.1 C.2.2.2.2.2.2.2 (cuts.map (fun B => B.1)) true (sgo zm zc fm rg cts C.2.2.2.2.1 C.2.2.2.2.2.1 C.1 C.2.2.2.2.2.2.2 (cuts.map (fun B => B.1)) fuel) C.2.1 C.2.2.2.2.2.2.2 0 (sargs 0 C.2.2.1) [] (C.2.2.2.1.1, C.2.2.2.1.2.1, C.2.2.2.1.2.2.1, 0, 0) with
  | none => rw [hys] at hE; cases hE
  | some ys =>
    rw [hys] at hE
    have := hst C.2.1 C.2.2.2.2.2.2.2 0 (sargs 0 C.2.2.1) [] (C.2.2.2.1.1, C.2.2.2.1.2.1, C.2.2.2.1.2.2.1, 0, 0) ys (Nat.le_refl _) ⟨ys, hys, fun _ h => h⟩ me hme p e R s m args below meth c Q A (C.2.2.2.2.1, C.2.2.2.2.2.1.map (fun q => (q.1, sev ρP q.2))) scrS C.2.2.2.1.2.1 ρP M0 ad0 0 0 F (by rw [Nat.zero_add]; exact F.2.2.2.2.2.2.2.2.1.1) (by rw [Nat.zero_add]; exact F.2.2.2.2.2.2.2.2.1.2) (hwr _ _ (Nat.le_refl _) (fun _ _ => rfl)) (fun q => absurd q hk0) (fun _ => rfl) (fun Y hY => hfin C.2.2.2.1.2.1 ρP none 0 (Nat.le_refl _) (fun _ _ => rfl) (fun a ha => by cases ha) (fun B hB ρ' M' ad' ws' H' locs' ls' clv' cst' hr' _ => hcut ((sev ρ' B.2.2.2.2).toNat + 1) B hB ρ' M' ad' ws' H' locs' ls' clv' cst' hr' (by omega)) Y (sall_ok hE Y hY))
    have hW := this ρP M0 ad0 ws s.heap [] ls (lv_args 0 cas) [] ⟨⟨fun _ _ => rfl, Nat.le_refl _, i1⟩, ⟨i2, ⟨i3, i4⟩, i5, ⟨fun _ _ _ _ => rfl, fun _ _ _ => rfl, fun _ _ _ _ _ => rfl⟩⟩, hP, hD, va_S.rf, hl, sls_args 0 i6, trivial⟩
    exact hW
end SCF
noncomputable def sckI (zm : List ZMe) (zc : List (List ZI)) (fm : List SF) (rg : SRg) (cts : List (List SC)) (C : SC) (cuts : List SCu) (fuel i : Nat) : Bool := match zget cuts i with
  | some B => sckA zm zc fm rg cts C cuts fuel B
  | none => true
theorem sckI_ok {zm : List ZMe} {zc : List (List ZI)} {fm : List SF} {rg : SRg} {cts : List (List SC)} {C : SC} {cuts : List SCu} {fuel i : Nat} {B : SCu} (h : sckI zm zc fm rg cts C cuts fuel i = true) (hi : cuts[i]? = some B) : sckA zm zc fm rg cts C cuts fuel B = true := by
  unfold sckI at h
  rw [zget_eq, hi] at h
  exact h
