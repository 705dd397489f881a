/-! contracts: what a method wants, what it writes, how it ends -/
abbrev SC : Type := Nat × Nat × List SV × SW × List (Nat × Nat) × List (Nat × SE) × List (List SV × SW) × Nat
theorem ssrg {rg : SRg} {f i0 : Nat} {i : SE} {ρ : Nat → Int} (hi : (i0 : Int) = sev ρ i) (h : (sisc i || sisr rg f) = true) : srg rg f i0 = srg rg f (cond (sisc i) i.1.toNat 0) ∧ scl rg f i0 = scl rg f (cond (sisc i) i.1.toNat 0) := by
  cases hc : sisc i with
  | true =>
    rw [sisc_ok hc] at hi
    have : i.1.toNat = i0 := by omega
    rw [cond_true, this]
    exact ⟨rfl, rfl⟩
  | false =>
    rw [hc, Bool.false_or] at h
    rw [cond_false]
    unfold sisr at h
    unfold srg scl
    cases hr : rg.1[f]? with
    | none => rw [hr] at h; cases h
    | some q =>
      rw [hr] at h
      simp only at h
      have hb : Nat.beq q.1 0 = false := by
        cases hb : Nat.beq q.1 0 with
        | true => rw [hb] at h; cases h
        | false => rfl
      simp only [hb, cond_false]
      exact ⟨trivial, trivial⟩
section SMT
variable {p : Program} {l : Launch} {e : Env} {R : Room} {s : State} {m : MethodId} {args : Array Value} {below : List Frame} {meth : Method} {c : Code} {Q : State → Prop} {dC : Nat → ClassId} {dI : Nat → Nat → Nat} {cA : Nat → ClassId} {A : Nat → Prop} {nL : Nat} {fm : List SF} {rg : SRg} {wr : SWr} {scr n0 : Nat} {ρ0 : Nat → Int} {M0 : SMem} {ad0 : SAd} {nc0 ns0 : Nat} {cc : ByteArray} {pc : Nat} {lv : SL} {st : List SV} {w : SW} {ret : SRt} {xs : List SS} {own : String}
variable {ρ : Nat → Int} {M : SMem} {ad : SAd} {ws : va_W} {H : Heap} {locs : List Loc} {ls : Array Slot} {clv : ZL} {cst : List Value}
theorem sldk_ok2 {f cn jn i0 : Nat} {j i : SE} {k : SE → SW → SX} (hr : sRel fm rg sX sfI wr scr n0 ρ0 M0 ad0 dC dI cA A s.heap nL lv st w ρ M ad ws H locs ls clv cst) (hb : sbe w.2.1 j = true ∧ sbe w.2.1 i = true) (hcn : srg rg f i0 = srg rg f cn) (hj : (jn : Int) = sev ρ j) (hi0 : (i0 : Int) = sev ρ i) (h : sub (sldk rg f cn j i lv st w k) xs) : ∃ (ρ' : Nat → Int) (e' : SE) (w' : SW), sRel fm rg sX sfI wr scr n0 ρ0 M0 ad0 dC dI cA A s.heap nL lv st w' ρ' M ad ws H locs ls clv cst ∧ sub (k e' w') xs ∧ w'.2.2.2 = w.2.2.2 ∧ w.2.1 ≤ w'.2.1 ∧ ∀ t, t < w.2.1 → ρ' t = ρ t := by
  unfold sldk at h
  cases hm : smf w.1.1 f j i with
  | some v =>
    rw [hm] at h
    exact ⟨ρ, v, w, hr, h, rfl, Nat.le_refl _, fun _ _ => rfl⟩
  | none =>
    rw [hm] at h
    simp only at h
    cases hq : srg rg f cn with
    | none => rw [hq] at h; exact (sub_none h).elim
    | some q =>
      rw [hq] at h
      have hI := hr.2.1.2.1.1.1 f i0 q (hcn.trans hq) jn
      cases hc : decide (q.1 = q.2) with
      | true =>
        simp only [hc, cond_true] at h
        have e1 : q.1 = q.2 := of_decide_eq_true hc
        exact ⟨ρ, _, _, srel_memo hr hj hi0 (by rw [sev_c]; omega), h, rfl, Nat.le_refl _, fun _ _ => rfl⟩
      | false =>
        simp only [hc, cond_false] at h
        obtain ⟨ρ', ha, hS, h3, h4, h5⟩ := snew_ok hr hI.1 hI.2 h
        exact ⟨ρ', _, _, srel_memo h4 (by rw [sbe_ev ha hb.1]; exact hj) (by rw [sbe_ev ha hb.2]; exact hi0) h3.symm, h5, rfl, Nat.le_succ _, ha⟩
theorem smtm_ok (hS : sST fm rg) {n : Nat} : ∀ {ms : List SM} {g : SG} {w : SW} {k : SG → SW → SX} {ρ : Nat → Int}, sRel fm rg sX sfI wr scr n0 ρ0 M0 ad0 dC dI cA A s.heap nL lv st w ρ M ad ws H locs ls clv cst → sub (smtm rg n lv st ms g w k) xs → ∃ (ρ' : Nat → Int) (g' : SG) (w' : SW), sRel fm rg sX sfI wr scr n0 ρ0 M0 ad0 dC dI cA A s.heap nL lv st w' ρ' M ad ws H locs ls clv cst ∧ sub (k g' w') xs ∧ w'.2.2.2 = w.2.2.2 := by
  intro ms
  induction ms with
  | nil => exact fun hr h => ⟨_, _, _, hr, h, rfl⟩
  | cons q r ih =>
    intro g w k ρ hr h
    unfold smtm at h
    rw [sgf_eq] at h
    generalize sbdi n g q w.1.1 = g at h
    cases h1 : ssb n g q.2.1 with
    | none => rw [h1] at h; exact (sub_none h).elim
    | some j =>
      cases h2 : ssb n g q.2.2.1 with
      | none => rw [h1, h2] at h; exact (sub_none h).elim
      | some i =>
        rw [h1, h2] at h
        simp only at h
        cases h3 : smfe w.2.2.1 q.1 j i w.1.1 with
        | some v =>
          rw [h3] at h
          simp only [sgf_eq] at h
          exact ih hr h
        | none =>
          rw [h3] at h
          simp only [sgf_eq] at h
          cases h29 : Nat.beq q.1 29 with
          | true =>
            rw [h29, cond_true] at h
            obtain ⟨k1, h⟩ := sub_cond h
            rw [sfe_eq] at h
            rw [Bool.and_eq_true] at k1
            have e2 := sin_ok (srel_sK hr) k1.2
            obtain ⟨x, hx⟩ : ∃ x : Int32, x.toInt = sev ρ i := ⟨Int32.ofInt (sev ρ i), Int32.toInt_ofInt_of_le (by omega) (by omega)⟩
            have hr2 : sRel fm rg sX sfI wr scr n0 ρ0 M0 ad0 dC dI cA A s.heap nL lv ((0, 0, i) :: st) w ρ M ad ws H locs ls clv (.int x :: cst) := ⟨hr.1, hr.2.1, hr.2.2.1, hr.2.2.2.1, hr.2.2.2.2.1, hr.2.2.2.2.2.1, hr.2.2.2.2.2.2.1, sv_mkI hx, hr.2.2.2.2.2.2.2⟩
            have hb : ∀ n, sall (fun v => sbe n v.2.2) (((0, 0, i) : SV) :: st) = true → sbe n (sc 0) = true ∧ sbe n i = true := fun n hn => ⟨rfl, sall_ok hn (0, 0, i) List.mem_cons_self⟩
            have hrow : srg rg 29 (sev ρ i).toNat = srg rg 29 0 := hS.2.2.2.2.2.2.2.2 _
            obtain ⟨ρ1, e', w1, a1, a2, a3, a4, a5⟩ := sldD_ok (jn := 0) (i0 := (sev ρ i).toNat) hr2 hb hrow (by rw [sev_c]; rfl) rfl (by omega) rfl h
            obtain ⟨ρ2, g2, w2, b1, b2, b3⟩ := ih (w := w1) (ρ := ρ1) ⟨a2.1, a2.2.1, a2.2.2.1, a2.2.2.2.1, a2.2.2.2.2.1, a2.2.2.2.2.2.1, a2.2.2.2.2.2.2.1, a2.2.2.2.2.2.2.2.2⟩ a3
            exact ⟨ρ2, g2, w2, b1, b2, b3.trans a4⟩
          | false =>
            rw [h29, cond_false] at h
            obtain ⟨k1, h⟩ := sub_cond h
            obtain ⟨k2, h⟩ := sub_cond h
            rw [sfe_eq, sfe_eq] at h
            simp only [Bool.and_eq_true] at k1 k2
            have e1 := sent_ok (srel_sK hr) k1.1
            have e2 := sent_ok (srel_sK hr) k1.2.1
            have ej : (((sev ρ j).toNat : Nat) : Int) = sev ρ j := by omega
            have ei : (((sev ρ i).toNat : Nat) : Int) = sev ρ i := by omega
            obtain ⟨ρ1, e', w1, a1, a2, a3, a4, a5⟩ := sldk_ok2 hr k2 (ssrg ei k1.2.2).1 ej ei h
            obtain ⟨ρ2, g2, w2, b1, b2, b3⟩ := ih a1 a2
            exact ⟨ρ2, g2, w2, b1, b2, b3.trans a3⟩
end SMT
/-! an end of the callee, in the caller's numbers -/
def ssxl (nP base : Nat) (g : SG) : List (Nat × Int) → SE → Option SE
  | [], a => some a
  | q :: r, a => cond (Nat.blt q.1 nP) (match sgk g q.1 with
    | some e => ssxl nP base g r (sadd (smul q.2 e) a)
    | none => none) (ssxl nP base g r (sadd (0, [(base + (q.1 - nP), q.2)]) a))
def ssx (nP base : Nat) (g : SG) (e : SE) : Option SE := ssxl nP base g e.2 (e.1, [])
section SSX
variable {nP base : Nat} {g : SG} {ρ' ρX : Nat → Int} (hg : ∀ t e, t < nP → sgk g t = some e → sev ρ' e = ρX t) (hf : ∀ t, nP ≤ t → ρ' (base + (t - nP)) = ρX t)
theorem ssxl_ok (hg : ∀ t e, t < nP → sgk g t = some e → sev ρ' e = ρX t) (hf : ∀ t, nP ≤ t → ρ' (base + (t - nP)) = ρX t) : ∀ {l : List (Nat × Int)} {a b : SE}, ssxl nP base g l a = some b → sev ρ' b = sev ρ' a + svl ρX l := by
  intro l
  induction l with
  | nil =>
    intro a b h
    cases h
    simp [svl]
  | cons q r ih =>
    intro a b h
    unfold ssxl at h
    cases hc : Nat.blt q.1 nP with
    | true =>
      rw [hc, cond_true] at h
      cases hk : sgk g q.1 with
      | none => rw [hk] at h; cases h
      | some e =>
        rw [hk] at h
        simp only at h
        rw [ih h, sadd_ev, smul_ev, hg q.1 e (zblt hc) hk]
        simp only [svl]
        omega
    | false =>
      rw [hc, cond_false] at h
      have hle : nP ≤ q.1 := by
        rcases Nat.lt_or_ge q.1 nP with z | z
        · rw [Nat.blt_eq.mpr z] at hc; cases hc
        · exact z
      rw [ih h, sadd_ev]
      simp only [svl, sev, hf q.1 hle]
      omega
theorem ssx_ok (hg : ∀ t e, t < nP → sgk g t = some e → sev ρ' e = ρX t) (hf : ∀ t, nP ≤ t → ρ' (base + (t - nP)) = ρX t) {e b : SE} (h : ssx nP base g e = some b) : sev ρ' b = sev ρX e := by
  rw [ssxl_ok hg hf h]
  simp only [sev, svl]
  omega
end SSX
/-- the new numbers' bounds, and what the end knows of the old ones -/
def sxB (nP base : Nat) (g : SG) : SB → SK → (SK → SX) → SX
  | [], K, k => k K
  | q :: r, K, k => cond (Nat.blt q.1 nP) (match sgk g q.1 with
    | some e => cond (sin K e q.2.1 q.2.2) (sxB nP base g r K k) (sge K (saddc e (-q.2.1)) (fun K => sge K (ssub (sc q.2.2) e) (fun K => sxB nP base g r K k)))
    | none => none) (sn (base + (q.1 - nP)) (fun t => sxB nP base g r ((t, q.2.1, q.2.2) :: K.1, K.2) k))
def sxR (nP base : Nat) (g : SG) : List SE → SK → (SK → SX) → SX
  | [], K, k => k K
  | r :: rs, K, k => match ssx nP base g r with
    | some e => sge K e (fun K => sxR nP base g rs K k)
    | none => none
def sxM (nP base : Nat) (g : SG) : List SM → List SM → (List SM → SX) → SX
  | [], ms, k => k ms
  | q :: r, ms, k => sxM nP base g r ms (fun ms => match ssx nP base g q.2.1, ssx nP base g q.2.2.1, ssx nP base g q.2.2.2 with
    | some j, some i, some v => sfe j (fun j => sfe i (fun i => sfe v (fun v => sll (ms.filter (fun s => !(Nat.beq s.1 q.1 && (sbeq s.2.2.1 i && sbeq s.2.1 j)))) (fun ms => k ((q.1, j, i, v) :: ms)))))
    | _, _, _ => none)
def ssxL (nP base : Nat) (g : SG) : List SE → Option (List SE)
  | [] => some []
  | e :: r => match ssx nP base g e, ssxL nP base g r with
    | some a, some b => some (a :: b)
    | _, _ => none
def sxF (nP base : Nat) (g : SG) : List SFt → List SFt → (List SFt → SX) → SX
  | [], fs, k => k fs
  | q :: r, fs, k => match ssxL nP base g q.2 with
    | some ps => sxF nP base g r ((q.1, ps) :: fs) k
    | none => none
def sxV (nP base : Nat) (g : SG) : List SV → Option (List SV)
  | [] => some []
  | v :: r => match ssx nP base g v.2.2, sxV nP base g r with
    | some e, some q => some ((v.1, v.2.1, e) :: q)
    | _, _ => none
section SXO
variable {nP base : Nat} {g : SG} {ρ' ρX : Nat → Int} {xs : List SS}
theorem sxB_ok (hg : ∀ t e, t < nP → sgk g t = some e → sev ρ' e = ρX t) (hf : ∀ t, nP ≤ t → ρ' (base + (t - nP)) = ρX t) : ∀ {B : SB} {K : SK} {k : SK → SX}, (∀ q ∈ B, q.2.1 ≤ ρX q.1 ∧ ρX q.1 ≤ q.2.2) → sK ρ' K → sub (sxB nP base g B K k) xs → ∃ K', sK ρ' K' ∧ sub (k K') xs := by
  intro B
  induction B with
  | nil => exact fun _ hK h => ⟨_, hK, h⟩
  | cons q r ih =>
    intro K k hB hK h
    have hq := hB q List.mem_cons_self
    have hr := fun z hz => hB z (List.mem_cons_of_mem _ hz)
    unfold sxB at h
    cases hc : Nat.blt q.1 nP with
    | true =>
      rw [hc, cond_true] at h
      cases hk : sgk g q.1 with
      | none => rw [hk] at h; exact (sub_none h).elim
      | some e =>
        rw [hk] at h
        simp only at h
        have e1 := hg q.1 e (zblt hc) hk
        cases hs : sin K e q.2.1 q.2.2 with
        | true => rw [hs, cond_true] at h; exact ih hr hK h
        | false =>
          rw [hs, cond_false] at h
          obtain ⟨K1, h1, h2⟩ := sge_ok hK h (by rw [saddc_ev]; omega)
          obtain ⟨K2, h3, h4⟩ := sge_ok h1 h2 (by rw [ssub_ev, sev_c]; omega)
          exact ih hr h3 h4
    | false =>
      rw [hc, cond_false, sn_eq] at h
      have hle : nP ≤ q.1 := by
        rcases Nat.lt_or_ge q.1 nP with z | z
        · rw [Nat.blt_eq.mpr z] at hc; cases hc
        · exact z
      refine ih (K := ((base + (q.1 - nP), q.2.1, q.2.2) :: K.1, K.2)) hr ⟨fun z hz => ?_, hK.2⟩ h
      rcases List.mem_cons.mp hz with rfl | hz
      · show q.2.1 ≤ ρ' (base + (q.1 - nP)) ∧ ρ' (base + (q.1 - nP)) ≤ q.2.2
        rw [hf q.1 hle]
        exact hq
      · exact hK.1 z hz
theorem sxR_ok (hg : ∀ t e, t < nP → sgk g t = some e → sev ρ' e = ρX t) (hf : ∀ t, nP ≤ t → ρ' (base + (t - nP)) = ρX t) : ∀ {rs : List SE} {K : SK} {k : SK → SX}, (∀ r ∈ rs, 0 ≤ sev ρX r) → sK ρ' K → sub (sxR nP base g rs K k) xs → ∃ K', sK ρ' K' ∧ sub (k K') xs := by
  intro rs
  induction rs with
  | nil => exact fun _ hK h => ⟨_, hK, h⟩
  | cons q r ih =>
    intro K k hB hK h
    have hq := hB q List.mem_cons_self
    unfold sxR at h
    cases hk : ssx nP base g q with
    | none => rw [hk] at h; exact (sub_none h).elim
    | some e =>
      rw [hk] at h
      obtain ⟨K1, h1, h2⟩ := sge_ok hK h (by rw [ssx_ok hg hf hk]; exact hq)
      exact ih (fun z hz => hB z (List.mem_cons_of_mem _ hz)) h1 h2
theorem sxM_ok {M : SMem} (hg : ∀ t e, t < nP → sgk g t = some e → sev ρ' e = ρX t) (hf : ∀ t, nP ≤ t → ρ' (base + (t - nP)) = ρX t) : ∀ {qs ms : List SM} {k : List SM → SX}, (∀ q ∈ qs, ∃ j i : Nat, (j : Int) = sev ρX q.2.1 ∧ (i : Int) = sev ρX q.2.2.1 ∧ M q.1 j i = sev ρX q.2.2.2) → (∀ q ∈ ms, ∃ j i : Nat, (j : Int) = sev ρ' q.2.1 ∧ (i : Int) = sev ρ' q.2.2.1 ∧ M q.1 j i = sev ρ' q.2.2.2) → sub (sxM nP base g qs ms k) xs → ∃ ms', (∀ q ∈ ms', ∃ j i : Nat, (j : Int) = sev ρ' q.2.1 ∧ (i : Int) = sev ρ' q.2.2.1 ∧ M q.1 j i = sev ρ' q.2.2.2) ∧ sub (k ms') xs := by
  intro qs
  induction qs with
  | nil => exact fun _ hm h => ⟨_, hm, h⟩
  | cons q r ih =>
    intro ms k hq hm h
    unfold sxM at h
    obtain ⟨ms1, h1, h2⟩ := ih (fun z hz => hq z (List.mem_cons_of_mem _ hz)) hm h
    cases k1 : ssx nP base g q.2.1 with
    | none => rw [k1] at h2; exact (sub_none h2).elim
    | some j =>
      cases k2 : ssx nP base g q.2.2.1 with
      | none => rw [k1, k2] at h2; exact (sub_none h2).elim
      | some i =>
        cases k3 : ssx nP base g q.2.2.2 with
        | none => rw [k1, k2, k3] at h2; exact (sub_none h2).elim
        | some v =>
          rw [k1, k2, k3] at h2
          simp only [sfe_eq, sll_eq] at h2
          refine ⟨_, fun z hz => ?_, h2⟩
          rcases List.mem_cons.mp hz with rfl | hz
          · obtain ⟨j0, i0, e1, e2, e3⟩ := hq q List.mem_cons_self
            exact ⟨j0, i0, by rw [ssx_ok hg hf k1]; exact e1, by rw [ssx_ok hg hf k2]; exact e2, by rw [ssx_ok hg hf k3]; exact e3⟩
          · exact h1 z (List.mem_filter.mp hz).1
theorem ssxL_ok (hg : ∀ t e, t < nP → sgk g t = some e → sev ρ' e = ρX t) (hf : ∀ t, nP ≤ t → ρ' (base + (t - nP)) = ρX t) : ∀ {l b : List SE}, ssxL nP base g l = some b → b.map (sev ρ') = l.map (sev ρX) := by
  intro l
  induction l with
  | nil =>
    intro b h
    cases h
    rfl
  | cons e r ih =>
    intro b h
    unfold ssxL at h
    cases h1 : ssx nP base g e with
    | none => rw [h1] at h; cases h
    | some a =>
      cases h2 : ssxL nP base g r with
      | none => rw [h1, h2] at h; cases h
      | some c =>
        rw [h1, h2] at h
        cases h
        rw [List.map_cons, List.map_cons, ssx_ok hg hf h1, ih h2]
theorem sxF_ok {M : SMem} (hg : ∀ t e, t < nP → sgk g t = some e → sev ρ' e = ρX t) (hf : ∀ t, nP ≤ t → ρ' (base + (t - nP)) = ρX t) : ∀ {qs fs : List SFt} {k : List SFt → SX}, (∀ q ∈ qs, sfI q.1 (q.2.map (sev ρX)) M) → (∀ q ∈ fs, sfI q.1 (q.2.map (sev ρ')) M) → sub (sxF nP base g qs fs k) xs → ∃ fs', (∀ q ∈ fs', sfI q.1 (q.2.map (sev ρ')) M) ∧ sub (k fs') xs := by
  intro qs
  induction qs with
  | nil => exact fun _ hm h => ⟨_, hm, h⟩
  | cons q r ih =>
    intro fs k hq hm h
    unfold sxF at h
    cases k1 : ssxL nP base g q.2 with
    | none => rw [k1] at h; exact (sub_none h).elim
    | some ps =>
      rw [k1] at h
      refine ih (fun z hz => hq z (List.mem_cons_of_mem _ hz)) (fun z hz => ?_) h
      rcases List.mem_cons.mp hz with rfl | hz
      · show sfI q.1 (ps.map (sev ρ')) M
        rw [ssxL_ok hg hf k1]
        exact hq q List.mem_cons_self
      · exact hm z hz
theorem sxV_ok {fm : List SF} {scr : Nat} {ad : SAd} (hg : ∀ t e, t < nP → sgk g t = some e → sev ρ' e = ρX t) (hf : ∀ t, nP ≤ t → ρ' (base + (t - nP)) = ρX t) : ∀ {vs b : List SV} {cs : List Value}, sxV nP base g vs = some b → svs fm scr ρX ad vs cs → svs fm scr ρ' ad b cs := by
  intro vs
  induction vs with
  | nil =>
    intro b cs h hs
    cases h
    cases svs_nil hs
    trivial
  | cons v r ih =>
    intro b cs h hs
    unfold sxV at h
    cases h1 : ssx nP base g v.2.2 with
    | none => rw [h1] at h; cases h
    | some e =>
      cases h2 : sxV nP base g r with
      | none => rw [h1, h2] at h; cases h
      | some q =>
        rw [h1, h2] at h
        cases h
        obtain ⟨c, cr, rfl, h3, h4⟩ := svs_cons hs
        refine ⟨?_, ih h2 h4⟩
        unfold sv at h3 ⊢
        simp only
        rw [ssx_ok hg hf h1]
        exact h3
end SXO
