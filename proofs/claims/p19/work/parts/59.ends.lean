/-! a call by contract -/
def sxkeep (rg : SRg) (md : List (Nat × Nat)) (q : SM) : Bool := cond (sisc q.2.2.1 || sisr rg q.1) (!(smem2 q.1 (scl rg q.1 (cond (sisc q.2.2.1) q.2.2.1.1.toNat 0)) md)) false
def sxfk (K : SK) (md : List (Nat × Nat)) (wlS : List (Nat × SE)) (q : SFt) : Bool := sall (fun d => cond (smem2 d.1 0 md) (sany (fun b => Nat.beq b.1 d.1 && sent K (ssub b.2 d.2.2)) wlS) true) (sfde q.1 q.2)
def sxit (rg : SRg) (nP bc bs : Nat) (g : SG) (md : List (Nat × Nat)) (wlS : List (Nat × SE)) (w : SW) (X : List SV × SW) (k : List SV → SW → SX) : SX :=
  sxB nP w.2.1 g X.2.2.2.1.1 w.2.2.1 (fun K => sxR nP w.2.1 g X.2.2.2.1.2 K (fun K => sll (w.1.1.filter (sxkeep rg md)) (fun ms => sxM nP w.2.1 g X.2.1.1 ms (fun ms => sll (w.1.2.filter (sxfk w.2.2.1 md wlS)) (fun fs => sxF nP w.2.1 g X.2.1.2 fs (fun fs => match sxV nP w.2.1 g X.1 with
    | some vs => sn (w.2.1 + (X.2.2.1 - nP)) (fun n' => sn (w.2.2.2.1 + bc) (fun nc => sn (w.2.2.2.2 + bs) (fun ns => k vs ((ms, fs), n', K, nc, ns))))
    | none => none))))))
def sxits (rg : SRg) (nP bc bs : Nat) (g : SG) (md : List (Nat × Nat)) (wlS : List (Nat × SE)) (w : SW) (k : List SV → SW → SX) : List (List SV × SW) → SX
  | [] => some []
  | X :: r => sapp (sxit rg nP bc bs g md wlS w X k) (sxits rg nP bc bs g md wlS w k r)
theorem sxits_ok {rg : SRg} {nP bc bs : Nat} {g : SG} {md : List (Nat × Nat)} {wlS : List (Nat × SE)} {w : SW} {k : List SV → SW → SX} {xs : List SS} {X : List SV × SW} : ∀ {l : List (List SV × SW)}, X ∈ l → sub (sxits rg nP bc bs g md wlS w k l) xs → sub (sxit rg nP bc bs g md wlS w X k) xs := by
  intro l
  induction l with
  | nil => intro h; cases h
  | cons Y r ih =>
    intro h hs
    obtain ⟨h1, h2⟩ := sub_app hs
    rcases List.mem_cons.mp h with rfl | h
    · exact h1
    · exact ih h h2
def sPO (fm : List SF) (rg : SRg) (cA : Nat → ClassId) (scr : Nat) (C : SC) (ρ0 : Nat → Int) (M0 : SMem) (ad0 : SAd) (r : List Value) (ws' : va_W) : Prop := ∃ X ∈ C.2.2.2.2.2.2.1, ∃ (ρ' : Nat → Int) (M' : SMem) (ad' : SAd), (∀ t, t < C.2.2.2.1.2.1 → ρ' t = ρ0 t) ∧ sK ρ' X.2.2.2.1 ∧ (sH fm ad' M' cA ws' ∧ (sI rg M' ∧ sX M') ∧ smo sfI ρ' M' X.2.1 ∧ sfr rg M0 M' ad0 ad' (C.2.2.2.2.1, C.2.2.2.2.2.1.map (fun q => (q.1, sev ρ0 q.2)))) ∧ svs fm scr ρ' ad' X.1 r
def sCok (zm : List ZMe) (fm : List SF) (rg : SRg) (EX : SEx) (l : Launch) (dC : Nat → ClassId) (dI : Nat → Nat → Nat) (cA : Nat → ClassId) (scr : Nat) (C : SC) : Prop := ∀ me, zm[C.2.1]? = some me → ∀ (ρ0 : Nat → Int) (M0 : SMem) (ad0 : SAd) (ws : va_W) (cas : List Value), sK ρ0 C.2.2.2.1.2.2.1 → sH fm ad0 M0 cA ws → sI rg M0 → sX M0 → smo sfI ρ0 M0 C.2.2.2.1.1 → svs fm scr ρ0 ad0 C.2.2.1 cas → sRun C.2.2.2.2.2.2.2 me EX l dC dI cA ws cas (sPO fm rg cA scr C ρ0 M0 ad0)
/-- what facts hang on is of the first sort of its kind -/
def sDP (rg : SRg) : Prop := ∀ (k : Nat) (ps : List Int), ∀ q ∈ sfdv k ps, ∀ i : Nat, q.2.1 ≤ (i : Int) → (i : Int) < q.2.2 → scl rg q.1 i = 0
def swlS (g : SG) : List (Nat × SE) → Option (List (Nat × SE))
  | [] => some []
  | q :: r => match ssb 0 g q.2, swlS g r with
    | some e, some t => some ((q.1, e) :: t)
    | _, _ => none
theorem swlS_ok {g : SG} {ρ : Nat → Int} : ∀ {wl t : List (Nat × SE)}, swlS g wl = some t → ∀ b ∈ t, ∃ e, (b.1, e) ∈ wl ∧ sev ρ b.2 = sev (srh 0 g ρ) e := by
  intro wl
  induction wl with
  | nil =>
    intro t h b hb
    cases h
    cases hb
  | cons q r ih =>
    intro t h b hb
    unfold swlS at h
    cases h1 : ssb 0 g q.2 with
    | none => rw [h1] at h; cases h
    | some e =>
      cases h2 : swlS g r with
      | none => rw [h1, h2] at h; cases h
      | some t' =>
        rw [h1, h2] at h
        cases h
        rcases List.mem_cons.mp hb with rfl | hb
        · exact ⟨q.2, List.mem_cons_self, ssb_ok h1⟩
        · obtain ⟨e', k1, k2⟩ := ih h2 b hb
          exact ⟨e', List.mem_cons_of_mem _ k1, k2⟩
def sno3 (vs : List SV) : Bool := sall (fun v => !(Nat.beq v.1 3)) vs
theorem svs_scr {fm : List SF} {scr scr' : Nat} {ρ : Nat → Int} {ad : SAd} {vs : List SV} {cs : List Value} (h : sno3 vs = true) (hs : svs fm scr ρ ad vs cs) : svs fm scr' ρ ad vs cs := by
  induction vs generalizing cs with
  | nil =>
    cases svs_nil hs
    trivial
  | cons v vs ih =>
    obtain ⟨c, r, rfl, h1, h2⟩ := svs_cons hs
    have h3 := sall_ok h v List.mem_cons_self
    refine ⟨?_, ih (by unfold sno3 at h ⊢; unfold sall at h; exact (bcond h).2) h2⟩
    rcases h1 with h1 | h1 | h1 | ⟨h1, -⟩
    · exact Or.inl h1
    · exact Or.inr (Or.inl h1)
    · exact Or.inr (Or.inr (Or.inl h1))
    · rw [h1] at h3; cases h3
def snad (md : List (Nat × Nat)) (v : SV) : Bool := !(Nat.beq v.1 2 && smem2 v.2.1 999999 md)
theorem snot {b : Bool} (h : (!b) = true) : b = false := by
  cases b with
  | true => cases h
  | false => rfl
theorem smem2_no {a b : Nat} {l : List (Nat × Nat)} (h : smem2 a b l = false) : (a, b) ∉ l := by
  intro hm
  induction l with
  | nil => cases hm
  | cons q r ih =>
    unfold smem2 at h
    rcases List.mem_cons.mp hm with e | hm
    · subst e
      simp at h
    · cases hc : (Nat.beq q.1 a && Nat.beq q.2 b) with
      | true => rw [hc] at h; cases h
      | false =>
        rw [hc, cond_false] at h
        exact ih h hm
theorem sv_ad {fm : List SF} {scr : Nat} {ρ : Nat → Int} {ad ad' : SAd} {md : List (Nat × Nat)} (ha : ∀ f j, (f, 999999) ∉ md → ad' f j = ad f j) {v : SV} {c : Value} (h : snad md v = true) (hs : sv fm scr ρ ad v c) : sv fm scr ρ ad' v c := by
  rcases hs with h1 | h1 | ⟨h1, j, en, e1, e2, e3, e4⟩ | h1
  · exact Or.inl h1
  · exact Or.inr (Or.inl h1)
  · refine Or.inr (Or.inr (Or.inl ⟨h1, j, en, e1, e2, e3, ?_⟩))
    unfold snad at h
    have h2 := snot h
    rw [h1, show Nat.beq 2 2 = true from rfl, Bool.true_and] at h2
    rw [e4, ha _ _ (smem2_no h2)]
  · exact Or.inr (Or.inr (Or.inr h1))
section SXI
variable {p : Program} {l : Launch} {e : Env} {R : Room} {s : State} {m : MethodId} {args : Array Value} {below : List Frame} {meth : Method} {c : Code} {Q : State → Prop} {dC : Nat → ClassId} {dI : Nat → Nat → Nat} {cA : Nat → ClassId} {A : Nat → Prop} {nL : Nat} {fm : List SF} {rg : SRg} {wr : SWr} {scr n0 : Nat} {ρ0 : Nat → Int} {M0 : SMem} {ad0 : SAd} {nc0 ns0 : Nat} {cc : ByteArray} {pc : Nat} {lv : SL} {st : List SV} {w : SW} {ret : SRt} {xs : List SS} {own : String}
variable {md mdc : List (Nat × Nat)} {wl wlS : List (Nat × SE)} {ρ ρX : Nat → Int} {M M' : SMem} {ad ad' : SAd} {ws ws' : va_W} {H H1 : Heap} {locs locs1 : List Loc} {ls : Array Slot} {clv : ZL} {cst crest r : List Value} {nP bc bs : Nat} {g : SG} {X : List SV × SW} {rest : List SV} {k : List SV → SW → SX}
theorem sfr_trans {wrC : SWr} (h1 : sfr rg M0 M ad0 ad wr) (h2 : sfr rg M M' ad ad' wrC) (hs : ∀ q ∈ wrC.1, q ∈ wr.1) (hb : ∀ q ∈ wr.2, (∀ i, scl rg q.1 i = 0) → True) (hw : ∀ q ∈ wr.2, ∀ j i : Nat, (i : Int) < q.2 → M' q.1 j i = M q.1 j i) : sfr rg M0 M' ad0 ad' wr := by
  refine ⟨fun f j i hn => ?_, fun f j hn => ?_, fun q hq j i hi => ?_⟩
  · rw [h2.1 f j i (fun z => hn (hs _ z)), h1.1 f j i hn]
  · rw [h2.2.1 f j (fun z => hn (hs _ z)), h1.2.1 f j hn]
  · rw [hw q hq j i hi, h1.2.2 q hq j i hi]
theorem sxit_ok (hDP : sDP rg) (hr : sRel fm rg sX sfI wr scr n0 ρ0 M0 ad0 dC dI cA A s.heap nL lv st w ρ M ad ws H locs ls clv cst) (hS : sbS w.2.1 lv st w = true) (hgb : sall (fun q => sbe w.2.1 q.2) g = true) (hrest : svs fm scr ρ ad rest crest) (hrs : ∀ v ∈ rest, v ∈ st)
    (hX1 : ∀ t, t < nP → ρX t = srh 0 g ρ t) (hX2 : sK ρX X.2.2.2.1) (hX3 : sH fm ad' M' cA ws') (hX4 : sI rg M' ∧ sX M') (hX5 : smo sfI ρX M' X.2.1) (hX6 : sfr rg M M' ad ad' (md, wl.map (fun q => (q.1, sev (srh 0 g ρ) q.2)))) (hX7 : svs fm scr ρX ad' X.1 r)
    (hwl : swlS g wl = some wlS) (hmd : ∀ q ∈ md, q ∈ wr.1) (hww : ∀ q ∈ wr.2, ∀ j i : Nat, (i : Int) < q.2 → M' q.1 j i = M q.1 j i) (hadl : ∀ q ∈ lv, snad md q.2 = true) (hads : ∀ v ∈ rest, snad md v = true)
    (h1 : va_P (dC, dI) vwCl ws' H1) (h2 : va_D A ws') (h3 : va_S A s.heap H1 locs1)
    (h : sub (sxit rg nP bc bs g md wlS w X k) xs) : ∃ (ρ' : Nat → Int) (vs : List SV) (w' : SW), sub (k vs w') xs ∧ w'.2.2.2 = (w.2.2.2.1 + bc, w.2.2.2.2 + bs) ∧ sRel fm rg sX sfI wr scr n0 ρ0 M0 ad0 dC dI cA A s.heap nL lv (vs ++ rest) w' ρ' M' ad' ws' H1 locs1 ls clv (r ++ crest) := by
  obtain ⟨⟨ag, hn, hK⟩, ⟨r1, hI, hmo, hfr⟩, q1, q2, q3, q4, q5, q6⟩ := hr
  have hS2 := hS
  simp only [sbS, sbW, Bool.and_eq_true] at hS2
  obtain ⟨b1, b2, b3, b4, b5⟩ := hS2
  generalize hbase : w.2.1 = base at *
  have ha : ∀ t, t < base → (fun t => if t < base then ρ t else ρX (nP + (t - base))) t = ρ t := fun t ht => if_pos ht
  have hg : ∀ t e, t < nP → sgk g t = some e → sev (fun t => if t < base then ρ t else ρX (nP + (t - base))) e = ρX t := by
    intro t e ht hk
    have hbe : sbe base e = true := by
      have : ∀ {g : SG}, sall (fun q => sbe base q.2) g = true → sgk g t = some e → sbe base e = true := by
        intro g
        induction g with
        | nil => intro _ h; cases h
        | cons q r ih =>
          intro h1 h2
          unfold sgk at h2
          cases hc : Nat.beq q.1 t with
          | true =>
            rw [hc, cond_true] at h2
            cases h2
            exact sall_ok h1 q List.mem_cons_self
          | false =>
            rw [hc, cond_false] at h2
            unfold sall at h1
            exact ih (bcond h1).2 h2
      exact this hgb hk
    rw [sbe_ev ha hbe, hX1 t ht]
    unfold srh
    rw [if_neg (Nat.not_lt_zero t), hk]
  have hf : ∀ t, nP ≤ t → (fun t => if t < base then ρ t else ρX (nP + (t - base))) (base + (t - nP)) = ρX t := by
    intro t ht
    show (if base + (t - nP) < base then _ else _) = _
    rw [if_neg (by omega)]
    congr 1
    omega
  generalize hρ : (fun t => if t < base then ρ t else ρX (nP + (t - base))) = ρ' at ha hg hf
  unfold sxit at h
  rw [hbase] at h
  obtain ⟨K1, k1, h⟩ := sxB_ok hg hf hX2.1 (sK_ag ha b5 hK) h
  obtain ⟨K2, k2, h⟩ := sxR_ok hg hf hX2.2 k1 h
  rw [sll_eq] at h
  obtain ⟨ms2, k3, h⟩ := sxM_ok (M := M') hg hf hX5.1 (fun q hq => by
    obtain ⟨z1, z2⟩ := List.mem_filter.mp hq
    obtain ⟨j0, i0, e1, e2, e3⟩ := (smo_ag ha b3 b4 hmo).1 q z1
    refine ⟨j0, i0, e1, e2, ?_⟩
    unfold sxkeep at z2
    obtain ⟨z3, z4⟩ := bcond z2
    rw [← e3]
    refine hX6.1 _ _ _ ?_
    rw [(ssrg e2 z3).2]
    exact smem2_no (snot z4)) h
  rw [sll_eq] at h
  obtain ⟨fs2, k4, h⟩ := sxF_ok (M := M') hg hf hX5.2 (fun q hq => by
    obtain ⟨z1, z2⟩ := List.mem_filter.mp hq
    refine sfI_congr (fun d hd j i l1 l2 => ?_) ((smo_ag ha b3 b4 hmo).2 q z1)
    have hsc := hDP _ _ d hd i l1 l2
    rw [smap_ag ha (sall_ok b4 q z1)] at hd
    rw [← sfde_ev ρ q.1 q.2] at hd
    obtain ⟨dd, hd1, rfl⟩ := List.mem_map.mp hd
    have h3 := sall_ok z2 dd hd1
    simp only at h3 l1 l2 hsc ⊢
    cases hc : smem2 dd.1 0 md with
    | false => exact hX6.1 _ _ _ (by rw [hsc]; exact smem2_no hc)
    | true =>
      rw [hc, cond_true] at h3
      obtain ⟨b, m1, m2⟩ := sany_ok h3
      rw [Bool.and_eq_true] at m2
      obtain ⟨e, m3, m4⟩ := swlS_ok (ρ := ρ) hwl b m1
      have m5 := sent_ok hK m2.2
      rw [ssub_ev, m4] at m5
      have m6 := Nat.beq_eq.mp m2.1
      rw [← m6]
      exact hX6.2.2 (b.1, sev (srh 0 g ρ) e) (List.mem_map.mpr ⟨(b.1, e), m3, rfl⟩) j i (by simp only; omega)) h
  cases hv : sxV nP base g X.1 with
  | none => rw [hv] at h; exact (sub_none h).elim
  | some vs =>
    rw [hv] at h
    simp only [sn_eq] at h
    refine ⟨ρ', vs, _, h, rfl, ⟨fun t ht => (ha t (Nat.lt_of_lt_of_le ht hn)).trans (ag t ht), Nat.le_trans hn (Nat.le_add_right _ _), k2⟩, ⟨hX3, hX4, ⟨k3, k4⟩, sfr_trans hfr hX6 hmd (fun _ _ _ => trivial) hww⟩, h1, h2, h3, q4, ?_, ?_⟩
    · have hl := sls_ag ha b1 q5
      exact sls_mono (fun v => snad md v) (fun v c z1 z2 => sv_ad hX6.2.1 z1 z2) hadl hl
    · refine svs_app (sxV_ok hg hf hv hX7) ?_
      have hb2 : ∀ v ∈ rest, sbe base v.2.2 = true := fun v hv => sall_ok b2 v (hrs v hv)
      have hl := svs_mono (fun v => sbe base v.2.2) (fun v c z1 z2 => sv_ag ha z1 z2) hb2 hrest
      exact svs_mono (fun v => snad md v) (fun v c z1 z2 => sv_ad hX6.2.1 z1 z2) hads hl
end SXI
