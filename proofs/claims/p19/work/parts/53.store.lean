/-! numbers written -/
def sWR (md : List (Nat × Nat)) (wl : List (Nat × SE)) (n0 : Nat) (ρ0 : Nat → Int) (wr : SWr) : Prop := wr.1 = md ∧ ∀ q ∈ wr.2, ∃ e, (q.1, e) ∈ wl ∧ sbe n0 e = true ∧ q.2 = sev ρ0 e
def smem2 (a b : Nat) : List (Nat × Nat) → Bool
  | [] => false
  | q :: r => cond (Nat.beq q.1 a && Nat.beq q.2 b) true (smem2 a b r)
theorem smem2_ok {a b : Nat} : ∀ {l : List (Nat × Nat)}, smem2 a b l = true → (a, b) ∈ l := by
  intro l
  induction l with
  | nil => intro h; cases h
  | cons q r ih =>
    intro h
    unfold smem2 at h
    cases hc : (Nat.beq q.1 a && Nat.beq q.2 b) with
    | true =>
      rw [Bool.and_eq_true] at hc
      have e : (a, b) = q := Prod.ext (Nat.beq_eq.mp hc.1).symm (Nat.beq_eq.mp hc.2).symm
      rw [e]
      exact List.mem_cons_self
    | false =>
      rw [hc, cond_false] at h
      exact List.mem_cons_of_mem _ (ih h)
def srgin (rg : SRg) (f cn : Nat) (K : SK) (v : SE) : Bool := match srg rg f cn with
  | some q => sin K v q.1 q.2
  | none => false
def swlok (wl : List (Nat × SE)) (K : SK) (f : Nat) (i : SE) : Bool := sall (fun q => cond (Nat.beq q.1 f) (sent K (ssub i q.2)) true) wl
def sstx (rg : SRg) (md : List (Nat × Nat)) (wl : List (Nat × SE)) (f cn : Nat) (j i v : SE) (w : SW) (k : SW → SX) : SX := cond (srgin rg f cn w.2.2.1 v && (smem2 f (scl rg f cn) md && swlok wl w.2.2.1 f i)) (sckx w f i v (sll (w.1.1.filter (smk w.2.2.1 f j i)) (fun ms => sll (w.1.2.flatMap (sfst w.2.2.1 f i)) (fun fs => k (((f, j, i, v) :: ms, fs), w.2))))) none
section SSO
variable {p : Program} {l : Launch} {e : Env} {R : Room} {s : State} {m : MethodId} {args : Array Value} {below : List Frame} {meth : Method} {c : Code} {Q : State → Prop} {dC : Nat → ClassId} {dI : Nat → Nat → Nat} {cA : Nat → ClassId} {A : Nat → Prop} {nL : Nat} {fm : List SF} {rg : SRg} {wr : SWr} {scr n0 : Nat} {ρ0 : Nat → Int} {M0 : SMem} {ad0 : SAd} {nc0 ns0 : Nat} {cc : ByteArray} {pc : Nat} {lv : SL} {st : List SV} {w : SW} {ret : SRt} {xs : List SS} {own : String}
variable {md : List (Nat × Nat)} {wl : List (Nat × SE)} {ρ : Nat → Int} {M : SMem} {ad : SAd} {ws ws' : va_W} {H H1 : Heap} {locs locs1 : List Loc} {ls : Array Slot} {clv : ZL} {cst : List Value} {f cn jn i0 : Nat} {j i v : SE} {k : SW → SX} {en : SF}
theorem sstx_ok (hS : sST fm rg) (hwr : sWR md wl n0 ρ0 wr) (hr : sRel fm rg sX sfI wr scr n0 ρ0 M0 ad0 dC dI cA A s.heap nL lv st w ρ M ad ws H locs ls clv cst) (hen : fm[f]? = some en) (hjn : jn < en.2.2.1) (hcn : srg rg f i0 = srg rg f cn ∧ scl rg f i0 = scl rg f cn) (hj : (jn : Int) = sev ρ j) (hi : (i0 : Int) = sev ρ i) (h : sub (sstx rg md wl f cn j i v w k) xs) {wv : va_E} (hse : sHe ad (supd M f jn i0 (sev ρ v)) cA f jn en wv) (h1 : va_P (dC, dI) vwCl (ws.set (spos en jn) (ad f jn, wv)) H1) (h2 : va_D A (ws.set (spos en jn) (ad f jn, wv))) (h3 : va_S A s.heap H1 locs1) : ∃ w', sub (k w') xs ∧ w'.2.2.2 = w.2.2.2 ∧ sRel fm rg sX sfI wr scr n0 ρ0 M0 ad0 dC dI cA A s.heap nL lv st w' ρ (supd M f jn i0 (sev ρ v)) ad (ws.set (spos en jn) (ad f jn, wv)) H1 locs1 ls clv cst := by
  unfold sstx at h
  obtain ⟨h0, h⟩ := sub_cond h
  simp only [Bool.and_eq_true] at h0
  obtain ⟨c1, c2, c3⟩ := h0
  obtain ⟨⟨ag, hn, hK⟩, ⟨r1, ⟨hI, hX⟩, hmo, hfr⟩, r2, r3, r4, rr⟩ := hr
  obtain ⟨s1, s2, s3, s4, s5, s6, s7, s8, s9⟩ := hS
  obtain ⟨hX2, h⟩ := sckx_ok (jn := jn) hK hmo hX (fun q => by
    have h9 := s7 f (by rcases q with rfl | rfl | rfl <;> simp) en hen
    omega) hi h
  rw [sll_eq, sll_eq] at h
  refine ⟨_, h, rfl, ⟨ag, hn, hK⟩, ⟨sH_set s1 s2 r1 hen hjn hse, ⟨sI_put hI (fun q hq => ?_) (fun q hq => by rw [s3] at hq; cases hq), hX2⟩, ⟨fun q hq => ?_, fun q hq => ?_⟩, sfr_put hfr ?_ (fun q hq hqf => ?_)⟩, h1, h2, h3, rr.1, rr.2.1, rr.2.2⟩
  · unfold srgin at c1
    rw [hcn.1] at hq
    rw [hq] at c1
    exact sin_ok hK c1
  · rcases List.mem_cons.mp hq with rfl | hq
    · exact ⟨jn, i0, hj, hi, supd_at _ _ _ _ _⟩
    · obtain ⟨q1, q2⟩ := List.mem_filter.mp hq
      exact smk_ok hK q2 hj hi (hmo.1 q q1)
  · obtain ⟨q0, q1, q2⟩ := List.mem_flatMap.mp hq
    exact sfst_ok hK hi (hmo.2 q0 q1) q q2
  · rw [hwr.1, hcn.2]
    exact smem2_ok c2
  · obtain ⟨e, e1, e2, e3⟩ := hwr.2 q hq
    have h9 := sall_ok c3 _ e1
    simp only at h9
    rw [Nat.beq_eq.mpr hqf, cond_true] at h9
    have h10 := sent_ok hK h9
    rw [ssub_ev, sbe_ev (ρ := ρ0) (ρ' := ρ) ag e2] at h10
    omega
theorem snarb {x : Int32} (h0 : 0 ≤ x.toInt) (h1 : x.toInt ≤ 1) : vp_nar .boolean x = x := by
  have h2 : x = 0 ∨ x = 1 := by
    by_cases h : x.toInt = 0
    · exact Or.inl (Int32.toInt_inj.mp h)
    · exact Or.inr (Int32.toInt_inj.mp (show x.toInt = 1 by omega))
  rcases h2 with rfl | rfl <;> rfl
theorem snarc {x : Int32} (h0 : 0 ≤ x.toInt) (h1 : x.toInt ≤ 65535) : vp_nar .char x = x := by
  have h2 : (x.toUInt32 % 65536).toInt32.toInt = x.toInt := (s2c x).2.2 ⟨h0, h1⟩
  exact Int32.toInt_inj.mp h2
end SSO
noncomputable def sx_ast (fm : List SF) (rg : SRg) (md : List (Nat × Nat)) (wl : List (Nat × SE)) (t tc : Nat) (pc : Nat) (lv : SL) (st : List SV) (w : SW) (ret : SRt) : SX := match st with
  | x :: i :: v :: st' => cond (Nat.beq x.1 tc && (Nat.beq i.1 0 && (Nat.beq v.1 2 && skd t w.2.2.1 x.2.2))) (srow fm v.2.1 (fun _ a => cond (Nat.beq a.1 t) (sidx rg a v.2.2 i.2.2 lv st w (fun w => sstx rg md wl v.2.1 0 v.2.2 i.2.2 x.2.2 w (fun w => ret (pc + 1) lv st' w))) none)) none
  | _ => none
noncomputable def sx_putf (fm : List SF) (rg : SRg) (md : List (Nat × Nat)) (wl : List (Nat × SE)) (ci fi kd : Nat) (pc : Nat) (lv : SL) (st : List SV) (w : SW) (ret : SRt) : SX := match st with
  | x :: v :: st' => cond (Nat.beq x.1 0 && (Nat.beq v.1 2 && (Nat.blt kd 2 && skd kd w.2.2.1 x.2.2))) (sobj fm v.2.1 (fun _ o => cond (Nat.beq o.1 ci) (match zget o.2 fi with
    | some sp => cond (Nat.beq sp.1 0) (sstx rg md wl v.2.1 fi v.2.2 (sc (fi : Int)) x.2.2 w (fun w => ret (pc + 3) lv st' w)) none
    | none => none) none)) none
  | _ => none
section SSP
variable {p : Program} {l : Launch} {e : Env} {R : Room} {s : State} {m : MethodId} {args : Array Value} {below : List Frame} {meth : Method} {c : Code} {Q : State → Prop} {dC : Nat → ClassId} {dI : Nat → Nat → Nat} {cA : Nat → ClassId} {A : Nat → Prop} {nL : Nat} {fm : List SF} {rg : SRg} {wr : SWr} {scr n0 : Nat} {ρ0 : Nat → Int} {M0 : SMem} {ad0 : SAd} {nc0 ns0 : Nat} {cc : ByteArray} {pc : Nat} {lv : SL} {st : List SV} {w : SW} {ret : SRt} {xs : List SS} {own : String}
variable {md : List (Nat × Nat)} {wl : List (Nat × SE)}
theorem ss_ast {t tc : Nat} (htc : tc < 2) (hS : sST fm rg) (hwr : sWR md wl n0 ρ0 wr) (hrow : ∀ (f jn : Nat) (en : SF) (a : Nat × Nat × Nat × Nat) (wv : va_E) (iv : Int32) (cx : Value) (K : SK) (ρ : Nat → Int) (x : SE) (M : SMem) (ad : SAd) (ws : va_W) (H : Heap) (locs : List Loc) (ls : Array Slot) (cst : List Value), a.1 = t → en.2.2.2 = .inr a → sK ρ K → skd t K x = true → sfit tc cx (sev ρ x) → va_P (dC, dI) vwCl ws H → va_D A ws → va_S A s.heap H locs → ws[spos en jn]? = some (ad f jn, wv) → sHa ad M cA f jn a wv → slen (supd M f jn iv.toNatClampNeg (sev ρ x)) jn a = slen M jn a → vp_in iv (slen M jn a) → ∃ wv', sHe ad (supd M f jn iv.toNatClampNeg (sev ρ x)) cA f jn en wv' ∧ ((∀ (H1 : Heap) (locs1 : List Loc), va_P (dC, dI) vwCl (ws.set (spos en jn) (ad f jn, wv')) H1 → va_D A (ws.set (spos en jn) (ad f jn, wv')) → va_S A s.heap H1 locs1 → W p l e R s m args below meth c H1 locs1 (nc0 + w.2.2.2.1) (ns0 + w.2.2.2.2) Q (F0 m (pc + 1) ls cst)) → W p l e R s m args below meth c H locs (nc0 + w.2.2.2.1) (ns0 + w.2.2.2.2) Q (F0 m pc ls (cx :: .int iv :: .ref (ad f jn) :: cst)))) (h : sub (sx_ast fm rg md wl t tc pc lv st w ret) xs) (Hk : ∀ (pc : Nat) (lv : SL) (st : List SV) (w : SW), sub (ret pc lv st w) xs → sW p l e R s m args below meth c Q dC dI cA A nL fm rg sX sfI wr scr n0 ρ0 M0 ad0 nc0 ns0 pc lv st w) : sW p l e R s m args below meth c Q dC dI cA A nL fm rg sX sfI wr scr n0 ρ0 M0 ad0 nc0 ns0 pc lv st w := by
  match st, h with
  | [], h => exact (sub_none h).elim
  | [_], h => exact (sub_none h).elim
  | [_, _], h => exact (sub_none h).elim
  | x :: i :: v :: st', h =>
    obtain ⟨h0, h⟩ := sub_cond h
    simp only [Bool.and_eq_true] at h0
    obtain ⟨k1, k2, k3, k4⟩ := h0
    obtain ⟨en, a, hen, ha, h⟩ := srow_ok h
    obtain ⟨ht, h⟩ := sub_cond h
    intro ρ M ad ws H locs ls clv cst hr
    obtain ⟨cx, cr, rfl, h3, h4⟩ := svs_cons hr.2.2.2.2.2.2.2
    obtain ⟨ci, cr, rfl, h5, h6⟩ := svs_cons h4
    obtain ⟨cv, cr, rfl, h7, h8⟩ := svs_cons h6
    obtain ⟨iv, rfl, ei⟩ := sv_int k2 h5
    have hv2 : v.1 = 2 := Nat.beq_eq.mp k3
    rcases h7 with ⟨q, -⟩ | ⟨q, -⟩ | ⟨-, jn, en', hj, hen', hjn, rfl⟩ | ⟨q, -⟩
    · omega
    · omega
    · cases hen.symm.trans hen'
      have hb0 : ∀ n, sall (fun v => sbe n v.2.2) (x :: i :: v :: st') = true → sbe n x.2.2 = true ∧ sbe n v.2.2 = true ∧ sbe n i.2.2 = true := fun n hn => ⟨sall_ok hn x List.mem_cons_self, sall_ok hn v (List.mem_cons_of_mem _ (List.mem_cons_of_mem _ List.mem_cons_self)), sall_ok hn i (List.mem_cons_of_mem _ List.mem_cons_self)⟩
      obtain ⟨ρ1, w1, b1, b2, b3, b4, b5, b6⟩ := sidx_ok hS hen ha hr (fun n hn => (hb0 n hn).2) hj h
      have hin : vp_in iv (slen M jn a) := vp_in_iff.mpr ⟨by omega, by omega⟩
      obtain ⟨wv, hwv, hse⟩ := hr.2.1.1 _ en hen jn hjn
      unfold sHe at hse
      rw [ha] at hse
      have hcl := sclamp (x := iv) (by omega)
      have ex : sev ρ1 x.2.2 = sev ρ x.2.2 := b6 _ (fun n hn => (hb0 n hn).1)
      have hsl : slen (supd M v.2.1 jn iv.toNatClampNeg (sev ρ x.2.2)) jn a = slen M jn a := slen_congr (fun hz => supd_f (by
        have q1 := hS.2.1 _ en a hen ha hz
        have q2 : v.2.1 < fm.length := (List.getElem?_eq_some_iff.mp hen).1
        omega))
      obtain ⟨wv', g1, g2⟩ := hrow v.2.1 jn en a wv iv cx _ ρ x.2.2 M ad ws H locs ls cr (Nat.beq_eq.mp ht) ha (srel_sK hr) k4 (sv_fit k1 htc h3) hr.2.2.1 hr.2.2.2.1 hr.2.2.2.2.1 hwv hse hsl hin
      refine g2 (fun H1 locs1 p1 p2 p3 => ?_)
      have hrow6 := hS.2.2.2.2.2.1 _ en a hen ha iv.toNatClampNeg
      have hrow0 := hS.2.2.2.2.2.1 _ en a hen ha 0
      obtain ⟨w2, c1, c2, c3⟩ := sstx_ok (i0 := iv.toNatClampNeg) hS hwr b3 hen hjn ⟨hrow6.1, hrow6.2.trans hrow0.2.symm⟩ (by rw [b6 _ (fun n hn => (hb0 n hn).2.1)]; exact hj) (by rw [b6 _ (fun n hn => (hb0 n hn).2.2)]; omega) b4 (by rw [ex]; exact g1) p1 p2 p3
      have := Hk _ _ _ _ c1 ρ1 _ ad _ H1 locs1 ls clv cr ⟨c3.1, c3.2.1, c3.2.2.1, c3.2.2.2.1, c3.2.2.2.2.1, c3.2.2.2.2.2.1, c3.2.2.2.2.2.2.1, c3.2.2.2.2.2.2.2.2.2.2⟩
      rw [c2, b5] at this
      exact this
    · omega
theorem supd_upd {M : SMem} {f jn i0 : Nat} {g : Nat → Int32} {x : Int32} (hg : ∀ i, (g i).toInt = M f jn i) (i : Nat) : (upd g i0 x i).toInt = supd M f jn i0 x.toInt f jn i := by
  by_cases h : i = i0
  · subst h
    rw [supd_at]
    simp [upd]
  · rw [supd_i h, ← hg i]
    simp [upd, h]
theorem supd_updL {M : SMem} {f jn i0 : Nat} {g : Nat → Int64} {x : Int64} (hg : ∀ i, (g i).toInt = M f jn i) (i : Nat) : (vp_updL g i0 x i).toInt = supd M f jn i0 x.toInt f jn i := by
  by_cases h : i = i0
  · subst h
    rw [supd_at]
    simp [vp_updL]
  · rw [supd_i h, ← hg i]
    simp [vp_updL, h]
theorem ss_iast (hx : p.tables.exec = Jvm.exec) (hb : c.code = cc) (hKv : va_K (dC, dI) vwCl (ztys cA) s) (hS : sST fm rg) (hwr : sWR md wl n0 ρ0 wr) (hdg : decode cc pc = .ok (.iastore, 1)) (h : sub (sx_ast fm rg md wl 0 0 pc lv st w ret) xs) (Hk : ∀ (pc : Nat) (lv : SL) (st : List SV) (w : SW), sub (ret pc lv st w) xs → sW p l e R s m args below meth c Q dC dI cA A nL fm rg sX sfI wr scr n0 ρ0 M0 ad0 nc0 ns0 pc lv st w) : sW p l e R s m args below meth c Q dC dI cA A nL fm rg sX sfI wr scr n0 ρ0 M0 ad0 nc0 ns0 pc lv st w := by
  refine ss_ast (by decide) hS hwr ?_ h Hk
  intro f jn en a wv iv cx K ρ x M ad ws H locs ls cst ht ha hK hk hx9 hP hD hS9 hw hs hsl hin
  obtain ⟨x, rfl, ex⟩ := sfit0 hx9
  obtain ⟨g, rfl, hg⟩ := hs.1 (by omega)
  rw [← ex] at hsl ⊢
  refine ⟨.inl (cA a.1, slen M jn a, .inl (upd g iv.toNatClampNeg x)), ?_, fun kk => ?_⟩
  · unfold sHe
    rw [ha]
    exact ⟨fun _ => ⟨_, by rw [hsl], supd_upd hg⟩, fun q => by omega, fun q => by omega⟩
  · rw [ht] at hw kk
    exact va_iast hx hb hKv hP hD hS9 _ 0 hw rfl hin hdg kk
theorem ss_zast (hx : p.tables.exec = Jvm.exec) (hb : c.code = cc) (hKv : va_K (dC, dI) vwCl (ztys cA) s) (hS : sST fm rg) (hwr : sWR md wl n0 ρ0 wr) (hdg : decode cc pc = .ok (.bastore, 1)) (h : sub (sx_ast fm rg md wl 1 0 pc lv st w ret) xs) (Hk : ∀ (pc : Nat) (lv : SL) (st : List SV) (w : SW), sub (ret pc lv st w) xs → sW p l e R s m args below meth c Q dC dI cA A nL fm rg sX sfI wr scr n0 ρ0 M0 ad0 nc0 ns0 pc lv st w) : sW p l e R s m args below meth c Q dC dI cA A nL fm rg sX sfI wr scr n0 ρ0 M0 ad0 nc0 ns0 pc lv st w := by
  refine ss_ast (by decide) hS hwr ?_ h Hk
  intro f jn en a wv iv cx K ρ x M ad ws H locs ls cst ht ha hK hk hx9 hP hD hS9 hw hs hsl hin
  have hk2 := sin_ok hK (show sin K x 0 1 = true from hk)
  obtain ⟨x, rfl, ex⟩ := sfit0 hx9
  obtain ⟨g, rfl, hg⟩ := hs.1 (by omega)
  rw [← ex] at hsl hk2 ⊢
  refine ⟨.inl (cA a.1, slen M jn a, .inl (upd g iv.toNatClampNeg x)), ?_, fun kk => ?_⟩
  · unfold sHe
    rw [ha]
    exact ⟨fun _ => ⟨_, by rw [hsl], supd_upd hg⟩, fun q => by omega, fun q => by omega⟩
  · rw [ht] at hw kk
    have hn := snarb hk2.1 hk2.2
    exact va_zast hx hb hKv hP hD hS9 _ 1 hw rfl hin hdg (by rw [hn]; exact kk)
theorem ss_cast (hx : p.tables.exec = Jvm.exec) (hb : c.code = cc) (hKv : va_K (dC, dI) vwCl (ztys cA) s) (hS : sST fm rg) (hwr : sWR md wl n0 ρ0 wr) (hdg : decode cc pc = .ok (.castore, 1)) (h : sub (sx_ast fm rg md wl 2 0 pc lv st w ret) xs) (Hk : ∀ (pc : Nat) (lv : SL) (st : List SV) (w : SW), sub (ret pc lv st w) xs → sW p l e R s m args below meth c Q dC dI cA A nL fm rg sX sfI wr scr n0 ρ0 M0 ad0 nc0 ns0 pc lv st w) : sW p l e R s m args below meth c Q dC dI cA A nL fm rg sX sfI wr scr n0 ρ0 M0 ad0 nc0 ns0 pc lv st w := by
  refine ss_ast (by decide) hS hwr ?_ h Hk
  intro f jn en a wv iv cx K ρ x M ad ws H locs ls cst ht ha hK hk hx9 hP hD hS9 hw hs hsl hin
  have hk2 := sin_ok hK (show sin K x 0 65535 = true from hk)
  obtain ⟨x, rfl, ex⟩ := sfit0 hx9
  obtain ⟨g, rfl, hg⟩ := hs.1 (by omega)
  rw [← ex] at hsl hk2 ⊢
  refine ⟨.inl (cA a.1, slen M jn a, .inl (upd g iv.toNatClampNeg x)), ?_, fun kk => ?_⟩
  · unfold sHe
    rw [ha]
    exact ⟨fun _ => ⟨_, by rw [hsl], supd_upd hg⟩, fun q => by omega, fun q => by omega⟩
  · rw [ht] at hw kk
    have hn := snarc hk2.1 hk2.2
    exact va_cast hx hb hKv hP hD hS9 _ 2 hw rfl hin hdg (by rw [hn]; exact kk)
theorem ss_last (hx : p.tables.exec = Jvm.exec) (hb : c.code = cc) (hKv : va_K (dC, dI) vwCl (ztys cA) s) (hS : sST fm rg) (hwr : sWR md wl n0 ρ0 wr) (hdg : decode cc pc = .ok (.lastore, 1)) (h : sub (sx_ast fm rg md wl 3 1 pc lv st w ret) xs) (Hk : ∀ (pc : Nat) (lv : SL) (st : List SV) (w : SW), sub (ret pc lv st w) xs → sW p l e R s m args below meth c Q dC dI cA A nL fm rg sX sfI wr scr n0 ρ0 M0 ad0 nc0 ns0 pc lv st w) : sW p l e R s m args below meth c Q dC dI cA A nL fm rg sX sfI wr scr n0 ρ0 M0 ad0 nc0 ns0 pc lv st w := by
  refine ss_ast (by decide) hS hwr ?_ h Hk
  intro f jn en a wv iv cx K ρ x M ad ws H locs ls cst ht ha hK hk hx9 hP hD hS9 hw hs hsl hin
  obtain ⟨x, rfl, ex⟩ := sfit1 hx9
  obtain ⟨g, rfl, hg⟩ := hs.2.1 (by omega)
  rw [← ex] at hsl ⊢
  refine ⟨.inl (cA a.1, slen M jn a, .inr (.inl (vp_updL g iv.toNatClampNeg x))), ?_, fun kk => ?_⟩
  · unfold sHe
    rw [ha]
    exact ⟨fun q => by omega, fun _ => ⟨_, by rw [hsl], supd_updL hg⟩, fun q => by omega⟩
  · rw [ht] at hw kk
    exact va_last hx hb hKv hP hD hS9 _ 3 hw rfl hin hdg kk
theorem sx_putn {ty : FieldType} {kd : Nat} {K : SK} {ρ : Nat → Int} {e : SE} {x : Int32} (hK : sK ρ K) (hkd : kd < 2) (hk : skd kd K e = true) (ht : zkt kd ty = true) (hx : x.toInt = sev ρ e) : narrow ty (.int x) = .int x ∧ fits ty (.int x) = true := by
  match kd, hkd, hk, ht with
  | 0, _, _, ht =>
    cases ty with
    | int => exact ⟨rfl, rfl⟩
    | _ => cases ht
  | 1, _, hk, ht =>
    cases ty with
    | boolean =>
      have h := sin_ok hK (show sin K e 0 1 = true from hk)
      have h2 : x = 0 ∨ x = 1 := by
        by_cases h : x.toInt = 0
        · exact Or.inl (Int32.toInt_inj.mp h)
        · exact Or.inr (Int32.toInt_inj.mp (show x.toInt = 1 by omega))
      rcases h2 with rfl | rfl <;> exact ⟨rfl, rfl⟩
    | _ => cases ht
theorem ss_putf (hx : p.tables.exec = Jvm.exec) (hb : c.code = cc) (hown : s.vm.findClass own = some m.cls) (hts : ∀ w ∈ zT, w.before args s = true) (hKv : va_K (dC, dI) vwCl (ztys cA) s) {idx ci fi kd N : Nat} {C : String} {T : u_T} {ty0 : Nat → FieldType} {ty : FieldType} (hS : sST fm rg) (hwr : sWR md wl n0 ρ0 wr) (hin : ∀ w ∈ u_ws C T N, w ∈ zT) (hty : ∀ k, k < N → parseFieldDescriptor (T k).2.2.1 = some (ty0 k)) (hnm : ∀ a, a < N → ∀ b, b < N → a ≠ b → (T a).2.1 ≠ (T b).2.1) (hc : vwCl[ci]? = some (C, T, N)) (hf : fi < N) (hlk : Cond.fieldLink own idx (T fi).1 (T fi).2.1 (T fi).2.2.1 ∈ zT) (hfin : (T fi).2.2.2 = false) (hd : parseFieldDescriptor (T fi).2.2.1 = some ty) (hkt : zkt kd ty = true) (hdg : decode cc pc = .ok (.putfield idx, 3)) (h : sub (sx_putf fm rg md wl ci fi kd pc lv st w ret) xs) (Hk : ∀ (pc : Nat) (lv : SL) (st : List SV) (w : SW), sub (ret pc lv st w) xs → sW p l e R s m args below meth c Q dC dI cA A nL fm rg sX sfI wr scr n0 ρ0 M0 ad0 nc0 ns0 pc lv st w) : sW p l e R s m args below meth c Q dC dI cA A nL fm rg sX sfI wr scr n0 ρ0 M0 ad0 nc0 ns0 pc lv st w := by
  match st, h with
  | [], h => exact (sub_none h).elim
  | [_], h => exact (sub_none h).elim
  | x :: v :: st', h =>
    obtain ⟨h0, h⟩ := sub_cond h
    simp only [Bool.and_eq_true] at h0
    obtain ⟨k1, k2, k3, k4⟩ := h0
    obtain ⟨en, o, hen, ho, h⟩ := sobj_ok h
    obtain ⟨ht, h⟩ := sub_cond h
    intro ρ M ad ws H locs ls clv cst hr
    obtain ⟨cx, cr, rfl, h3, h4⟩ := svs_cons hr.2.2.2.2.2.2.2
    obtain ⟨cv, cr, rfl, h7, h8⟩ := svs_cons h4
    obtain ⟨xv, rfl, ex⟩ := sv_int k1 h3
    have hv2 : v.1 = 2 := Nat.beq_eq.mp k2
    rcases h7 with ⟨q, -⟩ | ⟨q, -⟩ | ⟨-, jn, en', hj, hen', hjn, rfl⟩ | ⟨q, -⟩
    · omega
    · omega
    · cases hen.symm.trans hen'
      obtain ⟨wv, hwv, hse⟩ := hr.2.1.1 _ en hen jn hjn
      unfold sHe at hse
      rw [ho] at hse
      obtain ⟨gs, rfl, hgl, hg⟩ := hse
      rw [zget_eq] at h
      cases hsp : o.2[fi]? with
      | none => rw [hsp] at h; exact (sub_none h).elim
      | some sp =>
        rw [hsp] at h
        simp only at h
        obtain ⟨hk0, h⟩ := sub_cond h
        have hlen : fi < gs.length := by rw [hgl]; exact (List.getElem?_eq_some_iff.mp hsp).1
        obtain ⟨hn, hfit⟩ := sx_putn (srel_sK hr) (zblt k3) k4 hkt ex
        have hci := Nat.beq_eq.mp ht
        have hwv' := hwv
        rw [hci] at hwv'
        refine va_put hx hb hts hin ty0 hty hnm hown hKv hr.2.2.1 hr.2.2.2.1 hr.2.2.2.2.1 _ hwv' hc fi hf (hts _ hlk) (fun _ z => z) hfin hd hn hfit hlen hdg (fun H1 locs1 p1 p2 p3 => ?_)
        rw [← hci] at p1 p2
        obtain ⟨w2, c1, c2, c3⟩ := sstx_ok (i0 := fi) hS hwr hr hen hjn ⟨rfl, rfl⟩ hj (by rw [sev_c]) h (wv := .inr (o.1, gs.set fi (.int xv))) (by
          unfold sHe
          rw [ho]
          refine ⟨_, rfl, by rw [List.length_set]; exact hgl, fun i' sp' hs' => ?_⟩
          obtain ⟨g0, g1⟩ := hg i' sp' hs'
          by_cases hii : i' = fi
          · subst hii
            cases hsp.symm.trans hs'
            refine ⟨fun _ => ⟨xv, List.getElem?_set_self hlen, by rw [supd_at]; exact ex⟩, fun q => ?_⟩
            rw [Nat.beq_eq.mp hk0] at q
            cases q
          · rw [List.getElem?_set_ne (fun q => hii q.symm), supd_i hii]
            exact ⟨g0, g1⟩) p1 p2 p3
        have := Hk _ _ _ _ c1 ρ _ ad _ H1 locs1 ls clv cr ⟨c3.1, c3.2.1, c3.2.2.1, c3.2.2.2.1, c3.2.2.2.2.1, c3.2.2.2.2.2.1, c3.2.2.2.2.2.2.1, c3.2.2.2.2.2.2.2.2.2⟩
        rw [c2] at this
        exact this
    · omega
end SSP
