/-! one instruction each: numbers, branches, the stack -/
theorem sbm32h {x : Int} (h1 : 2147483648 ≤ x) (h2 : x ≤ 4294967295) : x.bmod (2 ^ 32) = x - 4294967296 := by
  rw [Int.bmod_def]
  split <;> omega
def slin (lv : SL) (st : List SV) (w : SW) (lo hi : Int) (e : SE) (k : SE → SW → SX) : SX := cond (sin w.2.2.1 e lo hi) (sfe e (fun e => k e w)) (snew lv st w lo hi k)
/-- the sum of two ints: what passes the greatest int is told apart, if it can pass it by little -/
def saddI (lv : SL) (st : List SV) (w : SW) (e : SE) (k : SE → SW → SX) : SX := cond (sin w.2.2.1 e (-2147483648) 2147483647) (sfe e (fun e => k e w)) (cond (sin w.2.2.1 e (-2147483648) 2147484671) (sapp (sge w.2.2.1 (ssub (sc 2147483647) e) (fun K => sfe e (fun e => k e (swK w K)))) (sge w.2.2.1 (saddc e (-2147483648)) (fun K => sfe (saddc e (-4294967296)) (fun e => k e (swK w K))))) (snew lv st w (-2147483648) 2147483647 k))
def sisc (e : SE) : Bool := match e.2 with
  | [] => true
  | _ => false
theorem sisc_ok {e : SE} (h : sisc e = true) (ρ : Nat → Int) : sev ρ e = e.1 := by
  obtain ⟨x, l⟩ := e
  cases l with
  | nil => simp [sev, svl]
  | cons q l => cases h
def smulE (x y : SE) : Option SE := cond (sisc y) (some (smul y.1 x)) (cond (sisc x) (some (smul x.1 y)) none)
theorem smulE_ok {x y e : SE} (h : smulE x y = some e) (ρ : Nat → Int) : sev ρ x * sev ρ y = sev ρ e := by
  unfold smulE at h
  cases hy : sisc y with
  | true =>
    rw [hy, cond_true] at h
    cases h
    rw [smul_ev, sisc_ok hy, Int.mul_comm]
  | false =>
    rw [hy, cond_false] at h
    cases hx : sisc x with
    | true =>
      rw [hx, cond_true] at h
      cases h
      rw [smul_ev, sisc_ok hx]
    | false => rw [hx] at h; cases h
section SOP
variable {p : Program} {l : Launch} {e : Env} {R : Room} {s : State} {m : MethodId} {args : Array Value} {below : List Frame} {meth : Method} {c : Code} {Q : State → Prop} {dC : Nat → ClassId} {dI : Nat → Nat → Nat} {cA : Nat → ClassId} {A : Nat → Prop} {nL : Nat} {fm : List SF} {rg : SRg} {X : SMem → Prop} {fI : Nat → List Int → SMem → Prop} {wr : SWr} {scr n0 : Nat} {ρ0 : Nat → Int} {M0 : SMem} {ad0 : SAd} {nc0 ns0 : Nat} {cc : ByteArray} {pc : Nat} {lv : SL} {st : List SV} {w : SW} {ret : SRt} {xs : List SS} {own : String}
theorem srel_K {ρ : Nat → Int} {M : SMem} {ad : SAd} {ws : va_W} {H : Heap} {locs : List Loc} {ls : Array Slot} {clv : ZL} {cst : List Value} {K : SK} (hr : sRel fm rg X fI wr scr n0 ρ0 M0 ad0 dC dI cA A s.heap nL lv st w ρ M ad ws H locs ls clv cst) (h : sK ρ K) : sRel fm rg X fI wr scr n0 ρ0 M0 ad0 dC dI cA A s.heap nL lv st (swK w K) ρ M ad ws H locs ls clv cst := ⟨⟨hr.1.1, hr.1.2.1, h⟩, hr.2⟩
theorem srel_sK {ρ : Nat → Int} {M : SMem} {ad : SAd} {ws : va_W} {H : Heap} {locs : List Loc} {ls : Array Slot} {clv : ZL} {cst : List Value} (hr : sRel fm rg X fI wr scr n0 ρ0 M0 ad0 dC dI cA A s.heap nL lv st w ρ M ad ws H locs ls clv cst) : sK ρ w.2.2.1 := hr.1.2.2
theorem snew_k {ρ : Nat → Int} {M : SMem} {ad : SAd} {ws : va_W} {H : Heap} {locs : List Loc} {ls : Array Slot} {clv : ZL} {cst : List Value} {lo hi z : Int} {k : SE → SW → SX} (hr : sRel fm rg X fI wr scr n0 ρ0 M0 ad0 dC dI cA A s.heap nL lv st w ρ M ad ws H locs ls clv cst) (h1 : lo ≤ z) (h2 : z ≤ hi) (h : sub (snew lv st w lo hi k) xs) : ∃ (ρ' : Nat → Int) (e' : SE) (w' : SW), z = sev ρ' e' ∧ sRel fm rg X fI wr scr n0 ρ0 M0 ad0 dC dI cA A s.heap nL lv st w' ρ' M ad ws H locs ls clv cst ∧ sub (k e' w') xs ∧ w'.2.2.2 = w.2.2.2 := by
  obtain ⟨ρ', -, -, h3, h4, h5⟩ := snew_ok hr h1 h2 h
  exact ⟨ρ', _, _, h3.symm, h4, h5, rfl⟩
theorem slin_ok {ρ : Nat → Int} {M : SMem} {ad : SAd} {ws : va_W} {H : Heap} {locs : List Loc} {ls : Array Slot} {clv : ZL} {cst : List Value} {lo hi z : Int} {e : SE} {k : SE → SW → SX} (hr : sRel fm rg X fI wr scr n0 ρ0 M0 ad0 dC dI cA A s.heap nL lv st w ρ M ad ws H locs ls clv cst) (h1 : lo ≤ z) (h2 : z ≤ hi) (hz : lo ≤ sev ρ e ∧ sev ρ e ≤ hi → z = sev ρ e) (h : sub (slin lv st w lo hi e k) xs) : ∃ (ρ' : Nat → Int) (e' : SE) (w' : SW), z = sev ρ' e' ∧ sRel fm rg X fI wr scr n0 ρ0 M0 ad0 dC dI cA A s.heap nL lv st w' ρ' M ad ws H locs ls clv cst ∧ sub (k e' w') xs ∧ w'.2.2.2 = w.2.2.2 := by
  unfold slin at h
  cases hs : sin w.2.2.1 e lo hi with
  | true =>
    rw [hs, cond_true, sfe_eq] at h
    exact ⟨ρ, e, w, hz (sin_ok (srel_sK hr) hs), hr, h, rfl⟩
  | false =>
    rw [hs, cond_false] at h
    exact snew_k hr h1 h2 h
theorem saddI_ok {ρ : Nat → Int} {M : SMem} {ad : SAd} {ws : va_W} {H : Heap} {locs : List Loc} {ls : Array Slot} {clv : ZL} {cst : List Value} {z : Int} {a b : Int32} {e : SE} {k : SE → SW → SX} (hr : sRel fm rg X fI wr scr n0 ρ0 M0 ad0 dC dI cA A s.heap nL lv st w ρ M ad ws H locs ls clv cst) (hz : z = (a + b).toInt) (he : a.toInt + b.toInt = sev ρ e) (h : sub (saddI lv st w e k) xs) : ∃ (ρ' : Nat → Int) (e' : SE) (w' : SW), z = sev ρ' e' ∧ sRel fm rg X fI wr scr n0 ρ0 M0 ad0 dC dI cA A s.heap nL lv st w' ρ' M ad ws H locs ls clv cst ∧ sub (k e' w') xs ∧ w'.2.2.2 = w.2.2.2 := by
  unfold saddI at h
  have h0 := si32 (a + b)
  rw [← hz] at h0
  cases hs : sin w.2.2.1 e (-2147483648) 2147483647 with
  | true =>
    rw [hs, cond_true, sfe_eq] at h
    have := sin_ok (srel_sK hr) hs
    exact ⟨ρ, e, w, by rw [hz, siadd this he], hr, h, rfl⟩
  | false =>
    rw [hs, cond_false] at h
    cases hs2 : sin w.2.2.1 e (-2147483648) 2147484671 with
    | true =>
      rw [hs2, cond_true] at h
      have hb := sin_ok (srel_sK hr) hs2
      obtain ⟨h3, h4⟩ := sub_app h
      by_cases hc : sev ρ e ≤ 2147483647
      · obtain ⟨K, k1, k2⟩ := sge_ok (srel_sK hr) h3 (by rw [ssub_ev, sev_c]; omega)
        rw [sfe_eq] at k2
        exact ⟨ρ, e, _, by rw [hz, siadd ⟨hb.1, hc⟩ he], srel_K hr k1, k2, rfl⟩
      · obtain ⟨K, k1, k2⟩ := sge_ok (srel_sK hr) h4 (by rw [saddc_ev]; omega)
        rw [sfe_eq] at k2
        refine ⟨ρ, _, _, ?_, srel_K hr k1, k2, rfl⟩
        rw [saddc_ev, hz, Int32.toInt_add, he, sbm32h (by omega) (by omega)]
        omega
    | false =>
      rw [hs2, cond_false] at h
      exact snew_k hr h0.1 h0.2 h
/-- two values to one -/
def sx_bin (ta tb tc : Nat) (op : SL → List SV → SW → SE → SE → (SE → SW → SX) → SX) (pc : Nat) (lv : SL) (st : List SV) (w : SW) (ret : SRt) : SX := match st with
  | y :: x :: st' => cond (Nat.beq x.1 ta && Nat.beq y.1 tb) (op lv st' w x.2.2 y.2.2 (fun e w => ret (pc + 1) lv ((tc, 0, e) :: st') w)) none
  | _ => none
def sfit (t : Nat) (v : Value) (z : Int) : Prop := (t = 0 ∧ ∃ x : Int32, v = .int x ∧ x.toInt = z) ∨ (t = 1 ∧ ∃ x : Int64, v = .long x ∧ x.toInt = z)
theorem sfit_sv {ρ : Nat → Int} {ad : SAd} {t : Nat} {v : Value} {e : SE} (h : sfit t v (sev ρ e)) : sv fm scr ρ ad (t, 0, e) v := by
  rcases h with ⟨rfl, x, rfl, h⟩ | ⟨rfl, x, rfl, h⟩
  · exact Or.inl ⟨rfl, x, rfl, h⟩
  · exact Or.inr (Or.inl ⟨rfl, x, rfl, h⟩)
theorem sv_fit {ρ : Nat → Int} {ad : SAd} {t : Nat} {v : SV} {cv : Value} (ht : Nat.beq v.1 t = true) (h2 : t < 2) (h : sv fm scr ρ ad v cv) : sfit t cv (sev ρ v.2.2) := by
  have ht := Nat.beq_eq.mp ht
  rcases h with ⟨h, x⟩ | ⟨h, x⟩ | ⟨h, -⟩ | ⟨h, -⟩
  · exact Or.inl ⟨by omega, x⟩
  · exact Or.inr ⟨by omega, x⟩
  · omega
  · omega
theorem ss_bin {ta tb tc : Nat} {op : SL → List SV → SW → SE → SE → (SE → SW → SX) → SX} (ha : ta < 2) (hb2 : tb < 2)
    (hop : ∀ (st : List SV) (x y : SE) (ρ : Nat → Int) (M : SMem) (ad : SAd) (ws : va_W) (H : Heap) (locs : List Loc) (ls : Array Slot) (clv : ZL) (cst : List Value) (a b : Value) (k : SE → SW → SX), sRel fm rg X fI wr scr n0 ρ0 M0 ad0 dC dI cA A s.heap nL lv st w ρ M ad ws H locs ls clv cst → sfit ta a (sev ρ x) → sfit tb b (sev ρ y) → sub (op lv st w x y k) xs → ∃ (cv : Value) (z : Int), sfit tc cv z ∧ (∃ (ρ' : Nat → Int) (e' : SE) (w' : SW), z = sev ρ' e' ∧ sRel fm rg X fI wr scr n0 ρ0 M0 ad0 dC dI cA A s.heap nL lv st w' ρ' M ad ws H locs ls clv cst ∧ sub (k e' w') xs ∧ w'.2.2.2 = w.2.2.2) ∧ (W p l e R s m args below meth c H locs (nc0 + w.2.2.2.1) (ns0 + w.2.2.2.2) Q (F0 m (pc + 1) ls (cv :: cst)) → W p l e R s m args below meth c H locs (nc0 + w.2.2.2.1) (ns0 + w.2.2.2.2) Q (F0 m pc ls (b :: a :: cst))))
    (h : sub (sx_bin ta tb tc op pc lv st w ret) xs) (Hk : ∀ (pc : Nat) (lv : SL) (st : List SV) (w : SW), sub (ret pc lv st w) xs → sW p l e R s m args below meth c Q dC dI cA A nL fm rg X fI wr scr n0 ρ0 M0 ad0 nc0 ns0 pc lv st w) : sW p l e R s m args below meth c Q dC dI cA A nL fm rg X fI wr scr n0 ρ0 M0 ad0 nc0 ns0 pc lv st w := by
  match st, h with
  | [], h => exact (sub_none h).elim
  | [_], h => exact (sub_none h).elim
  | y :: x :: st', h =>
    obtain ⟨h0, h⟩ := sub_cond h
    rw [Bool.and_eq_true] at h0
    intro ρ M ad ws H locs ls clv cst ⟨⟨ag, hn, hK⟩, ⟨r1, hI, hmo, hfr⟩, r2, r3, r4, r5, r6, r7⟩
    obtain ⟨cy, cr, rfl, h5, h6⟩ := svs_cons r7
    obtain ⟨cx, cr, rfl, h7, h8⟩ := svs_cons h6
    obtain ⟨cv, z, h9, ⟨ρ', e', w', h10, h11, h12, h13⟩, h14⟩ := hop st' x.2.2 y.2.2 ρ M ad ws H locs ls clv cr cx cy _ ⟨⟨ag, hn, hK⟩, ⟨r1, hI, hmo, hfr⟩, r2, r3, r4, r5, r6, h8⟩ (sv_fit h0.1 ha h7) (sv_fit h0.2 hb2 h5) h
    apply h14
    have := Hk _ _ _ _ h12 ρ' M ad ws H locs ls clv (cv :: cr) ⟨h11.1, h11.2.1, h11.2.2.1, h11.2.2.2.1, h11.2.2.2.2.1, h11.2.2.2.2.2.1, h11.2.2.2.2.2.2.1, sfit_sv (by rw [h10] at h9; exact h9), h11.2.2.2.2.2.2.2⟩
    rw [h13] at this
    exact this
theorem sfit0 {v : Value} {z : Int} (h : sfit 0 v z) : ∃ x : Int32, v = .int x ∧ x.toInt = z := by
  rcases h with ⟨-, h⟩ | ⟨h, -⟩
  · exact h
  · cases h
theorem sfit1 {v : Value} {z : Int} (h : sfit 1 v z) : ∃ x : Int64, v = .long x ∧ x.toInt = z := by
  rcases h with ⟨h, -⟩ | ⟨-, h⟩
  · cases h
  · exact h
theorem sfitI (x : Int32) : sfit 0 (.int x) x.toInt := Or.inl ⟨rfl, x, rfl, rfl⟩
theorem sfitL (x : Int64) : sfit 1 (.long x) x.toInt := Or.inr ⟨rfl, x, rfl, rfl⟩
def o_new (lo hi : Int) (lv : SL) (st : List SV) (w : SW) (_ _ : SE) (k : SE → SW → SX) : SX := snew lv st w lo hi k
def o_iadd (lv : SL) (st : List SV) (w : SW) (x y : SE) (k : SE → SW → SX) : SX := saddI lv st w (sadd x y) k
def o_sub (lo hi : Int) (lv : SL) (st : List SV) (w : SW) (x y : SE) (k : SE → SW → SX) : SX := slin lv st w lo hi (ssub x y) k
def o_add (lo hi : Int) (lv : SL) (st : List SV) (w : SW) (x y : SE) (k : SE → SW → SX) : SX := slin lv st w lo hi (sadd x y) k
def o_mul (lo hi : Int) (lv : SL) (st : List SV) (w : SW) (x y : SE) (k : SE → SW → SX) : SX := match smulE x y with
  | some e => slin lv st w lo hi e k
  | none => snew lv st w lo hi k
def o_and (lv : SL) (st : List SV) (w : SW) (_ y : SE) (k : SE → SW → SX) : SX := cond (sisc y && decide (0 ≤ y.1)) (snew lv st w 0 y.1 k) (snew lv st w (-2147483648) 2147483647 k)
def o_div (lv : SL) (st : List SV) (w : SW) (_ y : SE) (k : SE → SW → SX) : SX := cond (sisc y && decide (y.1 ≠ 0)) (snew lv st w (-2147483648) 2147483647 k) none
theorem ss_newI {f : Int32 → Int32 → Int32} (hrow : ∀ (a b : Int32) (H : Heap) (locs : List Loc) (ls : Array Slot) (cst : List Value), W p l e R s m args below meth c H locs (nc0 + w.2.2.2.1) (ns0 + w.2.2.2.2) Q (F0 m (pc + 1) ls (.int (f a b) :: cst)) → W p l e R s m args below meth c H locs (nc0 + w.2.2.2.1) (ns0 + w.2.2.2.2) Q (F0 m pc ls (.int b :: .int a :: cst))) (h : sub (sx_bin 0 0 0 (o_new (-2147483648) 2147483647) pc lv st w ret) xs) (Hk : ∀ (pc : Nat) (lv : SL) (st : List SV) (w : SW), sub (ret pc lv st w) xs → sW p l e R s m args below meth c Q dC dI cA A nL fm rg X fI wr scr n0 ρ0 M0 ad0 nc0 ns0 pc lv st w) : sW p l e R s m args below meth c Q dC dI cA A nL fm rg X fI wr scr n0 ρ0 M0 ad0 nc0 ns0 pc lv st w := by
  refine ss_bin (by decide) (by decide) ?_ h Hk
  intro st x y ρ M ad ws H locs ls clv cst a b k hr ha hb2 h
  obtain ⟨a, rfl, -⟩ := sfit0 ha
  obtain ⟨b, rfl, -⟩ := sfit0 hb2
  exact ⟨_, _, sfitI (f a b), snew_k hr (si32 _).1 (si32 _).2 h, hrow a b H locs ls cst⟩
theorem ss_newL {f : Int64 → Int64 → Int64} (hrow : ∀ (a b : Int64) (H : Heap) (locs : List Loc) (ls : Array Slot) (cst : List Value), W p l e R s m args below meth c H locs (nc0 + w.2.2.2.1) (ns0 + w.2.2.2.2) Q (F0 m (pc + 1) ls (.long (f a b) :: cst)) → W p l e R s m args below meth c H locs (nc0 + w.2.2.2.1) (ns0 + w.2.2.2.2) Q (F0 m pc ls (.long b :: .long a :: cst))) (h : sub (sx_bin 1 1 1 (o_new (-9223372036854775808) 9223372036854775807) pc lv st w ret) xs) (Hk : ∀ (pc : Nat) (lv : SL) (st : List SV) (w : SW), sub (ret pc lv st w) xs → sW p l e R s m args below meth c Q dC dI cA A nL fm rg X fI wr scr n0 ρ0 M0 ad0 nc0 ns0 pc lv st w) : sW p l e R s m args below meth c Q dC dI cA A nL fm rg X fI wr scr n0 ρ0 M0 ad0 nc0 ns0 pc lv st w := by
  refine ss_bin (by decide) (by decide) ?_ h Hk
  intro st x y ρ M ad ws H locs ls clv cst a b k hr ha hb2 h
  obtain ⟨a, rfl, -⟩ := sfit1 ha
  obtain ⟨b, rfl, -⟩ := sfit1 hb2
  exact ⟨_, _, sfitL (f a b), snew_k hr (si64 _).1 (si64 _).2 h, hrow a b H locs ls cst⟩
theorem ss_newS {f : Int64 → Int32 → Int64} (hrow : ∀ (a : Int64) (b : Int32) (H : Heap) (locs : List Loc) (ls : Array Slot) (cst : List Value), W p l e R s m args below meth c H locs (nc0 + w.2.2.2.1) (ns0 + w.2.2.2.2) Q (F0 m (pc + 1) ls (.long (f a b) :: cst)) → W p l e R s m args below meth c H locs (nc0 + w.2.2.2.1) (ns0 + w.2.2.2.2) Q (F0 m pc ls (.int b :: .long a :: cst))) (h : sub (sx_bin 1 0 1 (o_new (-9223372036854775808) 9223372036854775807) pc lv st w ret) xs) (Hk : ∀ (pc : Nat) (lv : SL) (st : List SV) (w : SW), sub (ret pc lv st w) xs → sW p l e R s m args below meth c Q dC dI cA A nL fm rg X fI wr scr n0 ρ0 M0 ad0 nc0 ns0 pc lv st w) : sW p l e R s m args below meth c Q dC dI cA A nL fm rg X fI wr scr n0 ρ0 M0 ad0 nc0 ns0 pc lv st w := by
  refine ss_bin (by decide) (by decide) ?_ h Hk
  intro st x y ρ M ad ws H locs ls clv cst a b k hr ha hb2 h
  obtain ⟨a, rfl, -⟩ := sfit1 ha
  obtain ⟨b, rfl, -⟩ := sfit0 hb2
  exact ⟨_, _, sfitL (f a b), snew_k hr (si64 _).1 (si64 _).2 h, hrow a b H locs ls cst⟩
theorem ss_iadd (hx : p.tables.exec = Jvm.exec) (hb : c.code = cc) (hdg : decode cc pc = .ok (.iadd, 1)) (h : sub (sx_bin 0 0 0 o_iadd pc lv st w ret) xs) (Hk : ∀ (pc : Nat) (lv : SL) (st : List SV) (w : SW), sub (ret pc lv st w) xs → sW p l e R s m args below meth c Q dC dI cA A nL fm rg X fI wr scr n0 ρ0 M0 ad0 nc0 ns0 pc lv st w) : sW p l e R s m args below meth c Q dC dI cA A nL fm rg X fI wr scr n0 ρ0 M0 ad0 nc0 ns0 pc lv st w := by
  refine ss_bin (by decide) (by decide) ?_ h Hk
  intro st x y ρ M ad ws H locs ls clv cst a b k hr ha hb2 h
  obtain ⟨a, rfl, e1⟩ := sfit0 ha
  obtain ⟨b, rfl, e2⟩ := sfit0 hb2
  exact ⟨_, _, sfitI (a + b), saddI_ok hr rfl (by rw [sadd_ev, e1, e2]) h, lv_iadd hx hb hdg⟩
theorem ss_isub (hx : p.tables.exec = Jvm.exec) (hb : c.code = cc) (hdg : decode cc pc = .ok (.isub, 1)) (h : sub (sx_bin 0 0 0 (o_sub (-2147483648) 2147483647) pc lv st w ret) xs) (Hk : ∀ (pc : Nat) (lv : SL) (st : List SV) (w : SW), sub (ret pc lv st w) xs → sW p l e R s m args below meth c Q dC dI cA A nL fm rg X fI wr scr n0 ρ0 M0 ad0 nc0 ns0 pc lv st w) : sW p l e R s m args below meth c Q dC dI cA A nL fm rg X fI wr scr n0 ρ0 M0 ad0 nc0 ns0 pc lv st w := by
  refine ss_bin (by decide) (by decide) ?_ h Hk
  intro st x y ρ M ad ws H locs ls clv cst a b k hr ha hb2 h
  obtain ⟨a, rfl, e1⟩ := sfit0 ha
  obtain ⟨b, rfl, e2⟩ := sfit0 hb2
  exact ⟨_, _, sfitI (a - b), slin_ok hr (si32 _).1 (si32 _).2 (fun q => sisub q (by rw [ssub_ev, e1, e2])) h, lv_isub hx hb hdg⟩
theorem ss_imul (hx : p.tables.exec = Jvm.exec) (hb : c.code = cc) (hdg : decode cc pc = .ok (.imul, 1)) (h : sub (sx_bin 0 0 0 (o_mul (-2147483648) 2147483647) pc lv st w ret) xs) (Hk : ∀ (pc : Nat) (lv : SL) (st : List SV) (w : SW), sub (ret pc lv st w) xs → sW p l e R s m args below meth c Q dC dI cA A nL fm rg X fI wr scr n0 ρ0 M0 ad0 nc0 ns0 pc lv st w) : sW p l e R s m args below meth c Q dC dI cA A nL fm rg X fI wr scr n0 ρ0 M0 ad0 nc0 ns0 pc lv st w := by
  refine ss_bin (by decide) (by decide) ?_ h Hk
  intro st x y ρ M ad ws H locs ls clv cst a b k hr ha hb2 h
  obtain ⟨a, rfl, e1⟩ := sfit0 ha
  obtain ⟨b, rfl, e2⟩ := sfit0 hb2
  refine ⟨_, _, sfitI (a * b), ?_, lv_imul hx hb hdg⟩
  unfold o_mul at h
  cases hm : smulE x y with
  | some e => rw [hm] at h; exact slin_ok hr (si32 _).1 (si32 _).2 (fun q => simul q (by rw [e1, e2]; exact smulE_ok hm ρ)) h
  | none => rw [hm] at h; exact snew_k hr (si32 _).1 (si32 _).2 h
theorem ss_ladd (hx : p.tables.exec = Jvm.exec) (hb : c.code = cc) (hdg : decode cc pc = .ok (.ladd, 1)) (h : sub (sx_bin 1 1 1 (o_add (-9223372036854775808) 9223372036854775807) pc lv st w ret) xs) (Hk : ∀ (pc : Nat) (lv : SL) (st : List SV) (w : SW), sub (ret pc lv st w) xs → sW p l e R s m args below meth c Q dC dI cA A nL fm rg X fI wr scr n0 ρ0 M0 ad0 nc0 ns0 pc lv st w) : sW p l e R s m args below meth c Q dC dI cA A nL fm rg X fI wr scr n0 ρ0 M0 ad0 nc0 ns0 pc lv st w := by
  refine ss_bin (by decide) (by decide) ?_ h Hk
  intro st x y ρ M ad ws H locs ls clv cst a b k hr ha hb2 h
  obtain ⟨a, rfl, e1⟩ := sfit1 ha
  obtain ⟨b, rfl, e2⟩ := sfit1 hb2
  exact ⟨_, _, sfitL (a + b), slin_ok hr (si64 _).1 (si64 _).2 (fun q => sladd q (by rw [sadd_ev, e1, e2])) h, lv_ladd hx hb hdg⟩
theorem ss_lsub (hx : p.tables.exec = Jvm.exec) (hb : c.code = cc) (hdg : decode cc pc = .ok (.lsub, 1)) (h : sub (sx_bin 1 1 1 (o_sub (-9223372036854775808) 9223372036854775807) pc lv st w ret) xs) (Hk : ∀ (pc : Nat) (lv : SL) (st : List SV) (w : SW), sub (ret pc lv st w) xs → sW p l e R s m args below meth c Q dC dI cA A nL fm rg X fI wr scr n0 ρ0 M0 ad0 nc0 ns0 pc lv st w) : sW p l e R s m args below meth c Q dC dI cA A nL fm rg X fI wr scr n0 ρ0 M0 ad0 nc0 ns0 pc lv st w := by
  refine ss_bin (by decide) (by decide) ?_ h Hk
  intro st x y ρ M ad ws H locs ls clv cst a b k hr ha hb2 h
  obtain ⟨a, rfl, e1⟩ := sfit1 ha
  obtain ⟨b, rfl, e2⟩ := sfit1 hb2
  exact ⟨_, _, sfitL (a - b), slin_ok hr (si64 _).1 (si64 _).2 (fun q => slsub q (by rw [ssub_ev, e1, e2])) h, lv_lsub hx hb hdg⟩
theorem ss_lmul (hx : p.tables.exec = Jvm.exec) (hb : c.code = cc) (hdg : decode cc pc = .ok (.lmul, 1)) (h : sub (sx_bin 1 1 1 (o_mul (-9223372036854775808) 9223372036854775807) pc lv st w ret) xs) (Hk : ∀ (pc : Nat) (lv : SL) (st : List SV) (w : SW), sub (ret pc lv st w) xs → sW p l e R s m args below meth c Q dC dI cA A nL fm rg X fI wr scr n0 ρ0 M0 ad0 nc0 ns0 pc lv st w) : sW p l e R s m args below meth c Q dC dI cA A nL fm rg X fI wr scr n0 ρ0 M0 ad0 nc0 ns0 pc lv st w := by
  refine ss_bin (by decide) (by decide) ?_ h Hk
  intro st x y ρ M ad ws H locs ls clv cst a b k hr ha hb2 h
  obtain ⟨a, rfl, e1⟩ := sfit1 ha
  obtain ⟨b, rfl, e2⟩ := sfit1 hb2
  refine ⟨_, _, sfitL (a * b), ?_, lv_lmul hx hb hdg⟩
  unfold o_mul at h
  cases hm : smulE x y with
  | some e => rw [hm] at h; exact slin_ok hr (si64 _).1 (si64 _).2 (fun q => slmul q (by rw [e1, e2]; exact smulE_ok hm ρ)) h
  | none => rw [hm] at h; exact snew_k hr (si64 _).1 (si64 _).2 h
theorem ss_iand (hx : p.tables.exec = Jvm.exec) (hb : c.code = cc) (hdg : decode cc pc = .ok (.iand, 1)) (h : sub (sx_bin 0 0 0 o_and pc lv st w ret) xs) (Hk : ∀ (pc : Nat) (lv : SL) (st : List SV) (w : SW), sub (ret pc lv st w) xs → sW p l e R s m args below meth c Q dC dI cA A nL fm rg X fI wr scr n0 ρ0 M0 ad0 nc0 ns0 pc lv st w) : sW p l e R s m args below meth c Q dC dI cA A nL fm rg X fI wr scr n0 ρ0 M0 ad0 nc0 ns0 pc lv st w := by
  refine ss_bin (by decide) (by decide) ?_ h Hk
  intro st x y ρ M ad ws H locs ls clv cst a b k hr ha hb2 h
  obtain ⟨a, rfl, e1⟩ := sfit0 ha
  obtain ⟨b, rfl, e2⟩ := sfit0 hb2
  refine ⟨_, _, sfitI (a &&& b), ?_, lv_iand hx hb hdg⟩
  unfold o_and at h
  cases hc : (sisc y && decide (0 ≤ y.1)) with
  | true =>
    rw [hc, cond_true] at h
    rw [Bool.and_eq_true] at hc
    have h0 : 0 ≤ y.1 := of_decide_eq_true hc.2
    have h1 := siand (x := a) (y := b) (k := y.1.toNat) (by rw [e2, sisc_ok hc.1]; omega)
    exact snew_k hr h1.1 (by omega) h
  | false => rw [hc, cond_false] at h; exact snew_k hr (si32 _).1 (si32 _).2 h
theorem ss_div {f : Int32 → Int32 → Int32} (hrow : ∀ (a b : Int32) (H : Heap) (locs : List Loc) (ls : Array Slot) (cst : List Value), ¬ b = 0 → W p l e R s m args below meth c H locs (nc0 + w.2.2.2.1) (ns0 + w.2.2.2.2) Q (F0 m (pc + 1) ls (.int (f a b) :: cst)) → W p l e R s m args below meth c H locs (nc0 + w.2.2.2.1) (ns0 + w.2.2.2.2) Q (F0 m pc ls (.int b :: .int a :: cst))) (h : sub (sx_bin 0 0 0 o_div pc lv st w ret) xs) (Hk : ∀ (pc : Nat) (lv : SL) (st : List SV) (w : SW), sub (ret pc lv st w) xs → sW p l e R s m args below meth c Q dC dI cA A nL fm rg X fI wr scr n0 ρ0 M0 ad0 nc0 ns0 pc lv st w) : sW p l e R s m args below meth c Q dC dI cA A nL fm rg X fI wr scr n0 ρ0 M0 ad0 nc0 ns0 pc lv st w := by
  refine ss_bin (by decide) (by decide) ?_ h Hk
  intro st x y ρ M ad ws H locs ls clv cst a b k hr ha hb2 h
  obtain ⟨a, rfl, e1⟩ := sfit0 ha
  obtain ⟨b, rfl, e2⟩ := sfit0 hb2
  obtain ⟨hc, h⟩ := sub_cond h
  rw [Bool.and_eq_true] at hc
  have h0 : y.1 ≠ 0 := of_decide_eq_true hc.2
  refine ⟨_, _, sfitI (f a b), snew_k hr (si32 _).1 (si32 _).2 h, hrow a b H locs ls cst ?_⟩
  intro q
  rw [q, sisc_ok hc.1] at e2
  exact h0 e2.symm
end SOP
