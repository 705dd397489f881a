/-! other instructions of numbers: made wider or narrower, compared, jumps, the stack, locals -/
def sAG : Nat := 13
def sg1 (K : SK) (a b : SM) : SK := cond (snn K.1 (saddc b.2.2.2 (-1))) (cond (sbeq a.2.1 b.2.1 && (sent K (ssub a.2.2.1 b.2.2.1) && !(sent K (saddc (ssub a.2.2.1 b.2.2.1) (-1))))) (sput K (saddc (ssub a.2.2.1 b.2.2.1) (-1))) K) K
def sgr (a : SM) : List SM → SK → (SK → SX) → SX
  | [], K, k => k K
  | b :: r, K, k => sfK (sg1 K a b) (fun K => sgr a r K k)
def sgl (ms : List SM) : List SM → SK → (SK → SX) → SX
  | [], K, k => k K
  | a :: r, K, k => sgr a ms K (fun K => sgl ms r K k)
/-- where a row of the sort kept has its end, of value 0, another value stands elsewhere -/
def sag (ms : List SM) (K : SK) (k : SK → SX) : SX := match ms.filter (fun q => Nat.beq q.1 sAG && sbeq q.2.2.2 (sc 0)) with
  | [] => k K
  | a :: r => sll (a :: r) (fun l => sll (ms.filter (fun q => Nat.beq q.1 sAG && !(sbeq q.2.2.2 (sc 0)))) (fun l2 => sgl l2 l K k))
section SAG
variable {fI : Nat → List Int → SMem → Prop} {ρ : Nat → Int} {M : SMem} {ms : List SM} {fs : List SFt} {xs : List SS}
theorem sg1_ok {K : SK} {a b : SM} (hf : a.1 = b.1) (hv : a.2.2.2 = sc 0) (ha : ∃ j i : Nat, (j : Int) = sev ρ a.2.1 ∧ (i : Int) = sev ρ a.2.2.1 ∧ M a.1 j i = sev ρ a.2.2.2) (hb : ∃ j i : Nat, (j : Int) = sev ρ b.2.1 ∧ (i : Int) = sev ρ b.2.2.1 ∧ M b.1 j i = sev ρ b.2.2.2) (hK : sK ρ K) : sK ρ (sg1 K a b) := by
  unfold sg1
  cases hn : snn K.1 (saddc b.2.2.2 (-1)) with
  | false => exact hK
  | true =>
    rw [cond_true]
    have hn := snn_ok hK.1 hn
    rw [saddc_ev] at hn
    cases hc : (sbeq a.2.1 b.2.1 && (sent K (ssub a.2.2.1 b.2.2.1) && !(sent K (saddc (ssub a.2.2.1 b.2.2.1) (-1))))) with
    | false => exact hK
    | true =>
      simp only [Bool.and_eq_true] at hc
      obtain ⟨h1, h3, -⟩ := hc
      have h3 := sent_ok hK h3
      rw [ssub_ev] at h3
      obtain ⟨j, i, e1, e2, e3⟩ := ha
      obtain ⟨j', i', f1, f2, f3⟩ := hb
      rw [sbeq_ok h1] at e1
      have ej : j = j' := by omega
      subst ej
      rw [hf, hv, sev_c] at e3
      refine sput_ok hK ?_
      rw [saddc_ev, ssub_ev]
      by_cases hi : i = i'
      · exfalso
        subst hi
        omega
      · omega
theorem sgr_ok {a : SM} (hf : a.1 = sAG) (hv : a.2.2.2 = sc 0) (ha : ∃ j i : Nat, (j : Int) = sev ρ a.2.1 ∧ (i : Int) = sev ρ a.2.2.1 ∧ M a.1 j i = sev ρ a.2.2.2) : ∀ {l : List SM} {K : SK} {k : SK → SX}, (∀ b ∈ l, b.1 = sAG ∧ ∃ j i : Nat, (j : Int) = sev ρ b.2.1 ∧ (i : Int) = sev ρ b.2.2.1 ∧ M b.1 j i = sev ρ b.2.2.2) → sK ρ K → sub (sgr a l K k) xs → ∃ K', sK ρ K' ∧ sub (k K') xs := by
  intro l
  induction l with
  | nil => exact fun _ hK h => ⟨_, hK, h⟩
  | cons b r ih =>
    intro K k hl hK h
    unfold sgr at h
    rw [sfK_eq] at h
    have hb := hl b List.mem_cons_self
    exact ih (fun b hb => hl b (List.mem_cons_of_mem _ hb)) (sg1_ok (hf.trans hb.1.symm) hv ha hb.2 hK) h
theorem sgl_ok {l0 : List SM} (h0 : ∀ b ∈ l0, b.1 = sAG ∧ ∃ j i : Nat, (j : Int) = sev ρ b.2.1 ∧ (i : Int) = sev ρ b.2.2.1 ∧ M b.1 j i = sev ρ b.2.2.2) : ∀ {l : List SM} {K : SK} {k : SK → SX}, (∀ b ∈ l, (b.1 = sAG ∧ b.2.2.2 = sc 0) ∧ ∃ j i : Nat, (j : Int) = sev ρ b.2.1 ∧ (i : Int) = sev ρ b.2.2.1 ∧ M b.1 j i = sev ρ b.2.2.2) → sK ρ K → sub (sgl l0 l K k) xs → ∃ K', sK ρ K' ∧ sub (k K') xs := by
  intro l
  induction l with
  | nil => exact fun _ hK h => ⟨_, hK, h⟩
  | cons a r ih =>
    intro K k hl hK h
    have ha := hl a List.mem_cons_self
    obtain ⟨K', h1, h2⟩ := sgr_ok ha.1.1 ha.1.2 ha.2 h0 hK h
    exact ih (fun b hb => hl b (List.mem_cons_of_mem _ hb)) h1 h2
theorem sag_ok {K : SK} {k : SK → SX} (hm : ∀ q ∈ ms, ∃ j i : Nat, (j : Int) = sev ρ q.2.1 ∧ (i : Int) = sev ρ q.2.2.1 ∧ M q.1 j i = sev ρ q.2.2.2) (hK : sK ρ K) (h : sub (sag ms K k) xs) : ∃ K', sK ρ K' ∧ sub (k K') xs := by
  unfold sag at h
  have h0 : ∀ b ∈ ms.filter (fun q => Nat.beq q.1 sAG && sbeq q.2.2.2 (sc 0)), (b.1 = sAG ∧ b.2.2.2 = sc 0) ∧ ∃ j i : Nat, (j : Int) = sev ρ b.2.1 ∧ (i : Int) = sev ρ b.2.2.1 ∧ M b.1 j i = sev ρ b.2.2.2 := by
    intro b hb
    rw [List.mem_filter, Bool.and_eq_true] at hb
    exact ⟨⟨Nat.beq_eq.mp hb.2.1, sbeq_ok hb.2.2⟩, hm b hb.1⟩
  have h1 : ∀ b ∈ ms.filter (fun q => Nat.beq q.1 sAG && !(sbeq q.2.2.2 (sc 0))), b.1 = sAG ∧ ∃ j i : Nat, (j : Int) = sev ρ b.2.1 ∧ (i : Int) = sev ρ b.2.2.1 ∧ M b.1 j i = sev ρ b.2.2.2 := by
    intro b hb
    rw [List.mem_filter, Bool.and_eq_true] at hb
    exact ⟨Nat.beq_eq.mp hb.2.1, hm b hb.1⟩
  generalize ms.filter (fun q => Nat.beq q.1 sAG && sbeq q.2.2.2 (sc 0)) = l at h h0
  match l, h, h0 with
  | [], h, _ => exact ⟨_, hK, h⟩
  | a :: r, h, h0 =>
    simp only [sll_eq] at h
    exact sgl_ok h1 h0 hK h
end SAG
theorem s2c (x : Int32) : 0 ≤ (x.toUInt32 % 65536).toInt32.toInt ∧ (x.toUInt32 % 65536).toInt32.toInt ≤ 65535 ∧ (0 ≤ x.toInt ∧ x.toInt ≤ 65535 → (x.toUInt32 % 65536).toInt32.toInt = x.toInt) := by
  have h1 : (x.toUInt32 % 65536).toInt32.toInt = ((x.toUInt32 % 65536).toBitVec).toInt := rfl
  have h2 : (x.toUInt32 % 65536).toBitVec.toNat = x.toBitVec.toNat % 65536 := by
    show (x.toUInt32 % 65536).toNat = _
    rw [UInt32.toNat_mod]
    rfl
  have h3 : x.toInt = x.toBitVec.toInt := rfl
  rw [h1, h3, BitVec.toInt_eq_toNat_cond, BitVec.toInt_eq_toNat_cond, h2]
  have h4 := x.toBitVec.isLt
  constructor
  · split <;> omega
  · constructor
    · split <;> omega
    · intro h5
      split at h5
      · split <;> omega
      · omega
def sjmp (pc : Nat) (off : Int) (k : Nat → SX) : SX := cond (decide (0 ≤ (pc : Int) + off)) (sn ((pc : Int) + off).toNat k) none
theorem sjmp_ok {pc : Nat} {off : Int} {k : Nat → SX} {xs : List SS} (h : sub (sjmp pc off k) xs) : ∃ tgt : Nat, (pc : Int) + off = (tgt : Int) ∧ sub (k tgt) xs := by
  obtain ⟨h1, h2⟩ := sub_cond h
  rw [sn_eq] at h2
  have h1 : 0 ≤ (pc : Int) + off := of_decide_eq_true h1
  exact ⟨_, by omega, h2⟩
theorem szro {op : ClassFile.Cond} {x y : Int} : zro op x y = true ↔ sCmp op (x - y) := by
  cases op <;> simp only [zro, sCmp, Bool.not_eq_true', decide_eq_true_eq, decide_eq_false_iff_not] <;> omega
def sx_un (ta tc : Nat) (op : SL → List SV → SW → SE → (SE → SW → SX) → SX) (pc : Nat) (lv : SL) (st : List SV) (w : SW) (ret : SRt) : SX := match st with
  | x :: st' => cond (Nat.beq x.1 ta) (op lv st' w x.2.2 (fun e w => ret (pc + 1) lv ((tc, 0, e) :: st') w)) none
  | _ => none
def o_id (_ : SL) (_ : List SV) (w : SW) (x : SE) (k : SE → SW → SX) : SX := k x w
def o_lin (lo hi : Int) (lv : SL) (st : List SV) (w : SW) (x : SE) (k : SE → SW → SX) : SX := slin lv st w lo hi x k
def sx_lcmp (pc : Nat) (lv : SL) (st : List SV) (w : SW) (ret : SRt) : SX := match st with
  | y :: x :: st' => cond (Nat.beq x.1 1 && Nat.beq y.1 1) (sfe (ssub x.2.2 y.2.2) (fun d => sapp (sge w.2.2.1 (saddc (sneg d) (-1)) (fun K => ret (pc + 1) lv ((0, 0, sc (-1)) :: st') (swK w K))) (sapp (seq0 w.2.2.1 d (fun K => ret (pc + 1) lv ((0, 0, sc 0) :: st') (swK w K))) (sge w.2.2.1 (saddc d (-1)) (fun K => ret (pc + 1) lv ((0, 0, sc 1) :: st') (swK w K)))))) none
  | _ => none
def sx_br (op : ClassFile.Cond) (off : Int) (pc : Nat) (lv : SL) (st : List SV) (w : SW) (d : SE) (ret : SRt) : SX := sfe d (fun d => sapp (sjmp pc off (fun t => scn op w.2.2.1 d (fun K => sag w.1.1 K (fun K => ret t lv st (swK w K))))) (scnN op w.2.2.1 d (fun K => sag w.1.1 K (fun K => ret (pc + 3) lv st (swK w K)))))
def sx_icmp (op : ClassFile.Cond) (off : Int) (pc : Nat) (lv : SL) (st : List SV) (w : SW) (ret : SRt) : SX := match st with
  | y :: x :: st' => cond (Nat.beq x.1 0 && Nat.beq y.1 0) (sx_br op off pc lv st' w (ssub x.2.2 y.2.2) ret) none
  | _ => none
def sx_if (op : ClassFile.Cond) (off : Int) (pc : Nat) (lv : SL) (st : List SV) (w : SW) (ret : SRt) : SX := match st with
  | x :: st' => cond (Nat.beq x.1 0) (sx_br op off pc lv st' w x.2.2 ret) none
  | _ => none
def sx_cs (K : SK) (x : SE) : List Int → Int → (Int → SK → SX) → SX
  | [], _, _ => some []
  | o :: os, v, k => sapp (seq0 K (saddc x (-v)) (k o)) (sx_cs K x os (v + 1) k)
theorem sx_cs_ok {ρ : Nat → Int} {K : SK} {x : SE} {k : Int → SK → SX} {xs : List SS} (hK : sK ρ K) {o : Int} : ∀ {os : List Int} {v : Int}, v ≤ sev ρ x → os[(sev ρ x - v).toNat]? = some o → sub (sx_cs K x os v k) xs → ∃ K', sK ρ K' ∧ sub (k o K') xs := by
  intro os
  induction os with
  | nil => intro v _ h; simp at h
  | cons a os ih =>
    intro v hv h hs
    obtain ⟨h1, h2⟩ := sub_app hs
    by_cases hc : sev ρ x = v
    · rw [hc, Int.sub_self] at h
      cases h
      exact seq0_ok hK h1 (by rw [saddc_ev]; omega)
    · refine ih (by omega) ?_ h2
      have e : (sev ρ x - v).toNat = (sev ρ x - (v + 1)).toNat + 1 := by omega
      rw [e, List.getElem?_cons_succ] at h
      exact h
def sx_tsw (dflt lo hi : Int) (offs : List Int) (pc : Nat) (lv : SL) (st : List SV) (w : SW) (ret : SRt) : SX := match st with
  | x :: st' => cond (Nat.beq x.1 0 && decide (hi < lo + offs.length)) (sapp (sjmp pc dflt (fun t => sapp (sge w.2.2.1 (ssub (sc (lo - 1)) x.2.2) (fun K => ret t lv st' (swK w K))) (sge w.2.2.1 (saddc x.2.2 (-(hi + 1))) (fun K => ret t lv st' (swK w K))))) (sx_cs w.2.2.1 x.2.2 offs lo (fun o K => sjmp pc o (fun t => ret t lv st' (swK w K))))) none
  | _ => none
def sx_dup (pc : Nat) (lv : SL) (st : List SV) (w : SW) (ret : SRt) : SX := match st with
  | v :: st' => cond (Nat.beq (scat v) 1) (ret (pc + 1) lv (v :: v :: st') w) none
  | _ => none
def sx_dup2 (pc : Nat) (lv : SL) (st : List SV) (w : SW) (ret : SRt) : SX := match st with
  | v :: u :: st' => cond (Nat.beq (scat v) 1 && Nat.beq (scat u) 1) (ret (pc + 1) lv (v :: u :: v :: u :: st') w) none
  | _ => none
def sx_pop (pc : Nat) (lv : SL) (st : List SV) (w : SW) (ret : SRt) : SX := match st with
  | v :: st' => cond (Nat.beq (scat v) 1) (ret (pc + 1) lv st' w) none
  | _ => none
def sx_iinc (nL i : Nat) (n : Int) (pc : Nat) (lv : SL) (st : List SV) (w : SW) (ret : SRt) : SX := match slk lv i with
  | some v => cond (sti v && Nat.blt i nL) (saddI lv st w (saddc v.2.2 (Int32.ofInt n).toInt) (fun e w => sll (lv.filter (skeep i)) (fun lr => ret (pc + 3) ((i, (0, 0, e)) :: lr) st w))) none
  | none => none
section SMO
variable {p : Program} {l : Launch} {e : Env} {R : Room} {s : State} {m : MethodId} {args : Array Value} {below : List Frame} {meth : Method} {c : Code} {Q : State → Prop} {dC : Nat → ClassId} {dI : Nat → Nat → Nat} {cA : Nat → ClassId} {A : Nat → Prop} {nL : Nat} {fm : List SF} {rg : SRg} {X : SMem → Prop} {fI : Nat → List Int → SMem → Prop} {wr : SWr} {scr n0 : Nat} {ρ0 : Nat → Int} {M0 : SMem} {ad0 : SAd} {nc0 ns0 : Nat} {cc : ByteArray} {pc : Nat} {lv : SL} {st : List SV} {w : SW} {ret : SRt} {xs : List SS} {own : String}
theorem ss_un {ta tc : Nat} {op : SL → List SV → SW → SE → (SE → SW → SX) → SX} (ha : ta < 2)
    (hop : ∀ (st : List SV) (x : SE) (ρ : Nat → Int) (M : SMem) (ad : SAd) (ws : va_W) (H : Heap) (locs : List Loc) (ls : Array Slot) (clv : ZL) (cst : List Value) (a : Value) (k : SE → SW → SX), sRel fm rg X fI wr scr n0 ρ0 M0 ad0 dC dI cA A s.heap nL lv st w ρ M ad ws H locs ls clv cst → sfit ta a (sev ρ x) → sub (op lv st w x k) xs → ∃ (cv : Value) (z : Int), sfit tc cv z ∧ (∃ (ρ' : Nat → Int) (e' : SE) (w' : SW), z = sev ρ' e' ∧ sRel fm rg X fI wr scr n0 ρ0 M0 ad0 dC dI cA A s.heap nL lv st w' ρ' M ad ws H locs ls clv cst ∧ sub (k e' w') xs ∧ w'.2.2.2 = w.2.2.2) ∧ (W p l e R s m args below meth c H locs (nc0 + w.2.2.2.1) (ns0 + w.2.2.2.2) Q (F0 m (pc + 1) ls (cv :: cst)) → W p l e R s m args below meth c H locs (nc0 + w.2.2.2.1) (ns0 + w.2.2.2.2) Q (F0 m pc ls (a :: cst))))
    (h : sub (sx_un ta tc op pc lv st w ret) xs) (Hk : ∀ (pc : Nat) (lv : SL) (st : List SV) (w : SW), sub (ret pc lv st w) xs → sW p l e R s m args below meth c Q dC dI cA A nL fm rg X fI wr scr n0 ρ0 M0 ad0 nc0 ns0 pc lv st w) : sW p l e R s m args below meth c Q dC dI cA A nL fm rg X fI wr scr n0 ρ0 M0 ad0 nc0 ns0 pc lv st w := by
  match st, h with
  | [], h => exact (sub_none h).elim
  | x :: st', h =>
    obtain ⟨h0, h⟩ := sub_cond h
    intro ρ M ad ws H locs ls clv cst ⟨⟨ag, hn, hK⟩, ⟨r1, hI, hmo, hfr⟩, r2, r3, r4, r5, r6, r7⟩
    obtain ⟨cx, cr, rfl, h7, h8⟩ := svs_cons r7
    obtain ⟨cv, z, h9, ⟨ρ', e', w', h10, h11, h12, h13⟩, h14⟩ := hop st' x.2.2 ρ M ad ws H locs ls clv cr cx _ ⟨⟨ag, hn, hK⟩, ⟨r1, hI, hmo, hfr⟩, r2, r3, r4, r5, r6, h8⟩ (sv_fit h0 ha h7) h
    apply h14
    have := Hk _ _ _ _ h12 ρ' M ad ws H locs ls clv (cv :: cr) ⟨h11.1, h11.2.1, h11.2.2.1, h11.2.2.2.1, h11.2.2.2.2.1, h11.2.2.2.2.2.1, h11.2.2.2.2.2.2.1, sfit_sv (by rw [h10] at h9; exact h9), h11.2.2.2.2.2.2.2⟩
    rw [h13] at this
    exact this
theorem ss_i2l (hx : p.tables.exec = Jvm.exec) (hb : c.code = cc) (hdg : decode cc pc = .ok (.i2l, 1)) (h : sub (sx_un 0 1 o_id pc lv st w ret) xs) (Hk : ∀ (pc : Nat) (lv : SL) (st : List SV) (w : SW), sub (ret pc lv st w) xs → sW p l e R s m args below meth c Q dC dI cA A nL fm rg X fI wr scr n0 ρ0 M0 ad0 nc0 ns0 pc lv st w) : sW p l e R s m args below meth c Q dC dI cA A nL fm rg X fI wr scr n0 ρ0 M0 ad0 nc0 ns0 pc lv st w := by
  refine ss_un (by decide) ?_ h Hk
  intro st x ρ M ad ws H locs ls clv cst a k hr ha h
  obtain ⟨a, rfl, e1⟩ := sfit0 ha
  exact ⟨_, _, sfitL a.toInt64, ⟨ρ, x, w, by rw [Int32.toInt_toInt64, e1], hr, h, rfl⟩, lv_i2l hx hb hdg rfl⟩
theorem ss_l2i (hx : p.tables.exec = Jvm.exec) (hb : c.code = cc) (hdg : decode cc pc = .ok (.l2i, 1)) (h : sub (sx_un 1 0 (o_lin (-2147483648) 2147483647) pc lv st w ret) xs) (Hk : ∀ (pc : Nat) (lv : SL) (st : List SV) (w : SW), sub (ret pc lv st w) xs → sW p l e R s m args below meth c Q dC dI cA A nL fm rg X fI wr scr n0 ρ0 M0 ad0 nc0 ns0 pc lv st w) : sW p l e R s m args below meth c Q dC dI cA A nL fm rg X fI wr scr n0 ρ0 M0 ad0 nc0 ns0 pc lv st w := by
  refine ss_un (by decide) ?_ h Hk
  intro st x ρ M ad ws H locs ls clv cst a k hr ha h
  obtain ⟨a, rfl, e1⟩ := sfit1 ha
  exact ⟨_, _, sfitI a.toInt32, slin_ok hr (si32 _).1 (si32 _).2 (fun q => by rw [Int64.toInt_toInt32, e1, sbm32 q.1 q.2]) h, lv_l2i hx hb hdg rfl⟩
theorem ss_i2c (hx : p.tables.exec = Jvm.exec) (hb : c.code = cc) (hdg : decode cc pc = .ok (.i2c, 1)) (h : sub (sx_un 0 0 (o_lin 0 65535) pc lv st w ret) xs) (Hk : ∀ (pc : Nat) (lv : SL) (st : List SV) (w : SW), sub (ret pc lv st w) xs → sW p l e R s m args below meth c Q dC dI cA A nL fm rg X fI wr scr n0 ρ0 M0 ad0 nc0 ns0 pc lv st w) : sW p l e R s m args below meth c Q dC dI cA A nL fm rg X fI wr scr n0 ρ0 M0 ad0 nc0 ns0 pc lv st w := by
  refine ss_un (by decide) ?_ h Hk
  intro st x ρ M ad ws H locs ls clv cst a k hr ha h
  obtain ⟨a, rfl, e1⟩ := sfit0 ha
  have h2 := s2c a
  exact ⟨_, _, sfitI (a.toUInt32 % 65536).toInt32, slin_ok hr h2.1 h2.2.1 (fun q => by rw [← e1] at q ⊢; exact h2.2.2 q) h, lv_i2c hx hb hdg rfl⟩
theorem ss_lcmp (hx : p.tables.exec = Jvm.exec) (hb : c.code = cc) (hdg : decode cc pc = .ok (.lcmp, 1)) (h : sub (sx_lcmp pc lv st w ret) xs) (Hk : ∀ (pc : Nat) (lv : SL) (st : List SV) (w : SW), sub (ret pc lv st w) xs → sW p l e R s m args below meth c Q dC dI cA A nL fm rg X fI wr scr n0 ρ0 M0 ad0 nc0 ns0 pc lv st w) : sW p l e R s m args below meth c Q dC dI cA A nL fm rg X fI wr scr n0 ρ0 M0 ad0 nc0 ns0 pc lv st w := by
  match st, h with
  | [], h => exact (sub_none h).elim
  | [_], h => exact (sub_none h).elim
  | y :: x :: st', h =>
    obtain ⟨h0, h⟩ := sub_cond h
    rw [Bool.and_eq_true] at h0
    rw [sfe_eq] at h
    intro ρ M ad ws H locs ls clv cst ⟨⟨ag, hn, hK⟩, ⟨r1, hI, hmo, hfr⟩, r2, r3, r4, r5, r6, r7⟩
    obtain ⟨cy, cr, rfl, h5, h6⟩ := svs_cons r7
    obtain ⟨cx, cr, rfl, h7, h8⟩ := svs_cons h6
    obtain ⟨a, rfl, e1⟩ := sv_lng h0.1 h7
    obtain ⟨b, rfl, e2⟩ := sv_lng h0.2 h5
    obtain ⟨k1, k2⟩ := sub_app h
    obtain ⟨k2, k3⟩ := sub_app k2
    refine W.lcmp hx hb hdg ?_
    unfold lg_cmp
    by_cases c1 : a > b
    · rw [if_pos c1]
      have c1 : b.toInt < a.toInt := Int64.lt_iff_toInt_lt.mp c1
      obtain ⟨K, q1, q2⟩ := sge_ok hK k3 (by rw [saddc_ev, ssub_ev]; omega)
      exact Hk _ _ _ _ q2 ρ M ad ws H locs ls clv _ ⟨⟨ag, hn, q1⟩, ⟨r1, hI, hmo, hfr⟩, r2, r3, r4, r5, r6, sv_mkI (by rw [sev_c]; rfl), h8⟩
    · rw [if_neg c1]
      have c1 : ¬ b.toInt < a.toInt := fun q => c1 (Int64.lt_iff_toInt_lt.mpr q)
      by_cases c2 : a = b
      · rw [if_pos c2]
        obtain ⟨K, q1, q2⟩ := seq0_ok hK k2 (by rw [ssub_ev, ← e1, ← e2, c2]; omega)
        exact Hk _ _ _ _ q2 ρ M ad ws H locs ls clv _ ⟨⟨ag, hn, q1⟩, ⟨r1, hI, hmo, hfr⟩, r2, r3, r4, r5, r6, sv_mkI (by rw [sev_c]; rfl), h8⟩
      · rw [if_neg c2]
        have c2 : a.toInt ≠ b.toInt := fun q => c2 (Int64.toInt_inj.mp q)
        obtain ⟨K, q1, q2⟩ := sge_ok hK k1 (by rw [saddc_ev, sneg_ev, ssub_ev]; omega)
        exact Hk _ _ _ _ q2 ρ M ad ws H locs ls clv _ ⟨⟨ag, hn, q1⟩, ⟨r1, hI, hmo, hfr⟩, r2, r3, r4, r5, r6, sv_mkI (by rw [sev_c]; rfl), h8⟩
theorem ss_br {op : ClassFile.Cond} {off : Int} {d : SE} {ρ : Nat → Int} {M : SMem} {ad : SAd} {ws : va_W} {H : Heap} {locs : List Loc} {ls : Array Slot} {clv : ZL} {cst : List Value} (hr : sRel fm rg X fI wr scr n0 ρ0 M0 ad0 dC dI cA A s.heap nL lv st w ρ M ad ws H locs ls clv cst) (h : sub (sx_br op off pc lv st w d ret) xs) (Hk : ∀ (pc : Nat) (lv : SL) (st : List SV) (w : SW), sub (ret pc lv st w) xs → sW p l e R s m args below meth c Q dC dI cA A nL fm rg X fI wr scr n0 ρ0 M0 ad0 nc0 ns0 pc lv st w) : ∃ tgt : Nat, (pc : Int) + off = (tgt : Int) ∧ (sCmp op (sev ρ d) → W p l e R s m args below meth c H locs (nc0 + w.2.2.2.1) (ns0 + w.2.2.2.2) Q (F0 m tgt ls cst)) ∧ (¬ sCmp op (sev ρ d) → W p l e R s m args below meth c H locs (nc0 + w.2.2.2.1) (ns0 + w.2.2.2.2) Q (F0 m (pc + 3) ls cst)) := by
  unfold sx_br at h
  rw [sfe_eq] at h
  obtain ⟨h1, h2⟩ := sub_app h
  obtain ⟨tgt, ht, h1⟩ := sjmp_ok h1
  refine ⟨tgt, ht, fun q => ?_, fun q => ?_⟩
  · obtain ⟨K, q1, q2⟩ := scn_ok (srel_sK hr) h1 q
    obtain ⟨K, q1, q2⟩ := sag_ok hr.2.1.2.2.1.1 q1 q2
    exact Hk _ _ _ _ q2 ρ M ad ws H locs ls clv _ (srel_K hr q1)
  · obtain ⟨K, q1, q2⟩ := scnN_ok (srel_sK hr) h2 q
    obtain ⟨K, q1, q2⟩ := sag_ok hr.2.1.2.2.1.1 q1 q2
    exact Hk _ _ _ _ q2 ρ M ad ws H locs ls clv _ (srel_K hr q1)
theorem ss_icmp (hx : p.tables.exec = Jvm.exec) (hb : c.code = cc) {op : ClassFile.Cond} {off : Int} (hdg : decode cc pc = .ok (.if_icmp op off, 3)) (h : sub (sx_icmp op off pc lv st w ret) xs) (Hk : ∀ (pc : Nat) (lv : SL) (st : List SV) (w : SW), sub (ret pc lv st w) xs → sW p l e R s m args below meth c Q dC dI cA A nL fm rg X fI wr scr n0 ρ0 M0 ad0 nc0 ns0 pc lv st w) : sW p l e R s m args below meth c Q dC dI cA A nL fm rg X fI wr scr n0 ρ0 M0 ad0 nc0 ns0 pc lv st w := by
  match st, h with
  | [], h => exact (sub_none h).elim
  | [_], h => exact (sub_none h).elim
  | y :: x :: st', h =>
    obtain ⟨h0, h⟩ := sub_cond h
    rw [Bool.and_eq_true] at h0
    intro ρ M ad ws H locs ls clv cst ⟨⟨ag, hn, hK⟩, ⟨r1, hI, hmo, hfr⟩, r2, r3, r4, r5, r6, r7⟩
    obtain ⟨cy, cr, rfl, h5, h6⟩ := svs_cons r7
    obtain ⟨cx, cr, rfl, h7, h8⟩ := svs_cons h6
    obtain ⟨a, rfl, e1⟩ := sv_int h0.1 h7
    obtain ⟨b, rfl, e2⟩ := sv_int h0.2 h5
    obtain ⟨tgt, ht, k1, k2⟩ := ss_br ⟨⟨ag, hn, hK⟩, ⟨r1, hI, hmo, hfr⟩, r2, r3, r4, r5, r6, h8⟩ h Hk
    rw [ssub_ev, ← e1, ← e2] at k1 k2
    refine zw_icmp hx hb hdg ht (fun q => k1 (szro.mp q)) (fun q => k2 (fun z => ?_))
    rw [szro.mpr z] at q
    cases q
theorem ss_if (hx : p.tables.exec = Jvm.exec) (hb : c.code = cc) {op : ClassFile.Cond} {off : Int} (hdg : decode cc pc = .ok (.ifCond op off, 3)) (h : sub (sx_if op off pc lv st w ret) xs) (Hk : ∀ (pc : Nat) (lv : SL) (st : List SV) (w : SW), sub (ret pc lv st w) xs → sW p l e R s m args below meth c Q dC dI cA A nL fm rg X fI wr scr n0 ρ0 M0 ad0 nc0 ns0 pc lv st w) : sW p l e R s m args below meth c Q dC dI cA A nL fm rg X fI wr scr n0 ρ0 M0 ad0 nc0 ns0 pc lv st w := by
  match st, h with
  | [], h => exact (sub_none h).elim
  | x :: st', h =>
    obtain ⟨h0, h⟩ := sub_cond h
    intro ρ M ad ws H locs ls clv cst ⟨⟨ag, hn, hK⟩, ⟨r1, hI, hmo, hfr⟩, r2, r3, r4, r5, r6, r7⟩
    obtain ⟨cx, cr, rfl, h7, h8⟩ := svs_cons r7
    obtain ⟨a, rfl, e1⟩ := sv_int h0 h7
    obtain ⟨tgt, ht, k1, k2⟩ := ss_br ⟨⟨ag, hn, hK⟩, ⟨r1, hI, hmo, hfr⟩, r2, r3, r4, r5, r6, h8⟩ h Hk
    have e3 : a.toInt - (0 : Int32).toInt = sev ρ x.2.2 := by
      have : (0 : Int32).toInt = 0 := rfl
      omega
    rw [← e3] at k1 k2
    refine zw_if hx hb hdg ht (fun q => k1 (szro.mp q)) (fun q => k2 (fun z => ?_))
    rw [szro.mpr z] at q
    cases q
theorem ss_goto (hx : p.tables.exec = Jvm.exec) (hb : c.code = cc) {off : Int} (hdg : decode cc pc = .ok (.goto off, 3)) (h : sub (sjmp pc off (fun t => ret t lv st w)) xs) (Hk : ∀ (pc : Nat) (lv : SL) (st : List SV) (w : SW), sub (ret pc lv st w) xs → sW p l e R s m args below meth c Q dC dI cA A nL fm rg X fI wr scr n0 ρ0 M0 ad0 nc0 ns0 pc lv st w) : sW p l e R s m args below meth c Q dC dI cA A nL fm rg X fI wr scr n0 ρ0 M0 ad0 nc0 ns0 pc lv st w := by
  obtain ⟨tgt, h1, h2⟩ := sjmp_ok h
  intro ρ M ad ws H locs ls clv cst ⟨⟨ag, hn, hK⟩, ⟨r1, hI, hmo, hfr⟩, r2, r3, r4, r5, r6, r7⟩
  exact lv_goto hx hb hdg h1 (Hk _ _ _ _ h2 ρ M ad ws H locs ls clv _ ⟨⟨ag, hn, hK⟩, ⟨r1, hI, hmo, hfr⟩, r2, r3, r4, r5, r6, r7⟩)
theorem ss_tsw (hx : p.tables.exec = Jvm.exec) (hb : c.code = cc) {dflt lo hi : Int} {offs : Array Int} {len : Nat} (hdg : decode cc pc = .ok (.tableswitch dflt lo hi offs, len)) (h : sub (sx_tsw dflt lo hi offs.toList pc lv st w ret) xs) (Hk : ∀ (pc : Nat) (lv : SL) (st : List SV) (w : SW), sub (ret pc lv st w) xs → sW p l e R s m args below meth c Q dC dI cA A nL fm rg X fI wr scr n0 ρ0 M0 ad0 nc0 ns0 pc lv st w) : sW p l e R s m args below meth c Q dC dI cA A nL fm rg X fI wr scr n0 ρ0 M0 ad0 nc0 ns0 pc lv st w := by
  match st, h with
  | [], h => exact (sub_none h).elim
  | x :: st', h =>
    obtain ⟨h0, h⟩ := sub_cond h
    rw [Bool.and_eq_true] at h0
    have hl : hi < lo + offs.toList.length := of_decide_eq_true h0.2
    intro ρ M ad ws H locs ls clv cst ⟨⟨ag, hn, hK⟩, ⟨r1, hI, hmo, hfr⟩, r2, r3, r4, r5, r6, r7⟩
    obtain ⟨cx, cr, rfl, h7, h8⟩ := svs_cons r7
    obtain ⟨a, rfl, e1⟩ := sv_int h0.1 h7
    obtain ⟨h1, h2⟩ := sub_app h
    obtain ⟨tgt, ht, h1⟩ := sjmp_ok h1
    obtain ⟨h3, h4⟩ := sub_app h1
    by_cases q1 : a.toInt < lo
    · obtain ⟨K, z1, z2⟩ := sge_ok hK h3 (by rw [ssub_ev, sev_c]; omega)
      exact lv_tableOut hx hb hdg (Or.inl q1) ht (Hk _ _ _ _ z2 ρ M ad ws H locs ls clv _ ⟨⟨ag, hn, z1⟩, ⟨r1, hI, hmo, hfr⟩, r2, r3, r4, r5, r6, h8⟩)
    · by_cases q2 : a.toInt < hi + 1
      · have hlt : (a.toInt - lo).toNat < offs.toList.length := by omega
        have ho : offs[(a.toInt - lo).toNat]? = some (offs.toList[(a.toInt - lo).toNat]) := by
          rw [← Array.getElem?_toList, List.getElem?_eq_getElem hlt]
        have ho2 : offs.toList[(sev ρ x.2.2 - lo).toNat]? = some (offs.toList[(a.toInt - lo).toNat]) := by
          rw [← e1, List.getElem?_eq_getElem hlt]
        obtain ⟨K, z1, z2⟩ := sx_cs_ok hK (by omega) ho2 h2
        obtain ⟨tgt2, ht2, z2⟩ := sjmp_ok z2
        exact lv_tableIn hx hb hdg q1 (by omega) ho ht2 (Hk _ _ _ _ z2 ρ M ad ws H locs ls clv _ ⟨⟨ag, hn, z1⟩, ⟨r1, hI, hmo, hfr⟩, r2, r3, r4, r5, r6, h8⟩)
      · obtain ⟨K, z1, z2⟩ := sge_ok hK h4 (by rw [saddc_ev]; omega)
        exact lv_tableOut hx hb hdg (Or.inr (by omega)) ht (Hk _ _ _ _ z2 ρ M ad ws H locs ls clv _ ⟨⟨ag, hn, z1⟩, ⟨r1, hI, hmo, hfr⟩, r2, r3, r4, r5, r6, h8⟩)
theorem ss_dup (hx : p.tables.exec = Jvm.exec) (hb : c.code = cc) (hdg : decode cc pc = .ok (.dup, 1)) (h : sub (sx_dup pc lv st w ret) xs) (Hk : ∀ (pc : Nat) (lv : SL) (st : List SV) (w : SW), sub (ret pc lv st w) xs → sW p l e R s m args below meth c Q dC dI cA A nL fm rg X fI wr scr n0 ρ0 M0 ad0 nc0 ns0 pc lv st w) : sW p l e R s m args below meth c Q dC dI cA A nL fm rg X fI wr scr n0 ρ0 M0 ad0 nc0 ns0 pc lv st w := by
  match st, h with
  | [], h => exact (sub_none h).elim
  | v :: st', h =>
    obtain ⟨h0, h⟩ := sub_cond h
    intro ρ M ad ws H locs ls clv cst ⟨⟨ag, hn, hK⟩, ⟨r1, hI, hmo, hfr⟩, r2, r3, r4, r5, r6, r7⟩
    obtain ⟨cv, cr, rfl, h7, h8⟩ := svs_cons r7
    exact lv_dup hx hb hdg ((sv_cat h7).trans (Nat.beq_eq.mp h0)) (Hk _ _ _ _ h ρ M ad ws H locs ls clv _ ⟨⟨ag, hn, hK⟩, ⟨r1, hI, hmo, hfr⟩, r2, r3, r4, r5, r6, h7, h7, h8⟩)
theorem ss_dup2 (hx : p.tables.exec = Jvm.exec) (hb : c.code = cc) (hdg : decode cc pc = .ok (.dup2, 1)) (h : sub (sx_dup2 pc lv st w ret) xs) (Hk : ∀ (pc : Nat) (lv : SL) (st : List SV) (w : SW), sub (ret pc lv st w) xs → sW p l e R s m args below meth c Q dC dI cA A nL fm rg X fI wr scr n0 ρ0 M0 ad0 nc0 ns0 pc lv st w) : sW p l e R s m args below meth c Q dC dI cA A nL fm rg X fI wr scr n0 ρ0 M0 ad0 nc0 ns0 pc lv st w := by
  match st, h with
  | [], h => exact (sub_none h).elim
  | [_], h => exact (sub_none h).elim
  | v :: u :: st', h =>
    obtain ⟨h0, h⟩ := sub_cond h
    rw [Bool.and_eq_true] at h0
    intro ρ M ad ws H locs ls clv cst ⟨⟨ag, hn, hK⟩, ⟨r1, hI, hmo, hfr⟩, r2, r3, r4, r5, r6, r7⟩
    obtain ⟨cv, cr, rfl, h7, h8⟩ := svs_cons r7
    obtain ⟨cw, cr, rfl, h9, h10⟩ := svs_cons h8
    exact lv_dup2_11 hx hb hdg ((sv_cat h7).trans (Nat.beq_eq.mp h0.1)) ((sv_cat h9).trans (Nat.beq_eq.mp h0.2)) (Hk _ _ _ _ h ρ M ad ws H locs ls clv _ ⟨⟨ag, hn, hK⟩, ⟨r1, hI, hmo, hfr⟩, r2, r3, r4, r5, r6, h7, h9, h7, h9, h10⟩)
theorem ss_pop (hx : p.tables.exec = Jvm.exec) (hb : c.code = cc) (hdg : decode cc pc = .ok (.pop, 1)) (h : sub (sx_pop pc lv st w ret) xs) (Hk : ∀ (pc : Nat) (lv : SL) (st : List SV) (w : SW), sub (ret pc lv st w) xs → sW p l e R s m args below meth c Q dC dI cA A nL fm rg X fI wr scr n0 ρ0 M0 ad0 nc0 ns0 pc lv st w) : sW p l e R s m args below meth c Q dC dI cA A nL fm rg X fI wr scr n0 ρ0 M0 ad0 nc0 ns0 pc lv st w := by
  match st, h with
  | [], h => exact (sub_none h).elim
  | v :: st', h =>
    obtain ⟨h0, h⟩ := sub_cond h
    intro ρ M ad ws H locs ls clv cst ⟨⟨ag, hn, hK⟩, ⟨r1, hI, hmo, hfr⟩, r2, r3, r4, r5, r6, r7⟩
    obtain ⟨cv, cr, rfl, h7, h8⟩ := svs_cons r7
    exact lv_pop hx hb hdg ((sv_cat h7).trans (Nat.beq_eq.mp h0)) (Hk _ _ _ _ h ρ M ad ws H locs ls clv _ ⟨⟨ag, hn, hK⟩, ⟨r1, hI, hmo, hfr⟩, r2, r3, r4, r5, r6, h8⟩)
theorem ss_iinc (hx : p.tables.exec = Jvm.exec) (hb : c.code = cc) {i : Nat} {n : Int} (hdg : decode cc pc = .ok (.iinc i n, 3)) (h : sub (sx_iinc nL i n pc lv st w ret) xs) (Hk : ∀ (pc : Nat) (lv : SL) (st : List SV) (w : SW), sub (ret pc lv st w) xs → sW p l e R s m args below meth c Q dC dI cA A nL fm rg X fI wr scr n0 ρ0 M0 ad0 nc0 ns0 pc lv st w) : sW p l e R s m args below meth c Q dC dI cA A nL fm rg X fI wr scr n0 ρ0 M0 ad0 nc0 ns0 pc lv st w := by
  unfold sx_iinc at h
  cases hl : slk lv i with
  | none => rw [hl] at h; exact (sub_none h).elim
  | some v =>
    rw [hl] at h
    obtain ⟨h0, h⟩ := sub_cond h
    rw [Bool.and_eq_true] at h0
    intro ρ M ad ws H locs ls clv cst ⟨⟨ag, hn, hK⟩, ⟨r1, hI, hmo, hfr⟩, r2, r3, r4, r5, r6, r7⟩
    obtain ⟨k, cv, h4, h5⟩ := sls_get r6 hl
    obtain ⟨x, rfl, e1⟩ := sv_int h0.1 h5
    obtain ⟨ρ', e', w', h10, h11, h12, h13⟩ := saddI_ok (z := (x + Int32.ofInt n).toInt) (a := x) (b := Int32.ofInt n) ⟨⟨ag, hn, hK⟩, ⟨r1, hI, hmo, hfr⟩, r2, r3, r4, r5, r6, r7⟩ rfl (by rw [saddc_ev, e1]) h
    rw [sll_eq] at h12
    refine lv_iinc hx hb hdg r5 h4 rfl (zblt h0.2) rfl (fun ls' hl' => ?_)
    have := Hk _ _ _ _ h12 ρ' M ad ws H locs ls' _ cst ⟨h11.1, h11.2.1, h11.2.2.1, h11.2.2.2.1, h11.2.2.2.2.1, hl', ⟨rfl, sv_mkI h10, sls_filter i h11.2.2.2.2.2.2.1⟩, h11.2.2.2.2.2.2.2⟩
    rw [h13] at this
    exact this
end SMO
