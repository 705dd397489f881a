/-! steps: each is the machine's own -/
def snw (w : SW) (lo hi : Int) : SW := (w.1, w.2.1 + 1, ((w.2.1, lo, hi) :: w.2.2.1.1, w.2.2.1.2), w.2.2.2)
/-- a number that is new -/
def snew (lv : SL) (st : List SV) (w : SW) (lo hi : Int) (k : SE → SW → SX) : SX := cond (sbS w.2.1 lv st w) (sn w.2.1 (fun n => k (sy n) (w.1, n + 1, ((n, lo, hi) :: w.2.2.1.1, w.2.2.1.2), w.2.2.2))) none
def swK (w : SW) (K : SK) : SW := (w.1, w.2.1, K, w.2.2.2)
section SST
variable {p : Program} {l : Launch} {e : Env} {R : Room} {s : State} {m : MethodId} {args : Array Value} {below : List Frame} {meth : Method} {c : Code} {Q : State → Prop} {dC : Nat → ClassId} {dI : Nat → Nat → Nat} {cA : Nat → ClassId} {A : Nat → Prop} {nL : Nat} {fm : List SF} {rg : SRg} {X : SMem → Prop} {fI : Nat → List Int → SMem → Prop} {wr : SWr} {scr n0 : Nat} {ρ0 : Nat → Int} {M0 : SMem} {ad0 : SAd} {nc0 ns0 : Nat} {cc : ByteArray} {pc : Nat} {lv : SL} {st : List SV} {w : SW} {ret : SRt} {xs : List SS} {own : String}
theorem sK_ag {n : Nat} {ρ ρ' : Nat → Int} (ha : ∀ t, t < n → ρ' t = ρ t) {K : SK} (hb : sbK n K = true) (h : sK ρ K) : sK ρ' K := by
  unfold sbK at hb
  rw [Bool.and_eq_true] at hb
  refine ⟨fun q hq => ?_, fun r hr => ?_⟩
  · rw [ha q.1 (zblt (sall_ok hb.1 q hq))]
    exact h.1 q hq
  · rw [sbe_ev ha (sall_ok hb.2 r hr)]
    exact h.2 r hr
theorem smap_ag {n : Nat} {ρ ρ' : Nat → Int} (ha : ∀ t, t < n → ρ' t = ρ t) : ∀ {l : List SE}, sall (sbe n) l = true → l.map (sev ρ') = l.map (sev ρ) := by
  intro l h
  exact List.map_congr_left fun e he => sbe_ev ha (sall_ok h e he)
theorem smo_ag {n : Nat} {ρ ρ' : Nat → Int} (ha : ∀ t, t < n → ρ' t = ρ t) {M : SMem} {ms : SMS} (h1 : sall (sbM n) ms.1 = true) (h2 : sall (sbF n) ms.2 = true) (h : smo fI ρ M ms) : smo fI ρ' M ms := by
  refine ⟨fun q hq => ?_, fun q hq => ?_⟩
  · have hb := sall_ok h1 q hq
    simp only [sbM, Bool.and_eq_true] at hb
    rw [sbe_ev ha hb.1, sbe_ev ha hb.2.1, sbe_ev ha hb.2.2]
    exact h.1 q hq
  · rw [smap_ag ha (sall_ok h2 q hq)]
    exact h.2 q hq
theorem svs_ag {n : Nat} {ρ ρ' : Nat → Int} {ad : SAd} (ha : ∀ t, t < n → ρ' t = ρ t) {vs : List SV} {cs : List Value} (hb : sall (fun v => sbe n v.2.2) vs = true) (h : svs fm scr ρ ad vs cs) : svs fm scr ρ' ad vs cs :=
  svs_mono (fun v => sbe n v.2.2) (fun _ _ h1 h2 => sv_ag ha h1 h2) (sall_ok hb) h
theorem sls_ag {n : Nat} {ρ ρ' : Nat → Int} {ad : SAd} (ha : ∀ t, t < n → ρ' t = ρ t) {vs : SL} {cs : ZL} (hb : sall (fun q => sbe n q.2.2.2) vs = true) (h : sls fm scr ρ ad vs cs) : sls fm scr ρ' ad vs cs :=
  sls_mono (fun v => sbe n v.2.2) (fun _ _ h1 h2 => sv_ag ha h1 h2) (sall_ok hb) h
theorem snew_ok {ρ : Nat → Int} {M : SMem} {ad : SAd} {ws : va_W} {H : Heap} {locs : List Loc} {ls : Array Slot} {clv : ZL} {cst : List Value} {x lo hi : Int} {k : SE → SW → SX} (hr : sRel fm rg X fI wr scr n0 ρ0 M0 ad0 dC dI cA A s.heap nL lv st w ρ M ad ws H locs ls clv cst) (h1 : lo ≤ x) (h2 : x ≤ hi) (h : sub (snew lv st w lo hi k) xs) :
    ∃ ρ' : Nat → Int, (∀ t, t < w.2.1 → ρ' t = ρ t) ∧ sbS w.2.1 lv st w = true ∧ sev ρ' (sy w.2.1) = x ∧ sRel fm rg X fI wr scr n0 ρ0 M0 ad0 dC dI cA A s.heap nL lv st (snw w lo hi) ρ' M ad ws H locs ls clv cst ∧ sub (k (sy w.2.1) (snw w lo hi)) xs := by
  obtain ⟨hb, h⟩ := sub_cond h
  rw [sn_eq] at h
  obtain ⟨⟨ag, hn, hK⟩, ⟨r1, hI, hmo, hfr⟩, r2, r3, r4, r5, r6, r7⟩ := hr
  have ha : ∀ t, t < w.2.1 → (fun t => if t = w.2.1 then x else ρ t) t = ρ t := fun t ht => if_neg (by omega)
  have hb2 := hb
  simp only [sbS, sbW, Bool.and_eq_true] at hb2
  obtain ⟨b1, b2, b3, b4, b5⟩ := hb2
  refine ⟨fun t => if t = w.2.1 then x else ρ t, ha, hb, by rw [sev_y]; exact if_pos rfl, ⟨⟨fun t ht => (ha t (Nat.lt_of_lt_of_le ht hn)).trans (ag t ht), Nat.le_succ_of_le hn, ?_⟩, ⟨r1, hI, smo_ag ha b3 b4 hmo, hfr⟩, r2, r3, r4, r5, sls_ag ha b1 r6, svs_ag ha b2 r7⟩, h⟩
  have hK2 := sK_ag ha b5 hK
  refine ⟨fun q hq => ?_, hK2.2⟩
  rcases List.mem_cons.mp hq with rfl | hq
  · show lo ≤ (if w.2.1 = w.2.1 then x else ρ w.2.1) ∧ (if w.2.1 = w.2.1 then x else ρ w.2.1) ≤ hi
    rw [if_pos rfl]
    exact ⟨h1, h2⟩
  · exact hK2.1 q hq
theorem sv_int {ρ : Nat → Int} {ad : SAd} {v : SV} {cv : Value} (h0 : Nat.beq v.1 0 = true) (h : sv fm scr ρ ad v cv) : ∃ x : Int32, cv = .int x ∧ x.toInt = sev ρ v.2.2 := by
  have h0 := Nat.beq_eq.mp h0
  rcases h with ⟨-, h⟩ | ⟨h, -⟩ | ⟨h, -⟩ | ⟨h, -⟩
  · exact h
  · omega
  · omega
  · omega
theorem sv_lng {ρ : Nat → Int} {ad : SAd} {v : SV} {cv : Value} (h0 : Nat.beq v.1 1 = true) (h : sv fm scr ρ ad v cv) : ∃ x : Int64, cv = .long x ∧ x.toInt = sev ρ v.2.2 := by
  have h0 := Nat.beq_eq.mp h0
  rcases h with ⟨h, -⟩ | ⟨-, h⟩ | ⟨h, -⟩ | ⟨h, -⟩
  · omega
  · exact h
  · omega
  · omega
theorem sv_ref {ρ : Nat → Int} {ad : SAd} {v : SV} {cv : Value} (h0 : Nat.ble 2 v.1 = true) (h : sv fm scr ρ ad v cv) : ∃ a : Nat, cv = .ref a := by
  have h0 := Nat.le_of_ble_eq_true h0
  rcases h with ⟨h, -⟩ | ⟨h, -⟩ | ⟨h, j, en, -, -, -, h2⟩ | ⟨h, h2⟩
  · omega
  · omega
  · exact ⟨_, h2⟩
  · exact ⟨_, h2⟩
theorem sv_mkI {ρ : Nat → Int} {ad : SAd} {e : SE} {x : Int32} (h : x.toInt = sev ρ e) : sv fm scr ρ ad (0, 0, e) (.int x) := Or.inl ⟨rfl, x, rfl, h⟩
theorem sv_mkL {ρ : Nat → Int} {ad : SAd} {e : SE} {x : Int64} (h : x.toInt = sev ρ e) : sv fm scr ρ ad (1, 0, e) (.long x) := Or.inr (Or.inl ⟨rfl, x, rfl, h⟩)
/-- a value that is known is put on the stack -/
theorem ss_push {v : SV} {cv : Value} {n : Nat} (hv : ∀ ρ ad, sv fm scr ρ ad v cv) (hrow : ∀ (H : Heap) (locs : List Loc) (ls : Array Slot) (cst : List Value), W p l e R s m args below meth c H locs (nc0 + w.2.2.2.1) (ns0 + w.2.2.2.2) Q (F0 m (pc + n) ls (cv :: cst)) → W p l e R s m args below meth c H locs (nc0 + w.2.2.2.1) (ns0 + w.2.2.2.2) Q (F0 m pc ls cst)) (h : sub (ret (pc + n) lv (v :: st) w) xs) (Hk : ∀ (pc : Nat) (lv : SL) (st : List SV) (w : SW), sub (ret pc lv st w) xs → sW p l e R s m args below meth c Q dC dI cA A nL fm rg X fI wr scr n0 ρ0 M0 ad0 nc0 ns0 pc lv st w) : sW p l e R s m args below meth c Q dC dI cA A nL fm rg X fI wr scr n0 ρ0 M0 ad0 nc0 ns0 pc lv st w := by
  intro ρ M ad ws H locs ls clv cst ⟨⟨ag, hn, hK⟩, ⟨r1, hI, hmo, hfr⟩, r2, r3, r4, r5, r6, r7⟩
  exact hrow _ _ _ _ (Hk _ _ _ _ h ρ M ad ws H locs ls clv (cv :: cst) ⟨⟨ag, hn, hK⟩, ⟨r1, hI, hmo, hfr⟩, r2, r3, r4, r5, r6, hv _ _, r7⟩)
/-- a local read -/
def sx_ld (f : SV → Bool) (i n pc : Nat) (lv : SL) (st : List SV) (w : SW) (ret : SRt) : SX := match slk lv i with
  | some v => cond (f v) (ret (pc + n) lv (v :: st) w) none
  | none => none
theorem sx_ld_ok {f : SV → Bool} {i n : Nat} (h : sub (sx_ld f i n pc lv st w ret) xs) : ∃ v, slk lv i = some v ∧ f v = true ∧ sub (ret (pc + n) lv (v :: st) w) xs := by
  unfold sx_ld at h
  cases hl : slk lv i with
  | none => rw [hl] at h; exact (sub_none h).elim
  | some v =>
    rw [hl] at h
    obtain ⟨h1, h2⟩ := sub_cond h
    exact ⟨v, rfl, h1, h2⟩
def sti (v : SV) : Bool := Nat.beq v.1 0
def stl (v : SV) : Bool := Nat.beq v.1 1
def str (v : SV) : Bool := Nat.ble 2 v.1
theorem ss_ld {f : SV → Bool} {i n : Nat} (hrow : ∀ (v : SV) (ρ : Nat → Int) (ad : SAd) (cv : Value) (H : Heap) (locs : List Loc) (ls : Array Slot) (cst : List Value), f v = true → sv fm scr ρ ad v cv → ls[i]? = some (.val cv) → W p l e R s m args below meth c H locs (nc0 + w.2.2.2.1) (ns0 + w.2.2.2.2) Q (F0 m (pc + n) ls (cv :: cst)) → W p l e R s m args below meth c H locs (nc0 + w.2.2.2.1) (ns0 + w.2.2.2.2) Q (F0 m pc ls cst)) (h : sub (sx_ld f i n pc lv st w ret) xs) (Hk : ∀ (pc : Nat) (lv : SL) (st : List SV) (w : SW), sub (ret pc lv st w) xs → sW p l e R s m args below meth c Q dC dI cA A nL fm rg X fI wr scr n0 ρ0 M0 ad0 nc0 ns0 pc lv st w) : sW p l e R s m args below meth c Q dC dI cA A nL fm rg X fI wr scr n0 ρ0 M0 ad0 nc0 ns0 pc lv st w := by
  obtain ⟨v, h1, h2, h3⟩ := sx_ld_ok h
  intro ρ M ad ws H locs ls clv cst ⟨⟨ag, hn, hK⟩, ⟨r1, hI, hmo, hfr⟩, r2, r3, r4, r5, r6, r7⟩
  obtain ⟨k, cv, h4, h5⟩ := sls_get r6 h1
  exact hrow v ρ ad cv H locs ls cst h2 h5 (lv_at r5 k h4) (Hk _ _ _ _ h3 ρ M ad ws H locs ls clv _ ⟨⟨ag, hn, hK⟩, ⟨r1, hI, hmo, hfr⟩, r2, r3, r4, r5, r6, h5, r7⟩)
/-- a local written -/
def sx_st (f : SV → Bool) (nL i n pc : Nat) (lv : SL) (st : List SV) (w : SW) (ret : SRt) : SX := match st with
  | v :: st' => cond (f v && Nat.blt i nL) (sll (lv.filter (skeep i)) (fun lr => ret (pc + n) ((i, v) :: lr) st' w)) none
  | [] => none
theorem sx_st_ok {f : SV → Bool} {i n : Nat} (h : sub (sx_st f nL i n pc lv st w ret) xs) : ∃ v st', st = v :: st' ∧ f v = true ∧ i < nL ∧ sub (ret (pc + n) ((i, v) :: lv.filter (skeep i)) st' w) xs := by
  cases st with
  | nil => exact (sub_none h).elim
  | cons v st' =>
    obtain ⟨h1, h2⟩ := sub_cond h
    rw [sll_eq] at h2
    rw [Bool.and_eq_true] at h1
    exact ⟨v, st', rfl, h1.1, zblt h1.2, h2⟩
theorem ss_st {f : SV → Bool} {i n : Nat} (hrow : ∀ (v : SV) (ρ : Nat → Int) (ad : SAd) (cv : Value) (H : Heap) (locs : List Loc) (ls : Array Slot) (cst : List Value) (clv : ZL), f v = true → sv fm scr ρ ad v cv → lv_has ls nL clv → i < nL → (∀ ls' : Array Slot, lv_has ls' nL ((i, cv) :: clv.filter (zkeep i)) → W p l e R s m args below meth c H locs (nc0 + w.2.2.2.1) (ns0 + w.2.2.2.2) Q (F0 m (pc + n) ls' cst)) → W p l e R s m args below meth c H locs (nc0 + w.2.2.2.1) (ns0 + w.2.2.2.2) Q (F0 m pc ls (cv :: cst))) (h : sub (sx_st f nL i n pc lv st w ret) xs) (Hk : ∀ (pc : Nat) (lv : SL) (st : List SV) (w : SW), sub (ret pc lv st w) xs → sW p l e R s m args below meth c Q dC dI cA A nL fm rg X fI wr scr n0 ρ0 M0 ad0 nc0 ns0 pc lv st w) : sW p l e R s m args below meth c Q dC dI cA A nL fm rg X fI wr scr n0 ρ0 M0 ad0 nc0 ns0 pc lv st w := by
  obtain ⟨v, st', rfl, h2, h3, h4⟩ := sx_st_ok h
  intro ρ M ad ws H locs ls clv cst ⟨⟨ag, hn, hK⟩, ⟨r1, hI, hmo, hfr⟩, r2, r3, r4, r5, r6, r7⟩
  obtain ⟨cv, cr, rfl, h5, h6⟩ := svs_cons r7
  exact hrow v ρ ad cv H locs ls cr clv h2 h5 r5 h3 (fun ls' hl' => Hk _ _ _ _ h4 ρ M ad ws H locs ls' _ _ ⟨⟨ag, hn, hK⟩, ⟨r1, hI, hmo, hfr⟩, r2, r3, r4, hl', ⟨rfl, h5, sls_filter i r6⟩, h6⟩)
end SST
