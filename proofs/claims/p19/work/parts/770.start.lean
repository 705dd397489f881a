/-! the start: the heap behind the constructors, as kinds and numbers -/
noncomputable def mN (v : Value) : Int := match v with
  | .int x => x.toInt
  | .long x => x.toInt
  | _ => 0
noncomputable def mP (e : ZE) (i : Nat) : Int := match e with
  | .inl x => mN (zel x.1 x.2.2 i)
  | .inr x => (match x.2[i]? with
    | some v => mN v
    | none => 0)
noncomputable def mM (L : Nat) (xs : Nat → Int32) : SMem := fun f j i => cond (Nat.beq f 108) (L : Int) (cond (Nat.beq f 107) (cond (Nat.blt i L) (xs i).toInt 0) (cond (Nat.beq f 106) 0 (cond (Nat.beq f 16 && !(Nat.beq j 0 && Nat.blt i 15)) 573 (match tf[f]? with
  | some en => cond (Nat.blt j en.2.2.1) (match zzh[spos en j]? with
    | some e => mP e i
    | none => 0) 0
  | none => 0))))
def mA (ws : va_W) : SAd := fun f j => match tf[f]? with
  | some en => (match ws[spos en j]? with
    | some q => q.1
    | none => 0)
  | none => 0
theorem mA_at {ws : va_W} {f j : Nat} {en : SF} {q : Nat × va_E} (h : tf[f]? = some en) (hq : ws[spos en j]? = some q) : mA ws f j = q.1 := by
  unfold mA
  rw [h]
  simp only
  rw [hq]
theorem mM_at {L : Nat} {xs : Nat → Int32} {f j : Nat} {en : SF} {e : ZE} (h : tf[f]? = some en) (h16 : f ≠ 16) (hj : j < en.2.2.1) (he : zzh[spos en j]? = some e) (i : Nat) : mM L xs f j i = mP e i := by
  have hlt : f < 106 := (List.getElem?_eq_some_iff.mp h).1
  have hb : ∀ k, f ≠ k → Nat.beq f k = false := fun k hk => by
    cases hc : Nat.beq f k with
    | true => exact absurd (Nat.beq_eq.mp hc) hk
    | false => rfl
  unfold mM
  rw [hb 108 (by omega), hb 107 (by omega), hb 106 (by omega), hb 16 h16, Bool.false_and, cond_false, cond_false, cond_false, cond_false, h]
  simp only
  rw [Nat.blt_eq.mpr hj, cond_true, he]
/-! the shapes, by the kernel -/
def ckO (j : Nat) : List (Nat × Nat × Nat) → List Value → Bool
  | [], [] => true
  | sp :: r, v :: vs => cond (cond (Nat.beq sp.1 0) (match v with
    | .int _ => true
    | _ => false) (cond (Nat.beq sp.1 1) (match v with
    | .ref k => (match tf[sp.2.1]? with
      | some en2 => Nat.beq k (spos en2 (cond (Nat.beq sp.2.2 0) 0 j))
      | none => false)
    | _ => false) false)) (ckO j r vs) false
  | _, _ => false
theorem ckO_ok {j : Nat} : ∀ {sps : List (Nat × Nat × Nat)} {vs : List Value}, ckO j sps vs = true → vs.length = sps.length ∧ ∀ (i : Nat) (sp : Nat × Nat × Nat), sps[i]? = some sp → (sp.1 = 0 → ∃ y : Int32, vs[i]? = some (.int y)) ∧ (sp.1 = 1 → ∃ (k : Nat) (en2 : SF), vs[i]? = some (.ref k) ∧ tf[sp.2.1]? = some en2 ∧ k = spos en2 (cond (Nat.beq sp.2.2 0) 0 j)) := by
  intro sps
  induction sps with
  | nil =>
    intro vs h
    cases vs with
    | nil => exact ⟨rfl, fun i sp h => by cases h⟩
    | cons v vs => cases h
  | cons sp r ih =>
    intro vs h
    cases vs with
    | nil => cases h
    | cons v vs =>
      unfold ckO at h
      obtain ⟨h1, h2⟩ := bcond h
      obtain ⟨h3, h4⟩ := ih h2
      refine ⟨by rw [List.length_cons, List.length_cons, h3], fun i sp' hs => ?_⟩
      cases i with
      | zero =>
        cases hs
        refine ⟨fun z => ?_, fun z => ?_⟩
        · rw [z, show Nat.beq 0 0 = true from rfl, cond_true] at h1
          cases v with
          | int y => exact ⟨y, rfl⟩
          | _ => cases h1
        · rw [z, show Nat.beq 1 0 = false from rfl, show Nat.beq 1 1 = true from rfl, cond_false, cond_true] at h1
          cases v with
          | ref k =>
            simp only at h1
            cases he : tf[sp.2.1]? with
            | none => rw [he] at h1; cases h1
            | some en2 =>
              rw [he] at h1
              exact ⟨k, en2, rfl, rfl, Nat.beq_eq.mp h1⟩
          | _ => cases h1
      | succ i => exact h4 i sp' (by simpa using hs)
def ckI1 (v : Value) : Bool := match v with
  | .int _ => true
  | _ => false
def ckL1 (v : Value) : Bool := match v with
  | .long _ => true
  | _ => false
noncomputable def ckA (a : Nat × Nat × Nat × Nat) (x : Nat × Nat × ZL) : Bool := Nat.beq x.1 a.1 && (Nat.beq x.2.1 (cond (Nat.beq a.2.1 0) a.2.2.1 0) && cond (Nat.blt a.1 3) (x.2.2.all (fun q => ckI1 q.2)) (cond (Nat.beq a.1 3) (x.2.2.all (fun q => ckL1 q.2)) ((List.range x.2.1).all (fun i => match zlk x.2.2 i with
  | some (.ref k) => (match tf[a.2.2.2]? with
    | some en2 => Nat.beq k (spos en2 i)
    | none => false)
  | _ => false))))
noncomputable def ck1 (j : Nat) (en : SF) (e : ZE) : Bool := match en.2.2.2, e with
  | .inl o, .inr x => Nat.beq x.1 o.1 && ckO j o.2 x.2
  | .inr a, .inl x => ckA a x
  | _, _ => false
noncomputable def ckS (en : SF) : Bool := (List.range en.2.2.1).all (fun j => match zzh[spos en j]? with
  | some e => ck1 j en e
  | none => false)
theorem tckS : ∀ en ∈ tf, ckS en = true := List.all_eq_true.mp (by decide +kernel)
theorem ckS_at {f j : Nat} {en : SF} (h : tf[f]? = some en) (hj : j < en.2.2.1) : ∃ e, zzh[spos en j]? = some e ∧ ck1 j en e = true := by
  have h1 := List.all_eq_true.mp (tckS en (List.mem_of_getElem? h)) j (List.mem_range.mpr hj)
  cases he : zzh[spos en j]? with
  | none => rw [he] at h1; cases h1
  | some e => rw [he] at h1; exact ⟨e, rfl, h1⟩
theorem zel_i {t : Nat} {us : ZL} (ht : t < 3) (h : us.all (fun q => ckI1 q.2) = true) (i : Nat) : ∃ y : Int32, zel t us i = .int y := by
  unfold zel
  cases hk : zlk us i with
  | none =>
    refine ⟨0, ?_⟩
    simp only
    unfold zdv
    rw [Nat.blt_eq.mpr ht]
    rfl
  | some v =>
    obtain ⟨k, hk⟩ := zlk_at hk
    have h1 := List.all_eq_true.mp h _ (List.mem_of_getElem? hk)
    simp only at h1 ⊢
    cases v with
    | int y => exact ⟨y, rfl⟩
    | _ => cases h1
section SST
variable {g : ZG} {cA : Nat → ClassId} {ws : va_W} {L : Nat} {xs : Nat → Int32}
theorem zh_ws (hz : zh g cA zzh ws) {k : Nat} {e : ZE} (he : zzh[k]? = some e) : ∃ a w, ws[k]? = some (a, w) ∧ ze (zad ws) g cA e w := by
  have hlt : k < ws.length := by rw [hz.1]; exact (List.getElem?_eq_some_iff.mp he).1
  exact ⟨_, _, List.getElem?_eq_getElem hlt, hz.2.1 k e _ he (List.getElem?_eq_getElem hlt)⟩
theorem mA_zad {f j k a : Nat} {en : SF} (h : tf[f]? = some en) (hk : k = spos en j) (ha : (zad ws)[k]? = some a) : a = mA ws f j := by
  subst hk
  obtain ⟨w, hw⟩ := zad_get ha
  rw [mA_at h hw]
set_option maxHeartbeats 1000000 in
theorem mHe (hz : zh g cA zzh ws) {f j : Nat} {en : SF} (h : tf[f]? = some en) (h16 : f ≠ 16) (hj : j < en.2.2.1) : ∃ w, ws[spos en j]? = some (mA ws f j, w) ∧ sHe (mA ws) (mM L xs) cA f j en w := by
  obtain ⟨e, he, hc⟩ := ckS_at h hj
  obtain ⟨a, w, hw, hze⟩ := zh_ws hz he
  have hM := mM_at (L := L) (xs := xs) h h16 hj he
  refine ⟨w, by rw [mA_at h hw]; exact hw, ?_⟩
  unfold ck1 at hc
  unfold sHe
  cases hen : en.2.2.2 with
  | inl o =>
    rw [hen] at hc
    cases e with
    | inl x => cases hc
    | inr x =>
      simp only [Bool.and_eq_true] at hc
      obtain ⟨gs, rfl, hgs⟩ := hze
      obtain ⟨k1, k2⟩ := ckO_ok hc.2
      refine ⟨gs, by rw [Nat.beq_eq.mp hc.1], by rw [zvs_len hgs, k1], fun i sp hs => ⟨fun z => ?_, fun z => ?_⟩⟩
      · obtain ⟨y, hy⟩ := (k2 i sp hs).1 z
        obtain ⟨c, hc1, hc2⟩ := zvs_get hgs hy
        cases (show c = .int y from hc2)
        refine ⟨y, hc1, ?_⟩
        rw [hM]
        show _ = mP (.inr x) i
        unfold mP
        simp only
        rw [hy]
        rfl
      · obtain ⟨k, en2, hy, he2, hk⟩ := (k2 i sp hs).2 z
        obtain ⟨c, hc1, a2, ha2, rfl⟩ := zvs_get hgs hy
        rw [hc1, mA_zad he2 hk ha2]
  | inr a0 =>
    rw [hen] at hc
    cases e with
    | inr x => cases hc
    | inl x =>
      unfold ckA at hc
      simp only [Bool.and_eq_true] at hc
      obtain ⟨g1, g2, g3⟩ := hc
      obtain ⟨arr, rfl, hza⟩ := hze
      have e1 := Nat.beq_eq.mp g1
      have e2 := Nat.beq_eq.mp g2
      have hsl : slen (mM L xs) j a0 = x.2.1 := by
        rw [e2]
        unfold slen
        cases hb : Nat.beq a0.2.1 0 with
        | true => rfl
        | false =>
          rw [cond_false, cond_false]
          rw [tvar h hen (fun z => by rw [z] at hb; cases hb)]
          rfl
      show sHa (mA ws) (mM L xs) cA f j a0 (.inl (cA x.1, x.2.1, arr))
      unfold sHa
      rw [hsl]
      refine ⟨fun z => ?_, fun z => ?_, fun z => ?_⟩
      · obtain ⟨h9, rfl, hh⟩ := hza.1 (by omega)
        refine ⟨h9, by rw [e1], fun i => ?_⟩
        rw [Nat.blt_eq.mpr z, cond_true] at g3
        obtain ⟨y, hy⟩ := zel_i (t := x.1) (by omega) g3 i
        have h10 := hh i
        rw [hy] at h10
        have h11 : h9 i = y := Value.int.inj (show Value.int (h9 i) = .int y from h10)
        rw [hM]
        show _ = mN (zel x.1 x.2.2 i)
        rw [hy, h11]
        rfl
      · obtain ⟨h9, rfl, hh⟩ := hza.2.1 (by omega)
        refine ⟨h9, by rw [e1], fun i => ?_⟩
        rw [hM]
        show _ = mN (zel x.1 x.2.2 i)
        rw [hh i]
        rfl
      · obtain ⟨h9, rfl, hh⟩ := hza.2.2 (by omega)
        refine ⟨h9, by rw [e1], fun i hi => ?_⟩
        have hb3 : Nat.blt a0.1 3 = false := by
          cases hb : Nat.blt a0.1 3 with
          | true => have := zblt hb; omega
          | false => rfl
        have hb4 : Nat.beq a0.1 3 = false := by
          cases hb : Nat.beq a0.1 3 with
          | true => have := Nat.beq_eq.mp hb; omega
          | false => rfl
        rw [hb3, hb4, cond_false, cond_false] at g3
        have g4 := List.all_eq_true.mp g3 i (List.mem_range.mpr hi)
        have h10 := hh i
        cases hk : zlk x.2.2 i with
        | none => rw [hk] at g4; cases g4
        | some v =>
          rw [hk] at g4
          have hzel : zel x.1 x.2.2 i = v := by
            unfold zel
            rw [hk]
          rw [hzel] at h10
          cases v with
          | ref k =>
            simp only at g4
            cases he2 : tf[a0.2.2.2]? with
            | none => rw [he2] at g4; cases g4
            | some en2 =>
              rw [he2] at g4
              obtain ⟨a2, ha2, h11⟩ := h10
              rw [mA_zad he2 (Nat.beq_eq.mp g4) ha2] at h11
              cases hq : h9 i with
              | none => rw [hq] at h11; cases h11
              | some a3 =>
                rw [hq] at h11
                have h12 : Value.ref a3 = .ref (mA ws a0.2.2.2 i) := h11
                cases h12
                rfl
          | _ => cases g4
end SST
/-! the bounds, by the kernel -/
def ckin (b : Int × Int) (v : Int) : Bool := decide (b.1 ≤ v) && decide (v ≤ b.2)
noncomputable def ckZ : List (Int × Int) → List Value → Bool
  | [], _ => true
  | _ :: _, [] => true
  | b :: r, v :: vs => cond (ckin b (mN v)) (ckZ r vs) false
theorem ckZ_ok : ∀ {bs : List (Int × Int)} {vs : List Value}, ckZ bs vs = true → ∀ (i : Nat) (b : Int × Int) (v : Value), bs[i]? = some b → vs[i]? = some v → ckin b (mN v) = true := by
  intro bs
  induction bs with
  | nil => intro vs _ i b v h; cases h
  | cons b0 r ih =>
    intro vs h i b v hb hv
    cases vs with
    | nil => cases hv
    | cons v0 vs =>
      unfold ckZ at h
      obtain ⟨h1, h2⟩ := bcond h
      cases i with
      | zero =>
        cases hb
        cases hv
        exact h1
      | succ i => exact ih h2 i b v (by simpa using hb) (by simpa using hv)
noncomputable def ckR (q : Nat × List (Int × Int)) (e : ZE) : Bool := match e with
  | .inl x => !(Nat.beq q.1 0) && (match q.2 with
    | [] => true
    | b :: _ => x.2.2.all (fun z => ckin b (mN z.2)))
  | .inr x => Nat.beq q.1 0 && ckZ q.2 x.2
noncomputable def ckg (en : SF) (q : Nat × List (Int × Int)) : Bool := q.2.all (fun b => ckin b 0) && (List.range en.2.2.1).all (fun j => match zzh[spos en j]? with
  | some e => ckR q e
  | none => false)
noncomputable def ckG : Nat → List SF → List (Nat × List (Int × Int)) → Bool
  | _, [], _ => true
  | _, _ :: _, [] => false
  | f, en :: r, q :: t => cond (cond (Nat.beq f 16) true (ckg en q)) (ckG (f + 1) r t) false
theorem tckG : ckG 0 tf tg.1 = true := by decide +kernel
theorem ckG_ok : ∀ {fm : List SF} {rg : List (Nat × List (Int × Int))} {f0 : Nat}, ckG f0 fm rg = true → ∀ (f : Nat) (en : SF), fm[f]? = some en → f0 + f ≠ 16 → ∃ q, rg[f]? = some q ∧ ckg en q = true := by
  intro fm
  induction fm with
  | nil => intro rg f0 _ f en h; cases h
  | cons e0 r ih =>
    intro rg f0 h f en hf hn
    cases rg with
    | nil => cases h
    | cons q t =>
      unfold ckG at h
      obtain ⟨h1, h2⟩ := bcond h
      cases f with
      | zero =>
        cases hf
        have hb : Nat.beq f0 16 = false := by
          cases hc : Nat.beq f0 16 with
          | true => exact absurd (Nat.beq_eq.mp hc) hn
          | false => rfl
        rw [hb, cond_false] at h1
        exact ⟨q, rfl, h1⟩
      | succ f => exact ih h2 f en (by simpa using hf) (by omega)
theorem ckin_ok {b : Int × Int} {v : Int} (h : ckin b v = true) : b.1 ≤ v ∧ v ≤ b.2 := by
  unfold ckin at h
  rw [Bool.and_eq_true] at h
  exact ⟨of_decide_eq_true h.1, of_decide_eq_true h.2⟩
theorem mI16 {L : Nat} {xs : Nat → Int32} (j i : Nat) : 573 ≤ mM L xs 16 j i ∧ mM L xs 16 j i ≤ 1355088389 := by
  by_cases hc : j = 0 ∧ i < 15
  · obtain ⟨rfl, hi⟩ := hc
    have hk : ∀ i, i < 15 → ckin (573, 1355088389) (mM 0 (fun _ => 0) 16 0 i) = true := by decide +kernel
    exact ckin_ok (b := (573, 1355088389)) (hk i hi)
  · have e : mM L xs 16 j i = 573 := by
      have hb : (Nat.beq j 0 && Nat.blt i 15) = false := by
        cases h1 : Nat.beq j 0 with
        | false => rfl
        | true =>
          cases h2 : Nat.blt i 15 with
          | false => rfl
          | true => exact absurd ⟨Nat.beq_eq.mp h1, zblt h2⟩ hc
      show cond (Nat.beq 16 16 && !(Nat.beq j 0 && Nat.blt i 15)) 573 _ = _
      rw [hb]
      rfl
    rw [e]
    exact ⟨by decide, by decide⟩
theorem mI {L : Nat} {xs : Nat → Int32} (hL : L ≤ 3584) : sI tg (mM L xs) := by
  refine tsI (fun f i q hq j => ?_)
  by_cases h108 : f = 108
  · subst h108
    cases (show srg tg 108 i = some (0, 3584) from rfl).symm.trans hq
    show (0 : Int) ≤ (L : Int) ∧ (L : Int) ≤ 3584
    omega
  by_cases h107 : f = 107
  · subst h107
    cases (show srg tg 107 i = some (-2147483648, 2147483647) from rfl).symm.trans hq
    show (-2147483648 : Int) ≤ cond (Nat.blt i L) (xs i).toInt 0 ∧ cond (Nat.blt i L) (xs i).toInt 0 ≤ 2147483647
    cases Nat.blt i L with
    | true => exact ⟨Int32.le_toInt _, by have := Int32.toInt_lt (xs i); rw [cond_true]; omega⟩
    | false => exact (⟨by decide, by decide⟩ : (-2147483648 : Int) ≤ 0 ∧ (0 : Int) ≤ 2147483647)
  by_cases h106 : f = 106
  · subst h106
    cases (show srg tg 106 i = some (0, 1000) from rfl).symm.trans hq
    exact (⟨by decide, by decide⟩ : (0 : Int) ≤ 0 ∧ (0 : Int) ≤ 1000)
  by_cases h16 : f = 16
  · subst h16
    cases (show srg tg 16 i = some (573, 1355088389) from rfl).symm.trans hq
    exact mI16 j i
  have hlt : f < 109 := by
    unfold srg at hq
    cases hg : tg.1[f]? with
    | none => rw [hg] at hq; cases hq
    | some q9 => exact (List.getElem?_eq_some_iff.mp hg).1
  have hlt2 : f < tf.length := show f < 106 by omega
  have hen : tf[f]? = some tf[f] := List.getElem?_eq_getElem hlt2
  generalize tf[f] = en at hen
  obtain ⟨q9, hq9, hg⟩ := ckG_ok tckG f en hen (by omega)
  unfold ckg at hg
  simp only [Bool.and_eq_true] at hg
  obtain ⟨k1, k2⟩ := hg
  have hb : ∀ k, f ≠ k → Nat.beq f k = false := fun k hk => by
    cases hc : Nat.beq f k with
    | true => exact absurd (Nat.beq_eq.mp hc) hk
    | false => rfl
  unfold srg at hq
  rw [hq9] at hq
  simp only at hq
  have hmem : q ∈ q9.2 := List.mem_of_getElem? hq
  have hz0 := ckin_ok (List.all_eq_true.mp k1 q hmem)
  by_cases hj : j < en.2.2.1
  · obtain ⟨e, he, -⟩ := ckS_at hen hj
    have k3 := List.all_eq_true.mp k2 j (List.mem_range.mpr hj)
    rw [he] at k3
    rw [mM_at hen h16 hj he]
    unfold ckR at k3
    cases e with
    | inl x =>
      simp only [Bool.and_eq_true] at k3
      obtain ⟨k4, k5⟩ := k3
      rw [snot k4, cond_false] at hq
      show q.1 ≤ mN (zel x.1 x.2.2 i) ∧ mN (zel x.1 x.2.2 i) ≤ q.2
      match hq9' : q9.2, hq, k5 with
      | [], hq, k5 => cases hq
      | b :: r, hq, k5 =>
        cases hq
        unfold zel
        cases hk : zlk x.2.2 i with
        | none =>
          have e0 : mN (zdv x.1) = 0 := by
            unfold zdv
            cases Nat.blt x.1 3 with
            | true => rfl
            | false =>
              cases Nat.beq x.1 3 with
              | true => rfl
              | false => rfl
          simp only
          rw [e0]
          exact hz0
        | some v =>
          obtain ⟨k, hk⟩ := zlk_at hk
          exact ckin_ok (List.all_eq_true.mp k5 _ (List.mem_of_getElem? hk))
    | inr x =>
      simp only [Bool.and_eq_true] at k3
      obtain ⟨k4, k5⟩ := k3
      rw [k4, cond_true] at hq
      show q.1 ≤ (match x.2[i]? with
        | some v => mN v
        | none => 0) ∧ (match x.2[i]? with
        | some v => mN v
        | none => 0) ≤ q.2
      cases hv : x.2[i]? with
      | none => exact hz0
      | some v => exact ckin_ok (ckZ_ok k5 i q v hq hv)
  · have hjb : Nat.blt j en.2.2.1 = false := by
      cases hc : Nat.blt j en.2.2.1 with
      | true => exact absurd (zblt hc) hj
      | false => rfl
    have e0 : mM L xs f j i = 0 := by
      unfold mM
      rw [hb 108 h108, hb 107 h107, hb 106 h106, hb 16 h16, Bool.false_and, cond_false, cond_false, cond_false, cond_false, hen]
      simp only
      rw [hjb, cond_false]
    rw [e0]
    exact hz0
theorem m0_at {L : Nat} {xs : Nat → Int32} {f n : Nat} {en : SF} (h : tf[f]? = some en) (h16 : f ≠ 16) (hj : 0 < en.2.2.1) (he : zzh[spos en 0]? = some (.inl (0, n, []))) (i : Nat) : mM L xs f 0 i = 0 := by
  rw [mM_at h h16 hj he]
  rfl
theorem m27 {L : Nat} {xs : Nat → Int32} (i : Nat) : mM L xs 27 0 i = 0 := m0_at (n := 12) rfl (by decide) (by decide) rfl i
theorem m29 {L : Nat} {xs : Nat → Int32} (i : Nat) : mM L xs 29 0 i = 0 := m0_at (n := 72) rfl (by decide) (by decide) rfl i
theorem m37 {L : Nat} {xs : Nat → Int32} (i : Nat) : mM L xs 37 0 i = 0 := m0_at (n := 7) rfl (by decide) (by decide) rfl i
theorem m50 {L : Nat} {xs : Nat → Int32} (i : Nat) : mM L xs 50 0 i = 0 := m0_at (n := 72) rfl (by decide) (by decide) rfl i
theorem m74 {L : Nat} {xs : Nat → Int32} (j : Nat) : mM L xs 74 j 0 = 0 := by
  by_cases hj : j < 6
  · match j, hj with
    | 0, _ => rfl
    | 1, _ => rfl
    | 2, _ => rfl
    | 3, _ => rfl
    | 4, _ => rfl
    | 5, _ => rfl
  · have hjb : Nat.blt j 6 = false := by
      cases hc : Nat.blt j 6 with
      | true => exact absurd (zblt hc) hj
      | false => rfl
    show cond (Nat.blt j 6) _ (0 : Int) = 0
    rw [hjb]
    rfl
theorem mX {L : Nat} {xs : Nat → Int32} : sX (mM L xs) := by
  refine ⟨fun i => ?_, fun p q h1 h2 h3 => ?_, fun p => ?_⟩
  · rw [m29]
    unfold sD1
    omega
  · rw [m27] at h3
    omega
  · rw [m50]
    exact Int.le_refl _
theorem mG {L : Nat} {xs : Nat → Int32} : sGa (mM L xs) (-1) := by
  intro r hr hn
  unfold sG
  rw [m37]
  exact ⟨by decide, fun k hk => by omega⟩
theorem mEa {L : Nat} {xs : Nat → Int32} : sEa (mM L xs) := by
  intro r l h1 h2
  rw [m74] at h2
  omega
/-! the row whose numbers are bounded also behind its end -/
theorem arrV_cong {cI : ClassId} {N : Nat} {f g : Nat → Value} (h : ∀ j, j < N → f j = g j) : arrV cI N f = arrV cI N g := by
  unfold arrV
  congr 1
  exact congrArg Array.ofFn (funext fun j => h j.val j.isLt)
theorem mStart {g : ZG} {cA : Nat → ClassId} {dC : Nat → ClassId} {dI : Nat → Nat → Nat} {ws : va_W} {H : Heap} {A : Nat → Prop} {L : Nat} {xs : Nat → Int32} (hz : zh g cA zzh ws) (hP : va_P (dC, dI) vwCl ws H) (hD : va_D A ws) : ∃ ws' : va_W, sH tf (mA ws) (mM L xs) cA ws' ∧ va_P (dC, dI) vwCl ws' H ∧ va_D A ws' := by
  obtain ⟨e16, he16, hc16⟩ := ckS_at (f := 16) (j := 0) rfl (by decide)
  obtain ⟨a, w, hw, hze⟩ := zh_ws hz he16
  cases (show zzh[160]? = some _ from rfl).symm.trans he16
  obtain ⟨arr, rfl, hza⟩ := hze
  obtain ⟨h9, rfl, hh⟩ := hza.2.1 rfl
  have hwa : ws[160]? = some (a, .inl (cA 3, 15, .inr (.inl h9))) := hw
  have hlt : 160 < ws.length := (List.getElem?_eq_some_iff.mp hwa).1
  refine ⟨ws.set 160 (a, .inl (cA 3, 15, .inr (.inl (fun i => if i < 15 then h9 i else 573)))), fun f en hen j hj => ?_, fun k q hk => ?_, hD.set hwa⟩
  · by_cases h16 : f = 16
    · subst h16
      cases (show tf[16]? = some _ from rfl).symm.trans hen
      have hj0 : j = 0 := Nat.lt_one_iff.mp hj
      subst hj0
      refine ⟨.inl (cA 3, 15, .inr (.inl (fun i => if i < 15 then h9 i else 573))), ?_, ?_⟩
      · show (ws.set 160 _)[160]? = _
        rw [List.getElem?_set_self hlt, mA_at (f := 16) (j := 0) hen hwa]
      · refine ⟨fun z => absurd z (by decide), fun _ => ⟨fun i => if i < 15 then h9 i else 573, rfl, fun i => ?_⟩, fun z => absurd z (by decide)⟩
        by_cases hi : i < 15
        · show (if i < 15 then h9 i else 573).toInt = _
          rw [if_pos hi]
          have hb : Nat.blt i 15 = true := Nat.blt_eq.mpr hi
          have e1 : mM L xs 16 0 i = mN (Value.long (h9 i)) := by
            rw [← hh i]
            show cond (Nat.beq 16 16 && !(Nat.beq 0 0 && Nat.blt i 15)) 573 _ = _
            rw [hb]
            rfl
          rw [e1]
          rfl
        · show (if i < 15 then h9 i else 573).toInt = _
          rw [if_neg hi]
          have hb : Nat.blt i 15 = false := by
            cases hc : Nat.blt i 15 with
            | true => exact absurd (zblt hc) hi
            | false => rfl
          show _ = cond (Nat.beq 16 16 && !(Nat.beq 0 0 && Nat.blt i 15)) 573 _
          rw [hb]
          rfl
    · obtain ⟨w, h1, h2⟩ := mHe (L := L) (xs := xs) hz hen h16 hj
      refine ⟨w, ?_, h2⟩
      rw [List.getElem?_set_ne ?_]
      · exact h1
      · intro z
        have := (tInj f 16 en _ hen rfl j 0 hj (by decide) z.symm).1
        exact h16 this
  · by_cases hk2 : k = 160
    · subst hk2
      rw [List.getElem?_set_self hlt] at hk
      cases hk
      have h1 := hP 160 _ hwa
      show H[a]? = some (vp_cell _ _)
      have h2 : H[a]? = some (vp_cell (cA 3) (15, .inr (.inl h9))) := h1
      have h3 : vp_cell (cA 3) (15, .inr (.inl h9)) = vp_cell (cA 3) (15, .inr (.inl (fun i => if i < 15 then h9 i else 573))) := by
        rw [vp_cell_l, vp_cell_l]
        refine arrV_cong (fun j hj => ?_)
        show Value.long (h9 j) = .long (if j < 15 then h9 j else 573)
        rw [if_pos hj]
      rw [h2, h3]
    · rw [List.getElem?_set_ne (fun z => hk2 z.symm)] at hk
      exact hP k q hk
