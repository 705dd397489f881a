/-! stories: the class is asked -/
def sKX (A B : SMem) : Prop := sI tg A ∧ sKx A ∧ sZ A = sZ B ∧ ∀ f j i, f ∉ [65, 66, 67, 68, 69, 70, 71, 72, 73] → f ≠ 7 → A f j i = B f j i
theorem sKX_rf {M : SMem} (hI : sI tg M) (hK : sKx M) : sKX M M := ⟨hI, hK, rfl, fun _ _ _ _ _ => rfl⟩
theorem sKX_tr {A B C : SMem} (h1 : sKX A B) (h2 : sKX B C) : sKX A C := ⟨h1.1, h1.2.1, h1.2.2.1.trans h2.2.2.1, fun f j i y1 y2 => (h1.2.2.2 f j i y1 y2).trans (h2.2.2.2 f j i y1 y2)⟩
theorem sKX_6 {A B : SMem} (hn : sKX A B) : A 6 0 = B 6 0 := by
  funext i
  exact hn.2.2.2 6 0 i (by decide) (by decide)
/-- what is found out stays so where only what it doesn't speak of changes -/
theorem sKx_cg {M M1 : SMem} (hn : ∀ f, f ∈ [58, 59, 60, 61, 62, 63, 64, 91, 92, 93, 94, 95] → M1 f = M f) (h2 : ∀ f, f ∈ [6, 65, 66, 67, 68, 72, 73] → M1 f 0 = M f 0) (h3 : ∀ i, i ∈ [3, 4, 14, 15, 16, 17] → M1 7 0 i = M 7 0 i) (hK : sKx M) : sKx M1 := by
  have eZ := sZ_cg hn
  obtain ⟨k1, k2, k3⟩ := hK
  refine ⟨fun z => ?_, fun z => ?_, ?_⟩
  · rw [h3 15 (by decide)] at z
    rw [eZ]
    exact sGok_cg (fun f hf => h2 f (by simp only [List.mem_cons, List.not_mem_nil, or_false] at hf ⊢; omega)) (h3 3 (by decide)) (h3 4 (by decide)) (k1 z)
  · rw [h3 16 (by decide)] at z
    obtain ⟨q1, q2⟩ := k2 z
    refine ⟨by rw [h3 15 (by decide)]; exact q1, ?_⟩
    unfold sTok
    rw [eZ, h2 6 (by decide), h2 73 (by decide), h3 14 (by decide)]
    exact q2
  · rw [eZ, h2 6 (by decide), h2 72 (by decide), h3 16 (by decide), h3 17 (by decide)]
    exact k3
/-- reigns that keep the rules, and stories -/
theorem stS_ex {Z : STZ} {dt lst fl ce st : Nat → Int} {barred : Prop} {bu : Nat → Prop} (hZ : sWf Z) (hdt : ∀ hn, -1 ≤ dt hn ∧ dt hn ≤ 5) (hl : ∀ p l, p < 12 → l < Z.1 p → l % 2 = 0 → sLs Z p l (lst (6 * p + l))) (hls : ∀ k, 0 ≤ lst k) (hG : sGt Z (fun p l => p < 12 ∧ l < Z.1 p) dt lst fl ce st barred bu) {Q : (Nat → Int) → Prop} (hQ : ∀ r s : Nat → Int, (∀ i, i < 6 → sBz Z i → r i = s i) → Q r → Q s) : (¬ barred ∧ ∃ r, sRul fl ce st r ∧ Q r) ↔ ∃ s, s ∈ stS Z dt ∧ Q s := by
  constructor
  · rintro ⟨hb, r, hr, hq⟩
    have hw : stW (sBb Z) fl ce st r := ⟨fun hn h6 _ => hr.1 hn h6, fun a b ha hb _ _ hs => hr.2 a b ha hb hs⟩
    have hv : stV Z dt r := by rw [stV_eq hZ hdt hl hls hG hb]; exact hw
    obtain ⟨s, hs, e⟩ := stL_all (bz := sBb Z) (V := stV Z dt) (fun r s => stV_cg hZ) 6 (Nat.le_refl _) (fun _ => 0) r hv (fun i hi => absurd hi (by omega)) (fun i _ h6 hbz => (hv.1 i h6 (sBb_y.mp hbz)).1)
    exact ⟨s, hs, hQ r s (fun i h6 hbz => (e i h6 (sBb_y.mpr hbz)).symm) hq⟩
  · rintro ⟨s, hs, hq⟩
    have hv := (stL_mem 6 (Nat.le_refl _) _ s hs).1
    obtain ⟨hb, hw⟩ := (stV_iff hZ hdt hl hls hG).mp hv
    exact ⟨hb, _, (stW_rul hdt hG).mp hw, hQ s _ (fun i h6 hbz => (stF_y (sBb_y.mpr hbz)).symm) hq⟩
theorem stS_in {Z : STZ} {dt : Nat → Int} {s : Nat → Int} (hs : s ∈ stS Z dt) : stV Z dt s ∧ ∀ i, ¬ sBz Z i → s i = 0 := by
  have hn := stL_mem 6 (Nat.le_refl _) _ s hs
  exact ⟨hn.1, fun i hi => hn.2.1 i (Or.inr (Or.inl (sBb_n.mpr hi)))⟩
theorem stS_few {Z : STZ} {dt : Nat → Int} (hn : ¬ ∃ i, i < 6 ∧ sBb Z i = true) : (stS Z dt).length ≤ 1 := by
  have hb : ∀ i, i < 6 → sBb Z i = false := fun i hi => by
    cases e : sBb Z i with
    | true => exact absurd ⟨i, hi, e⟩ hn
    | false => rfl
  by_cases hV : stV Z dt (fun _ => 0)
  · have e : stS Z dt = [fun _ => 0] := stL_last hV 6 (Nat.le_refl _) (fun i _ h6 => hb i h6)
    rw [e]
    exact Nat.le_refl _
  · have e : stS Z dt = [] := stL_nil (Nat.le_refl _) (fun s hs ha => hV (by
      have : s = fun _ => 0 := by
        funext i
        by_cases h6 : i < 6
        · exact ha i (Or.inr (Or.inl (hb i h6)))
        · exact ha i (Or.inr (Or.inr (by omega)))
      rw [← this]
      exact hs))
    rw [e]
    exact Nat.zero_le _
theorem stS_len {Z : STZ} {dt : Nat → Int} : (stS Z dt).length ≤ 46656 := stL_len 6 _
/-- the most of a hand -/
def stM (L : List (Nat → Int)) (a : Nat) : Nat → Int
  | 0 => 0
  | k + 1 => cfn 11 (stM L a k) ((stC L a (k : Int) : Nat) : Int)
theorem stM_b {L : List (Nat → Int)} {a : Nat} : ∀ k, 0 ≤ stM L a k ∧ stM L a k ≤ (L.length : Int) := by
  intro k
  induction k with
  | zero => exact ⟨Int.le_refl _, Int.natCast_nonneg _⟩
  | succ k ih =>
    have h1 := @cfn11 (stM L a k) ((stC L a (k : Int) : Nat) : Int)
    have h2 := stC_le (L := L) (a := a) (x := (k : Int))
    show 0 ≤ cfn 11 (stM L a k) ((stC L a (k : Int) : Nat) : Int) ∧ cfn 11 (stM L a k) ((stC L a (k : Int) : Nat) : Int) ≤ (L.length : Int)
    omega
theorem stM_x {L : List (Nat → Int)} {a : Nat} : ∀ k : Nat, (∀ x : Nat, x < k → ((stC L a (x : Int) : Nat) : Int) ≤ stM L a k) ∧ (stM L a k = 0 ∨ ∃ x : Nat, x < k ∧ stM L a k = ((stC L a (x : Int) : Nat) : Int)) := by
  intro k
  induction k with
  | zero => exact ⟨fun x hn => absurd hn (Nat.not_lt_zero _), Or.inl rfl⟩
  | succ k ih =>
    have h1 := @cfn11 (stM L a k) ((stC L a (k : Int) : Nat) : Int)
    have e : stM L a (k + 1) = cfn 11 (stM L a k) ((stC L a (k : Int) : Nat) : Int) := rfl
    rw [e]
    refine ⟨fun x hx => ?_, ?_⟩
    · by_cases z : x = k
      · subst z
        omega
      · have := ih.1 x (by omega)
        omega
    · rcases h1 with ⟨-, q⟩ | ⟨-, q⟩
      · exact Or.inr ⟨k, by omega, q⟩
      · rw [q]
        exact ih.2.imp id (fun ⟨x, z1, z2⟩ => ⟨x, by omega, z2⟩)
/-- a hand of one reign in all -/
def stSr (L : List (Nat → Int)) (a : Nat) : Prop := 0 < L.length ∧ ∃ x : Nat, x < 6 ∧ stC L a (x : Int) = L.length
theorem stSr_iff {L : List (Nat → Int)} {a : Nat} (hn : 0 < L.length) : stM L a 6 = (L.length : Int) ↔ ∃ x : Nat, x < 6 ∧ stC L a (x : Int) = L.length := by
  have hb := (stM_b (L := L) (a := a) 6).2
  obtain ⟨h1, h2⟩ := stM_x (L := L) (a := a) 6
  constructor
  · intro e
    rcases h2 with z | ⟨x, z1, z2⟩
    · omega
    · exact ⟨x, z1, by omega⟩
  · rintro ⟨x, z1, z2⟩
    have := h1 x z1
    omega
/-- the hand to be dated next -/
noncomputable def stN (L : List (Nat → Int)) (op : Nat → Prop) : Nat → Int
  | 0 => -1
  | k + 1 => cond (wDc (fun j => op j ∧ (stN L op k = -1 ∨ stM L j 6 < stM L (stN L op k).toNat 6)) k) (k : Int) (stN L op k)
theorem stN_y {L : List (Nat → Int)} {op : Nat → Prop} {k : Nat} (hn : op k ∧ (stN L op k = -1 ∨ stM L k 6 < stM L (stN L op k).toNat 6)) : stN L op (k + 1) = (k : Int) := by
  show cond (wDc (fun j => op j ∧ (stN L op k = -1 ∨ stM L j 6 < stM L (stN L op k).toNat 6)) k) _ _ = _
  rw [wDc_y (P := fun j => op j ∧ (stN L op k = -1 ∨ stM L j 6 < stM L (stN L op k).toNat 6)) hn, cond_true]
theorem stN_n {L : List (Nat → Int)} {op : Nat → Prop} {k : Nat} (hn : ¬ (op k ∧ (stN L op k = -1 ∨ stM L k 6 < stM L (stN L op k).toNat 6))) : stN L op (k + 1) = stN L op k := by
  show cond (wDc (fun j => op j ∧ (stN L op k = -1 ∨ stM L j 6 < stM L (stN L op k).toNat 6)) k) _ _ = _
  rw [wDc_n (P := fun j => op j ∧ (stN L op k = -1 ∨ stM L j 6 < stM L (stN L op k).toNat 6)) hn, cond_false]
theorem stN_b {L : List (Nat → Int)} {op : Nat → Prop} : ∀ k, stN L op k = -1 ∨ (0 ≤ stN L op k ∧ stN L op k < (k : Int) ∧ op (stN L op k).toNat) := by
  intro k
  induction k with
  | zero => exact Or.inl rfl
  | succ k ih =>
    by_cases hn : op k ∧ (stN L op k = -1 ∨ stM L k 6 < stM L (stN L op k).toNat 6)
    · rw [stN_y hn]
      exact Or.inr ⟨by omega, by omega, by rw [show ((k : Nat) : Int).toNat = k by omega]; exact hn.1⟩
    · rw [stN_n hn]
      exact ih.imp id (fun q => ⟨q.1, by omega, q.2.2⟩)
/-- what two hands may be to one another -/
def stRl (L : List (Nat → Int)) (a b : Nat) : Nat → Prop
  | 0 => ∃ s, s ∈ L ∧ s a + 1 ≤ s b
  | 1 => ∃ s, s ∈ L ∧ s a = s b
  | _ => ∃ s, s ∈ L ∧ s b + 1 ≤ s a
section CS14
variable {EX : SEx} {l : Launch} {dC : Nat → ClassId} {dI : Nat → Nat → Nat} {cA : Nat → ClassId} {ad : SAd} {scrS d : Nat}
set_option maxHeartbeats 4000000 in
theorem b_seek (hp : cPl tm tc tf EX) {k : Nat} {M : SMem} (hI : sI tg M) (hZ : sWf (sZ M)) (hK : sKx M) (h16 : M 7 0 16 ≠ 0) : cBG tm tf EX l dC dI cA ad scrS (d + 9) kX6_seek [(2, 7, 0), (0, 0, (k : Int))] M (fun rr MM => sKX MM M ∧ ((rr = [1] ∧ ∃ s, (stS (sZ M) (M 6 0))[k]? = some s ∧ ∀ i, i < 6 → sBz (sZ M) i → MM 72 0 i = s i) ∨ (rr = [0] ∧ (stS (sZ M) (M 6 0)).length ≤ k))) := by
  refine cMeth (v := [(k : Int)]) (Fd := 90) hp (by decide) gX6_seek_ok gX6_seek_m0 (by simp [cAs, cE2, sev, svl, cen]) ?_
  suffices H : ∀ Po : List Int → SMem → Prop, (∀ rr MM, (sKX MM M ∧ ((rr = [1] ∧ ∃ s, (stS (sZ M) (M 6 0))[k]? = some s ∧ ∀ i, i < 6 → sBz (sZ M) i → MM 72 0 i = s i) ∨ (rr = [0] ∧ (stS (sZ M) (M 6 0)).length ≤ k))) → Po rr MM) → cEnds (cBG tm tf EX l dC dI cA ad scrS (d + 8)) Po 90 gX6_seek 0 [(k : Int)] M from H _ (fun _ _ hn => hn)
  intro Po hPo
  obtain ⟨h15, e14, e73⟩ := hK.2.1 h16
  have ok := hK.1 h15
  have b9 := stS_len (Z := sZ M) (dt := M 6 0)
  have b17 := wIb (f := 7) (i := 17) (lo := -1) (hi := 2147483646) hI 0 rfl
  generalize hL : stS (sZ M) (M 6 0) = L at e14 b9 hPo ⊢
  refine cEnds_at gX6_seek_m0 rfl ?_
  refine d_br (fun h => ?_) (fun h => ?_)
  · simp only [cCmp, cE2, sev, svl, cen, List.cons_append, List.nil_append] at h
    omega
  · clear h
    refine d_fld 0 (by simp only [cE2, sev, svl, cen, List.cons_append, List.nil_append]; omega) ?_
    rw [e14]
    refine d_br (fun h => ?_) (fun h => ?_)
    · simp only [cCmp, cE2, sev, svl, cen, List.cons_append, List.nil_append] at h
      refine d_fld 0 (by simp only [cE2, sev, svl, cen, List.cons_append, List.nil_append]; omega) ?_
      refine d_br (fun h2 => ?_) (fun h2 => ?_)
      · simp only [cCmp, cE2, sev, svl, cen, List.cons_append, List.nil_append] at h2
        refine d_fld 0 (by simp only [cE2, sev, svl, cen, List.cons_append, List.nil_append]; omega) ?_
        refine d_br (fun h3 => ?_) (fun h3 => ?_)
        · simp only [cCmp, cE2, sev, svl, cen, List.cons_append, List.nil_append] at h3
          omega
        · refine d_ret [1] rfl (by decide) (hPo _ _ ⟨sKX_rf hI hK, Or.inl ⟨rfl, ?_⟩⟩)
          rcases hK.2.2 with z | ⟨-, k', s, z1, z2, z3⟩
          · omega
          · have ek : k' = k := by omega
            subst ek
            rw [hL] at z2
            exact ⟨s, z2, z3⟩
      · clear h2
        obtain ⟨okl, ok7, bu, ob, og⟩ := ok
        have obz := ob.trans (bu_eq og)
        have hdt := hdt_I hI
        refine d_call (b_isPossible (d := d + 6) hp hI (fun hn hh => by have := ok7 hn hh; omega)) (by simp [cAs, cE2, sev, svl, cen]) ?_
        rintro rr M2 ⟨i2, f2, hr⟩
        rcases hr with ⟨rfl, hb, hE1, hE2⟩ | ⟨rfl, hno⟩
        · refine ⟨rfl, ?_⟩
          refine d_br (fun h4 => ?_) (fun h4 => ?_)
          · simp only [cCmp, cE2, sev, svl, cen, List.cons_append, List.nil_append] at h4
            omega
          · clear h4
            refine d_put 0 (k : Int) (by simp only [cE2, sev, svl, cen, List.cons_append, List.nil_append]; omega) (by simp only [cE2, sev, svl, cen, List.cons_append, List.nil_append]; omega) ?_
            have hU := stU_of hZ hdt okl (hls_I hI) og (fun q => q hb) hE1 hE2
            have row2 : ∀ f, f ≠ 70 → f ≠ 7 → supd M2 7 0 18 (k : Int) f 0 = M f 0 := fun f y1 y2 => by
              rw [supd_ff y2]
              funext i
              exact f2 f 0 i y1
            refine d_call (b_seekFrom (d := d) hp (bz := sBb (sZ M)) (V := stV (sZ M) (M 6 0)) (E := M2 70 0) (ce := M 66 0) (st := M 67 0) hU (fun hn hh => by have := (hE1.1 hn hh).2; have := (wIb (f := 66) (i := hn) (lo := 0) (hi := 5) hI 0 rfl).2; omega) 6 (Nat.le_refl _) (fun _ => 0) k (supd M2 7 0 18 (k : Int)) (wI (lo := 0) (hi := 2147483646) i2 rfl ⟨by omega, by omega⟩) (row2 66 (by decide) (by decide)) (row2 67 (by decide) (by decide)) (by rw [supd_ff (by decide)]) (by rw [supd_i (by decide), f2 7 0 3 (by decide), obz]) (fun i hi => absurd hi (by omega)) stR_0 (supd_at _ _ _ _ _) (by omega) (by
              by_cases hm : ∃ i, i < 6 ∧ sBb (sZ M) i = true
              · obtain ⟨i, z1, z2⟩ := hm
                exact Or.inr ⟨i, by omega, z1, z2⟩
              · have := stS_few (dt := M 6 0) hm
                rw [hL] at this
                exact Or.inl (by omega))) (by simp [cAs, cE2, sev, svl, cen]) ?_
            rintro rr M3 ⟨i3, f3, g3, hr3⟩
            rw [show stL (sBb (sZ M)) (stV (sZ M) (M 6 0)) 6 (fun _ => 0) = L from hL] at hr3
            rcases hr3 with ⟨rfl, s, hs, hs2⟩ | ⟨rfl, hle, -⟩
            · refine ⟨rfl, ?_⟩
              refine d_br (fun h4 => ?_) (fun h4 => ?_)
              · simp only [cCmp, cE2, sev, svl, cen, List.cons_append, List.nil_append] at h4
                omega
              · clear h4
                refine d_put 0 (k : Int) (by simp only [cE2, sev, svl, cen, List.cons_append, List.nil_append]; omega) (by simp only [cE2, sev, svl, cen, List.cons_append, List.nil_append]; omega) ?_
                refine d_fld 0 (by simp only [cE2, sev, svl, cen, List.cons_append, List.nil_append]; omega) ?_
                rw [supd_at]
                refine d_br (fun h4 => ?_) (fun h4 => ?_)
                · simp only [cCmp, cE2, sev, svl, cen, List.cons_append, List.nil_append] at h4
                  omega
                · clear h4
                  have fin : ∀ f j i, f ≠ 70 → f ≠ 72 → f ≠ 7 → supd M3 7 0 17 (k : Int) f j i = M f j i := fun f j i y1 y2 y3 => by
                    rw [supd_f y3, f3 f j i y2 (fun q => y3 q.1), supd_f y3, f2 f j i y1]
                  have fin7 : ∀ i, i ≠ 17 → i ≠ 18 → supd M3 7 0 17 (k : Int) 7 0 i = M 7 0 i := fun i y1 y2 => by
                    rw [supd_i y1, f3 7 0 i (by decide) (fun q => y2 q.2), supd_i y2, f2 7 0 i (by decide)]
                  have row : ∀ f, f ≠ 70 → f ≠ 72 → f ≠ 7 → supd M3 7 0 17 (k : Int) f = M f := fun f y1 y2 y3 => by
                    funext j i
                    exact fin f j i y1 y2 y3
                  have eZ : sZ (supd M3 7 0 17 (k : Int)) = sZ M := sZ_cg (fun f hf => by
                    simp only [List.mem_cons, List.not_mem_nil, or_false] at hf
                    exact row f (by omega) (by omega) (by omega))
                  have e72 : ∀ i, i < 6 → sBz (sZ M) i → supd M3 7 0 17 (k : Int) 72 0 i = s i := fun i h6 hbz => by
                    rw [supd_f (by decide)]
                    exact hs2 i (by omega) h6 (sBb_y.mpr hbz)
                  refine d_ret [1] rfl (by decide) (hPo _ _ ⟨⟨wI (lo := -1) (hi := 2147483646) i3 rfl ⟨by omega, by omega⟩, ⟨fun _ => ?_, fun _ => ⟨?_, ?_⟩, Or.inr ⟨?_, k, s, supd_at _ _ _ _ _, ?_, ?_⟩⟩, eZ, fun f j i y1 y2 => ?_⟩, Or.inl ⟨rfl, s, hs, e72⟩⟩)
                  · rw [eZ]
                    exact sGok_cg (fun f hf => by
                      simp only [List.mem_cons, List.not_mem_nil, or_false] at hf
                      rw [row f (by omega) (by omega) (by omega)]) (fin7 3 (by decide) (by decide)) (fin7 4 (by decide) (by decide)) ⟨okl, ok7, bu, ob, og⟩
                  · rw [fin7 15 (by decide) (by decide)]
                    exact h15
                  · unfold sTok
                    rw [eZ, row 6 (by decide) (by decide) (by decide), row 73 (by decide) (by decide) (by decide), fin7 14 (by decide) (by decide), hL]
                    rw [hL] at e73
                    exact ⟨e14, e73⟩
                  · rw [fin7 16 (by decide) (by decide)]
                    exact h16
                  · rw [eZ, row 6 (by decide) (by decide) (by decide), hL]
                    exact hs
                  · rw [eZ]
                    exact e72
                  · simp only [List.mem_cons, List.not_mem_nil, or_false, not_or] at y1
                    exact fin f j i (by omega) (by omega) y2
            · omega
        · have hnil : stS (sZ M) (M 6 0) = [] := (stS_nil_iff hZ hdt okl (hls_I hI) og).mpr hno
          rw [hL] at hnil
          rw [hnil] at h
          simp only [List.length_nil] at h
          omega
    · simp only [cCmp, cE2, sev, svl, cen, List.cons_append, List.nil_append] at h
      exact d_ret [0] rfl (by decide) (hPo _ _ ⟨sKX_rf hI hK, Or.inr ⟨rfl, by omega⟩⟩)
theorem b_isBusyHand (hp : cPl tm tc tf EX) {a : Int} {M : SMem} (hI : sI tg M) (hZ : sWf (sZ M)) (hK : sKx M) : cBG tm tf EX l dC dI cA ad scrS (d + 7) kX9_isBusyHand [(2, 0, 0), (0, 0, a)] M (fun rr MM => sKX MM M ∧ ((rr = [1] ∧ MM 7 0 15 ≠ 0 ∧ 0 ≤ a ∧ a < 6 ∧ sBz (sZ M) a.toNat) ∨ (rr = [0] ∧ ¬ (0 ≤ a ∧ a < 6 ∧ sBz (sZ M) a.toNat)))) := by
  refine cMeth (v := [a]) (Fd := 90) hp (by decide) gX9_isBusyHand_ok gX9_isBusyHand_m0 (by simp [cAs, cE2, sev, svl, cen]) ?_
  refine cEnds_at gX9_isBusyHand_m0 rfl ?_
  refine d_call (b_isBelow hp (x := a) (y := 6)) (by simp [cAs, cE2, sev, svl, cen]) ?_
  intro rr M' hq
  obtain ⟨hM', hq⟩ := hq
  rw [hM']
  rcases hq with ⟨rfl, q1⟩ | ⟨rfl, q1⟩
  · refine ⟨rfl, ?_⟩
    refine d_br (fun h => ?_) (fun h => ?_)
    · clear h
      refine d_call (b_gatherAll2 (d := d + 1) hp hI hZ hK) (by simp [cAs, cE2, sev, svl, cen]) ?_
      rintro rr M1 ⟨rfl, i1, f1, g1, ok1, k1, eZ⟩
      refine ⟨rfl, ?_⟩
      obtain ⟨okl, ok7, bu, ob, og⟩ := ok1
      have obz := ob.trans (bu_eq og)
      have hx : sKX M1 M := ⟨i1, k1, eZ, fun f j i y1 y2 => f1 f j i (fun z => y1 (by simp only [List.mem_cons, List.not_mem_nil, or_false] at z ⊢; omega)) (fun z => y2 z.1)⟩
      refine d_call (b_isBusy hp (b := sBb (sZ M1)) (h := a.toNat) (by omega) obz) (by simp [cAs, cE2, sev, svl, cen] <;> omega) ?_
      intro rr M2 hq
      obtain ⟨hM2, hq⟩ := hq
      rw [hM2]
      rw [sBb_y, eZ] at hq
      rcases hq with ⟨rfl, q2⟩ | ⟨rfl, q2⟩
      · exact ⟨rfl, d_ret [1] rfl (by decide) ⟨hx, Or.inl ⟨rfl, by omega, q1.1, q1.2, q2⟩⟩⟩
      · exact ⟨rfl, d_ret [0] rfl (by decide) ⟨hx, Or.inr ⟨rfl, fun z => q2 z.2.2⟩⟩⟩
    · simp only [cCmp, cE2, sev, svl, cen, List.cons_append, List.nil_append] at h
      omega
  · refine ⟨rfl, ?_⟩
    refine d_br (fun h => ?_) (fun h => ?_)
    · simp only [cCmp, cE2, sev, svl, cen, List.cons_append, List.nil_append] at h
      omega
    · exact d_ret [0] rfl (by decide) ⟨sKX_rf hI hK, Or.inr ⟨rfl, fun z => q1 ⟨z.1, z.2.1⟩⟩⟩
theorem b_mostOf (hp : cPl tm tc tf EX) {L : List (Nat → Int)} {hn : Nat} {M : SMem} (h6 : hn < 6) (hL : L.length ≤ 46656) (hc : ∀ x, x < 6 → M 73 0 (6 * hn + x) = ((stC L hn (x : Int) : Nat) : Int)) : cBG tm tf EX l dC dI cA ad scrS (d + 1) kX6_mostOf [(2, 7, 0), (0, 0, (hn : Int))] M (fun rr MM => MM = M ∧ rr = [stM L hn 6]) := by
  refine cMeth (v := [(hn : Int)]) (Fd := 90) hp (by decide) gX6_mostOf_ok gX6_mostOf_m0 (by simp [cAs, cE2, sev, svl, cen]) ?_
  have loop : ∀ (m k : Nat), k + m = 6 → cEnds (cBG tm tf EX l dC dI cA ad scrS d) (fun rr MM => MM = M ∧ rr = [stM L hn 6]) 90 gX6_mostOf 4 [(hn : Int), stM L hn k, (k : Int)] M := by
    intro m
    induction m with
    | zero =>
      intro k hk
      have b := stM_b (L := L) (a := hn) k
      refine cEnds_at gX6_mostOf_m4 rfl ?_
      refine d_br (fun h => ?_) (fun h => ?_)
      · exact wret1 (stM L hn k) (by simp only [cE2, sev, svl, cen, List.cons_append, List.nil_append]; omega) (by omega) ⟨rfl, by rw [show k = 6 by omega]⟩
      · simp only [cCmp, cE2, sev, svl, cen, List.cons_append, List.nil_append] at h
        omega
    | succ m ih =>
      intro k hk
      have e := hc k (by omega)
      refine cEnds_at gX6_mostOf_m4 rfl ?_
      refine d_br (fun h => ?_) (fun h => ?_)
      · simp only [cCmp, cE2, sev, svl, cen, List.cons_append, List.nil_append] at h
        first
        | omega
        | skip
          exact wret1 (stM L hn k) (by simp only [cE2, sev, svl, cen, List.cons_append, List.nil_append]; omega) (by omega) (by omega)
      · simp only [cCmp, cE2, sev, svl, cen, List.cons_append, List.nil_append] at h
        first
        | omega
        | skip
          refine d_rng (by simp only [clo, chi, cE2, sev, svl, cen, List.cons_append, List.nil_append]; omega) ?_
          refine d_rng (by simp only [clo, chi, cE2, sev, svl, cen, List.cons_append, List.nil_append]; omega) ?_
          refine d_row 0 (6 * hn + k) (by simp only [cE2, sev, svl, cen, List.cons_append, List.nil_append]; omega) (by simp only [cE2, sev, svl, cen, List.cons_append, List.nil_append]; omega) (by omega) ?_
          rw [e]
          refine d_opw (stM L hn k) ((stC L hn (k : Int) : Nat) : Int) (by simp [cE2, sev, svl, cen] <;> omega) (by simp [cE2, sev, svl, cen] <;> omega) ?_
          refine d_rng (by simp only [clo, chi, cE2, sev, svl, cen, List.cons_append, List.nil_append]; omega) ?_
          refine d_cut [(hn : Int), stM L hn (k + 1), ((k + 1 : Nat) : Int)] (by simp [cE2, sev, svl, cen, stM] <;> omega) ?_
          exact ih (k + 1) (by omega)
  refine cEnds_at gX6_mostOf_m0 rfl ?_
  refine d_cut [(hn : Int), stM L hn 0, ((0 : Nat) : Int)] (by simp [cE2, sev, svl, cen, stM]) ?_
  exact loop 6 0 (by omega)
theorem b_sureHands (hp : cPl tm tc tf EX) {L : List (Nat → Int)} {Z : STZ} {M : SMem} (hL : L.length ≤ 46656) (e14 : M 7 0 14 = ((L.length : Nat) : Int)) (e3 : M 7 0 3 = wBt (sBb Z) 6) (hc : ∀ a x, a < 6 → x < 6 → sBz Z a → M 73 0 (6 * a + x) = ((stC L a (x : Int) : Nat) : Int)) : cBG tm tf EX l dC dI cA ad scrS (d + 2) kX6_sureHands [(2, 7, 0)] M (fun rr MM => MM = M ∧ rr = [wBt (wDc (fun a => sBz Z a ∧ stSr L a)) 6]) := by
  refine cMeth (v := []) (Fd := 90) hp (by decide) gX6_sureHands_ok gX6_sureHands_m0 (by simp [cAs, cE2, sev, svl, cen]) ?_
  generalize hb : wDc (fun a => sBz Z a ∧ stSr L a) = b
  have loop : ∀ (m k : Nat), k + m = 6 → cEnds (cBG tm tf EX l dC dI cA ad scrS (d + 1)) (fun rr MM => MM = M ∧ rr = [wBt b 6]) 90 gX6_sureHands 4 [wBt b k, (k : Int)] M := by
    intro m
    induction m with
    | zero =>
      intro k hk
      have br := wBt_r b k
      refine cEnds_at gX6_sureHands_m4 rfl ?_
      refine d_br (fun h => ?_) (fun h => ?_)
      · exact wret1 (wBt b k) (by simp only [cE2, sev, svl, cen, List.cons_append, List.nil_append]; omega) (by omega) ⟨rfl, by rw [show k = 6 by omega]⟩
      · simp only [cCmp, cE2, sev, svl, cen, List.cons_append, List.nil_append] at h
        omega
    | succ m ih =>
      intro k hk
      have br := wBt_r b k
      have bM := stM_b (L := L) (a := k) 6
      have no : ¬ (sBz Z k ∧ stSr L k) → wBt b k = wBt b (k + 1) := fun z => by
        rw [wBt_n (by rw [← hb]; exact wDc_n z)]
      have yes : (sBz Z k ∧ stSr L k) → cfn 1 (wBt b k) (cfn 2 1 (k : Int)) = wBt b (k + 1) := fun z => by
        rw [wBt_y (by rw [← hb]; exact wDc_y z)]
      refine cEnds_at gX6_sureHands_m4 rfl ?_
      refine d_br (fun h => ?_) (fun h => ?_)
      · simp only [cCmp, cE2, sev, svl, cen, List.cons_append, List.nil_append] at h
        first
        | omega
        | skip
          exact wret1 (wBt b k) (by simp only [cE2, sev, svl, cen, List.cons_append, List.nil_append]; omega) (by omega) (by omega)
      · simp only [cCmp, cE2, sev, svl, cen, List.cons_append, List.nil_append] at h
        first
        | omega
        | skip
          refine d_fld 0 (by simp only [cE2, sev, svl, cen, List.cons_append, List.nil_append]; omega) ?_
          rw [e14]
          refine d_br (fun h => ?_) (fun h => ?_)
          · simp only [cCmp, cE2, sev, svl, cen, List.cons_append, List.nil_append] at h
            first
            | omega
            | skip
              refine d_rng (by simp only [clo, chi, cE2, sev, svl, cen, List.cons_append, List.nil_append]; omega) ?_
              rw [no (fun z => by have := z.2.1; omega)]
              refine d_cut [wBt b (k + 1), ((k + 1 : Nat) : Int)] (by simp [cE2, sev, svl, cen] <;> omega) ?_
              exact ih (k + 1) (by omega)
          · simp only [cCmp, cE2, sev, svl, cen, List.cons_append, List.nil_append] at h
            first
            | omega
            | skip
              refine d_call (b_isBusy hp (b := sBb Z) (h := k) (by omega) e3) (by simp [cAs, cE2, sev, svl, cen] <;> omega) ?_
              intro rr M' hq
              obtain ⟨hM', hq⟩ := hq
              rw [hM']
              rcases hq with ⟨rfl, q3⟩ | ⟨rfl, q3⟩
              · refine ⟨rfl, ?_⟩
                refine d_br (fun h => ?_) (fun h => ?_)
                · simp only [cCmp, cE2, sev, svl, cen, List.cons_append, List.nil_append] at h
                  omega
                · clear h
                  refine d_call (b_mostOf hp (L := L) (hn := k) (by omega) hL (fun x hx => hc k x (by omega) hx (sBb_y.mp q3))) (by simp [cAs, cE2, sev, svl, cen] <;> omega) ?_
                  intro rr M' hq
                  obtain ⟨hM', rfl⟩ := hq
                  rw [hM']
                  refine ⟨rfl, ?_⟩
                  refine d_fld 0 (by simp only [cE2, sev, svl, cen, List.cons_append, List.nil_append]; omega) ?_
                  rw [e14]
                  refine d_br (fun h => ?_) (fun h => ?_)
                  · simp only [cCmp, cE2, sev, svl, cen, List.cons_append, List.nil_append] at h
                    first
                    | omega
                    | skip
                      refine d_rng (by simp only [clo, chi, cE2, sev, svl, cen, List.cons_append, List.nil_append]; omega) ?_
                      rw [no (fun z => by have := (stSr_iff z.2.1).mpr z.2.2; omega)]
                      refine d_cut [wBt b (k + 1), ((k + 1 : Nat) : Int)] (by simp [cE2, sev, svl, cen] <;> omega) ?_
                      exact ih (k + 1) (by omega)
                  · simp only [cCmp, cE2, sev, svl, cen, List.cons_append, List.nil_append] at h
                    first
                    | omega
                    | skip
                      refine d_opw 1 (k : Int) (by simp [cE2, sev, svl, cen] <;> omega) (by simp [cE2, sev, svl, cen] <;> omega) ?_
                      refine d_opw (wBt b k) (cfn 2 1 (k : Int)) (by simp [cE2, sev, svl, cen] <;> omega) (by simp [cE2, sev, svl, cen] <;> omega) ?_
                      refine d_rng (by simp only [clo, chi, cE2, sev, svl, cen, List.cons_append, List.nil_append]; omega) ?_
                      rw [yes ⟨sBb_y.mp q3, by omega, (stSr_iff (by omega)).mp (by omega)⟩]
                      refine d_cut [wBt b (k + 1), ((k + 1 : Nat) : Int)] (by simp [cE2, sev, svl, cen] <;> omega) ?_
                      exact ih (k + 1) (by omega)
              · refine ⟨rfl, ?_⟩
                refine d_br (fun h => ?_) (fun h => ?_)
                · clear h
                  refine d_rng (by simp only [clo, chi, cE2, sev, svl, cen, List.cons_append, List.nil_append]; omega) ?_
                  rw [no (fun z => q3 (sBb_y.mpr z.1))]
                  refine d_cut [wBt b (k + 1), ((k + 1 : Nat) : Int)] (by simp [cE2, sev, svl, cen] <;> omega) ?_
                  exact ih (k + 1) (by omega)
                · simp only [cCmp, cE2, sev, svl, cen, List.cons_append, List.nil_append] at h
                  omega
  refine cEnds_at gX6_sureHands_m0 rfl ?_
  refine d_cut [wBt b 0, ((0 : Nat) : Int)] (by simp [cE2, sev, svl, cen, wBt]) ?_
  exact loop 6 0 (by omega)
theorem b_handToDate (hp : cPl tm tc tf EX) {L : List (Nat → Int)} {Z : STZ} {M : SMem} (hL : L.length ≤ 46656) (e14 : M 7 0 14 = ((L.length : Nat) : Int)) (e3 : M 7 0 3 = wBt (sBb Z) 6) (hc : ∀ a x, a < 6 → x < 6 → sBz Z a → M 73 0 (6 * a + x) = ((stC L a (x : Int) : Nat) : Int)) : cBG tm tf EX l dC dI cA ad scrS (d + 2) kX6_handToDate [(2, 7, 0)] M (fun rr MM => MM = M ∧ rr = [stN L (fun k => 0 < L.length ∧ sBz Z k ∧ M 6 0 k = -1) 6]) := by
  refine cMeth (v := []) (Fd := 90) hp (by decide) gX6_handToDate_ok gX6_handToDate_m0 (by simp [cAs, cE2, sev, svl, cen]) ?_
  generalize hop : (fun k => 0 < L.length ∧ sBz Z k ∧ M 6 0 k = -1) = op
  have hop' : ∀ k, op k ↔ (0 < L.length ∧ sBz Z k ∧ M 6 0 k = -1) := fun k => by rw [← hop]
  have loop : ∀ (m k : Nat), k + m = 6 → cEnds (cBG tm tf EX l dC dI cA ad scrS (d + 1)) (fun rr MM => MM = M ∧ rr = [stN L op 6]) 90 gX6_handToDate 4 [stN L op k, (k : Int)] M := by
    intro m
    induction m with
    | zero =>
      intro k hk
      have br := stN_b (L := L) (op := op) k
      refine cEnds_at gX6_handToDate_m4 rfl ?_
      refine d_br (fun h => ?_) (fun h => ?_)
      · exact wret1 (stN L op k) (by simp only [cE2, sev, svl, cen, List.cons_append, List.nil_append]; omega) (by omega) ⟨rfl, by rw [show k = 6 by omega]⟩
      · simp only [cCmp, cE2, sev, svl, cen, List.cons_append, List.nil_append] at h
        omega
    | succ m ih =>
      intro k hk
      have br := stN_b (L := L) (op := op) k
      have no : ¬ (op k ∧ (stN L op k = -1 ∨ stM L k 6 < stM L (stN L op k).toNat 6)) → stN L op k = stN L op (k + 1) := fun z => (stN_n z).symm
      have yes : (op k ∧ (stN L op k = -1 ∨ stM L k 6 < stM L (stN L op k).toNat 6)) → (k : Int) = stN L op (k + 1) := fun z => (stN_y z).symm
      generalize hN : stN L op (k + 1) = N at no yes
      have nx : cEnds (cBG tm tf EX l dC dI cA ad scrS (d + 1)) (fun rr MM => MM = M ∧ rr = [stN L op 6]) 90 gX6_handToDate 4 [N, ((k + 1 : Nat) : Int)] M := by
        rw [← hN]
        exact ih (k + 1) (by omega)
      refine cEnds_at gX6_handToDate_m4 rfl ?_
      refine d_br (fun h => ?_) (fun h => ?_)
      · simp only [cCmp, cE2, sev, svl, cen, List.cons_append, List.nil_append] at h
        first
        | omega
        | skip
          exact wret1 (stN L op k) (by simp only [cE2, sev, svl, cen, List.cons_append, List.nil_append]; omega) (by omega) (by omega)
      · simp only [cCmp, cE2, sev, svl, cen, List.cons_append, List.nil_append] at h
        first
        | omega
        | skip
          refine d_fld 0 (by simp only [cE2, sev, svl, cen, List.cons_append, List.nil_append]; omega) ?_
          rw [e14]
          refine d_br (fun h => ?_) (fun h => ?_)
          · simp only [cCmp, cE2, sev, svl, cen, List.cons_append, List.nil_append] at h
            first
            | omega
            | skip
              refine d_rng (by simp only [clo, chi, cE2, sev, svl, cen, List.cons_append, List.nil_append]; omega) ?_
              rw [no (fun z => by have := ((hop' k).mp z.1).1; omega)]
              refine d_cut [N, ((k + 1 : Nat) : Int)] (by simp [cE2, sev, svl, cen] <;> omega) ?_
              exact nx
          · simp only [cCmp, cE2, sev, svl, cen, List.cons_append, List.nil_append] at h
            first
            | omega
            | skip
              refine d_call (b_isBusy hp (b := sBb Z) (h := k) (by omega) e3) (by simp [cAs, cE2, sev, svl, cen] <;> omega) ?_
              intro rr M' hq
              obtain ⟨hM', hq⟩ := hq
              rw [hM']
              rcases hq with ⟨rfl, q3⟩ | ⟨rfl, q3⟩
              · refine ⟨rfl, ?_⟩
                refine d_br (fun h => ?_) (fun h => ?_)
                · simp only [cCmp, cE2, sev, svl, cen, List.cons_append, List.nil_append] at h
                  omega
                · clear h
                  refine d_row 0 k (by simp only [cE2, sev, svl, cen, List.cons_append, List.nil_append]; omega) (by simp only [cE2, sev, svl, cen, List.cons_append, List.nil_append]; omega) (by omega) ?_
                  refine d_br (fun h => ?_) (fun h => ?_)
                  · simp only [cCmp, cE2, sev, svl, cen, List.cons_append, List.nil_append] at h
                    first
                    | omega
                    | skip
                      refine d_rng (by simp only [clo, chi, cE2, sev, svl, cen, List.cons_append, List.nil_append]; omega) ?_
                      rw [no (fun z => by have := ((hop' k).mp z.1).2.2; omega)]
                      refine d_cut [N, ((k + 1 : Nat) : Int)] (by simp [cE2, sev, svl, cen] <;> omega) ?_
                      exact nx
                  · simp only [cCmp, cE2, sev, svl, cen, List.cons_append, List.nil_append] at h
                    first
                    | omega
                    | skip
                      refine d_br (fun h => ?_) (fun h => ?_)
                      · simp only [cCmp, cE2, sev, svl, cen, List.cons_append, List.nil_append] at h
                        first
                        | omega
                        | skip
                          refine d_rng (by simp only [clo, chi, cE2, sev, svl, cen, List.cons_append, List.nil_append]; omega) ?_
                          have ey := yes ⟨(hop' k).mpr ⟨by omega, sBb_y.mp q3, by omega⟩, Or.inl (by omega)⟩
                          refine d_cut [N, ((k + 1 : Nat) : Int)] (by simp [cE2, sev, svl, cen] <;> omega) ?_
                          exact nx
                      · simp only [cCmp, cE2, sev, svl, cen, List.cons_append, List.nil_append] at h
                        first
                        | omega
                        | skip
                          refine d_call (b_mostOf hp (L := L) (hn := ((k : Int)).toNat) (by omega) hL (fun x hx => hc _ x (by omega) hx (by rcases br with z | z; { first | omega | (rw [show ((k : Nat) : Int).toNat = k by omega]; exact sBb_y.mp q3) }; { first | exact ((hop' _).mp z.2.2).2.1 | (rw [show ((k : Nat) : Int).toNat = k by omega]; exact sBb_y.mp q3) }))) (by simp [cAs, cE2, sev, svl, cen] <;> omega) ?_
                          intro rr M' hq
                          obtain ⟨hM', rfl⟩ := hq
                          rw [hM']
                          refine ⟨rfl, ?_⟩
                          refine d_call (b_mostOf hp (L := L) (hn := ((stN L op k)).toNat) (by omega) hL (fun x hx => hc _ x (by omega) hx (by rcases br with z | z; { first | omega | (rw [show ((k : Nat) : Int).toNat = k by omega]; exact sBb_y.mp q3) }; { first | exact ((hop' _).mp z.2.2).2.1 | (rw [show ((k : Nat) : Int).toNat = k by omega]; exact sBb_y.mp q3) }))) (by simp [cAs, cE2, sev, svl, cen] <;> omega) ?_
                          intro rr M' hq
                          obtain ⟨hM', rfl⟩ := hq
                          rw [hM']
                          refine ⟨rfl, ?_⟩
                          refine d_br (fun h => ?_) (fun h => ?_)
                          · simp only [cCmp, cE2, sev, svl, cen, List.cons_append, List.nil_append] at h
                            first
                            | omega
                            | skip
                              refine d_rng (by simp only [clo, chi, cE2, sev, svl, cen, List.cons_append, List.nil_append]; omega) ?_
                              rw [no (fun z => by rw [show ((k : Nat) : Int).toNat = k by omega] at h; have := z.2; omega)]
                              refine d_cut [N, ((k + 1 : Nat) : Int)] (by simp [cE2, sev, svl, cen] <;> omega) ?_
                              exact nx
                          · simp only [cCmp, cE2, sev, svl, cen, List.cons_append, List.nil_append] at h
                            first
                            | omega
                            | skip
                              refine d_rng (by simp only [clo, chi, cE2, sev, svl, cen, List.cons_append, List.nil_append]; omega) ?_
                              have ey := yes ⟨(hop' k).mpr ⟨by omega, sBb_y.mp q3, by omega⟩, Or.inr (by rw [show ((k : Nat) : Int).toNat = k by omega] at h; omega)⟩
                              refine d_cut [N, ((k + 1 : Nat) : Int)] (by simp [cE2, sev, svl, cen] <;> omega) ?_
                              exact nx
              · refine ⟨rfl, ?_⟩
                refine d_br (fun h => ?_) (fun h => ?_)
                · clear h
                  refine d_rng (by simp only [clo, chi, cE2, sev, svl, cen, List.cons_append, List.nil_append]; omega) ?_
                  rw [no (fun z => q3 (sBb_y.mpr ((hop' k).mp z.1).2.1))]
                  refine d_cut [N, ((k + 1 : Nat) : Int)] (by simp [cE2, sev, svl, cen] <;> omega) ?_
                  exact nx
                · simp only [cCmp, cE2, sev, svl, cen, List.cons_append, List.nil_append] at h
                  omega
  refine cEnds_at gX6_handToDate_m0 rfl ?_
  refine d_cut [stN L op 0, ((0 : Nat) : Int)] (by simp [cE2, sev, svl, cen, stN]) ?_
  exact loop 6 0 (by omega)
end CS14
