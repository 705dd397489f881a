/-! stories: the class seeks one -/
section STG
variable {bz : Nat → Bool} {V : (Nat → Int) → Prop} {k hn : Nat} {r : Nat → Int}
theorem stP_get {y t : Nat} {s : Nat → Int} (hs : (stP bz V k hn r y)[t]? = some s) : ∀ m, (stP bz V k hn r (y + m))[t]? = some s := by
  intro m
  induction m with
  | zero => exact hs
  | succ m ih =>
    rw [show y + (m + 1) = (y + m) + 1 by omega, stP_s, List.getElem?_append_left (List.getElem?_eq_some_iff.mp ih).1]
    exact ih
theorem stP_in {y t : Nat} {s : Nat → Int} (ht : (stP bz V k hn r y).length ≤ t) (hs : (stL bz V k (wSt r hn (y : Int)))[t - (stP bz V k hn r y).length]? = some s) : (stP bz V k hn r (y + 1))[t]? = some s := by
  rw [stP_s, List.getElem?_append_right ht]
  exact hs
/-- the last hand's -/
theorem stP_one {lo : Nat} (h0 : stP bz V k hn r lo = []) : ∀ m, (∀ x, lo ≤ x → x < lo + m → stL bz V k (wSt r hn (x : Int)) = [wSt r hn (x : Int)]) → (stP bz V k hn r (lo + m)).length = m ∧ ∀ t, t < m → (stP bz V k hn r (lo + m))[t]? = some (wSt r hn ((lo + t : Nat) : Int)) := by
  intro m
  induction m with
  | zero =>
    intro _
    rw [Nat.add_zero, h0]
    exact ⟨rfl, fun t ht => absurd ht (Nat.not_lt_zero _)⟩
  | succ m ih =>
    intro hx
    obtain ⟨i1, i2⟩ := ih (fun x h1 h2 => hx x h1 (by omega))
    rw [show lo + (m + 1) = (lo + m) + 1 by omega, stP_s, hx (lo + m) (by omega) (by omega)]
    refine ⟨by rw [List.length_append, i1]; rfl, fun t ht => ?_⟩
    by_cases e : t = m
    · subst e
      rw [List.getElem?_append_right (by omega), i1, Nat.sub_self]
      rfl
    · rw [List.getElem?_append_left (by omega)]
      exact i2 t (by omega)
end STG
section CS13
variable {EX : SEx} {l : Launch} {dC : Nat → ClassId} {dI : Nat → Nat → Nat} {cA : Nat → ClassId} {ad : SAd} {scrS d : Nat}
theorem b_skipLast (hp : cPl tm tc tf EX) {hn t : Nat} {lo hi : Int} {M : SMem} (h6 : hn < 6) (b1 : 0 ≤ lo ∧ lo ≤ 20) (b2 : -1 ≤ hi ∧ hi ≤ 5) (ht : M 7 0 18 = (t : Int)) (ht9 : t ≤ 46656) : cBG tm tf EX l dC dI cA ad scrS (d + 1) kX6_skipLast [(2, 7, 0), (0, 0, (hn : Int)), (0, 0, lo), (0, 0, hi)] M (fun rr MM => (rr = [1] ∧ (t : Int) < hi - lo + 1 ∧ MM = supd M 72 0 hn (lo + (t : Int))) ∨ (rr = [0] ∧ ∃ n : Nat, ((n : Int) = hi - lo + 1 ∨ (n = 0 ∧ hi < lo)) ∧ n ≤ t ∧ MM = supd M 7 0 18 ((t : Int) - (n : Int)))) := by
  have e3 := @cfn11 0 (-lo + hi + 1)
  refine cMeth (v := [(hn : Int), lo, hi]) (Fd := 90) hp (by decide) gX6_skipLast_ok gX6_skipLast_m0 (by simp [cAs, cE2, sev, svl, cen]) ?_
  refine cEnds_at gX6_skipLast_m0 rfl ?_
  refine d_rng (by simp only [clo, chi, cE2, sev, svl, cen, List.cons_append, List.nil_append]; omega) ?_
  refine d_rng (by simp only [clo, chi, cE2, sev, svl, cen, List.cons_append, List.nil_append]; omega) ?_
  refine d_opw 0 (-lo + hi + 1) (by simp [cE2, sev, svl, cen] <;> omega) (by simp [cE2, sev, svl, cen] <;> omega) ?_
  refine d_fld 0 (by simp only [cE2, sev, svl, cen, List.cons_append, List.nil_append]; omega) ?_
  rw [ht]
  refine d_br (fun h => ?_) (fun h => ?_)
  · simp only [cCmp, cE2, sev, svl, cen, List.cons_append, List.nil_append] at h
    first
    | omega
    | skip
      refine d_fld 0 (by simp only [cE2, sev, svl, cen, List.cons_append, List.nil_append]; omega) ?_
      rw [ht]
      refine d_rng (by simp only [clo, chi, cE2, sev, svl, cen, List.cons_append, List.nil_append]; omega) ?_
      refine d_set 0 hn (lo + (t : Int)) (by simp only [cE2, sev, svl, cen, List.cons_append, List.nil_append]; omega) (by simp only [cE2, sev, svl, cen, List.cons_append, List.nil_append]; omega) (by omega) (by simp only [cE2, sev, svl, cen, List.cons_append, List.nil_append]; omega) ?_
      exact d_ret [1] rfl (by decide) (Or.inl ⟨rfl, by omega, rfl⟩)
  · simp only [cCmp, cE2, sev, svl, cen, List.cons_append, List.nil_append] at h
    first
    | omega
    | skip
      refine d_fld 0 (by simp only [cE2, sev, svl, cen, List.cons_append, List.nil_append]; omega) ?_
      rw [ht]
      refine d_rng (by simp only [clo, chi, cE2, sev, svl, cen, List.cons_append, List.nil_append]; omega) ?_
      refine d_put 0 (-(cfn 11 0 (-lo + hi + 1)) + (t : Int)) (by simp only [cE2, sev, svl, cen, List.cons_append, List.nil_append]; omega) (by simp only [cE2, sev, svl, cen, List.cons_append, List.nil_append]; omega) ?_
      exact d_ret [0] rfl (by decide) (Or.inr ⟨rfl, (cfn 11 0 (-lo + hi + 1)).toNat, by omega, by omega, by rw [show (((cfn 11 0 (-lo + hi + 1)).toNat : Nat) : Int) = cfn 11 0 (-lo + hi + 1) by omega, show (t : Int) - cfn 11 0 (-lo + hi + 1) = -cfn 11 0 (-lo + hi + 1) + (t : Int) by omega]⟩)
set_option maxHeartbeats 4000000 in
theorem b_seekFrom (hp : cPl tm tc tf EX) {bz : Nat → Bool} {V : (Nat → Int) → Prop} {E ce st : Nat → Int} (hU : stU bz V E ce st) (hE5 : ∀ hn, hn < 6 → E hn ≤ 5) : ∀ (k : Nat), k ≤ 6 → ∀ (r : Nat → Int) (t : Nat) (M : SMem), sI tg M → M 66 0 = ce → M 67 0 = st → M 70 0 = E → M 7 0 3 = wBt bz 6 → (∀ i, i < 6 - k → bz i = true → M 72 0 i = r i) → stR bz E ce st (6 - k) r → M 7 0 18 = (t : Int) → t ≤ 46656 → (t = 0 ∨ ∃ i, 6 - k ≤ i ∧ i < 6 ∧ bz i = true) → cBG tm tf EX l dC dI cA ad scrS (d + k + 2) kX6_seekFrom [(2, 7, 0), (0, 0, ((6 - k : Nat) : Int))] M (fun rr MM => sI tg MM ∧ (∀ f j i, f ≠ 72 → ¬ (f = 7 ∧ i = 18) → MM f j i = M f j i) ∧ (∀ i, i < (6 - k) → MM 72 0 i = M 72 0 i) ∧ ((rr = [1] ∧ ∃ s, (stL bz V k r)[t]? = some s ∧ ∀ i, (6 - k) ≤ i → i < 6 → bz i = true → MM 72 0 i = s i) ∨ (rr = [0] ∧ (stL bz V k r).length ≤ t ∧ MM 7 0 18 = ((t - (stL bz V k r).length : Nat) : Int)))) := by
  intro k
  induction k with
  | zero =>
    intro _ r t M hI e66 e67 e70 e3 hq hR ht ht9 hb
    have t0 : t = 0 := hb.elim id (fun ⟨i, h1, h2, _⟩ => by omega)
    subst t0
    refine cMeth (v := [((6 - 0 : Nat) : Int)]) (Fd := 90) hp (by decide) gX6_seekFrom_ok gX6_seekFrom_m0 (by simp [cAs, cE2, sev, svl, cen]) ?_
    refine cEnds_at gX6_seekFrom_m0 rfl ?_
    refine d_br (fun h => ?_) (fun h => ?_)
    · simp only [cCmp, cE2, sev, svl, cen, List.cons_append, List.nil_append] at h
      omega
    · refine d_fld 0 (by simp only [cE2, sev, svl, cen, List.cons_append, List.nil_append]; omega) ?_
      rw [ht]
      refine d_br (fun h => ?_) (fun h => ?_)
      · simp only [cCmp, cE2, sev, svl, cen, List.cons_append, List.nil_append] at h
        omega
      · exact d_ret [1] rfl (by decide) ⟨hI, fun _ _ _ _ _ => rfl, fun _ _ => rfl, Or.inl ⟨rfl, r, by rw [stL_0y (hU.1 r hR)]; rfl, fun i h1 h2 => by omega⟩⟩
  | succ k ih =>
    intro hk r t M hI e66 e67 e70 e3 hq hR ht ht9 hbt
    obtain ⟨hn, eh⟩ : ∃ hn : Nat, hn = 5 - k := ⟨_, rfl⟩
    have e1 : (6 - (k + 1) : Nat) = hn := by omega
    have e2 : (6 - k : Nat) = hn + 1 := by omega
    have h6 : hn < 6 := by omega
    have ih' := ih (by omega)
    rw [e2] at ih'
    rw [e1] at hq hR hbt
    rw [e1]
    refine cMeth (v := [(hn : Int)]) (Fd := 90) hp (by decide) gX6_seekFrom_ok gX6_seekFrom_m0 (by simp [cAs, cE2, sev, svl, cen]) ?_
    suffices H : ∀ Po : List Int → SMem → Prop, (∀ rr MM, (sI tg MM ∧ (∀ f j i, f ≠ 72 → ¬ (f = 7 ∧ i = 18) → MM f j i = M f j i) ∧ (∀ i, i < hn → MM 72 0 i = M 72 0 i) ∧ ((rr = [1] ∧ ∃ s, (stL bz V (k + 1) r)[t]? = some s ∧ ∀ i, hn ≤ i → i < 6 → bz i = true → MM 72 0 i = s i) ∨ (rr = [0] ∧ (stL bz V (k + 1) r).length ≤ t ∧ MM 7 0 18 = ((t - (stL bz V (k + 1) r).length : Nat) : Int)))) → Po rr MM) → cEnds (cBG tm tf EX l dC dI cA ad scrS (d + k + 2)) Po 90 gX6_seekFrom 0 [(hn : Int)] M from H _ (fun _ _ hn => hn)
    intro Po hPo
    cases hb : bz hn with
    | false =>
      have eL : stL bz V (k + 1) r = stL bz V k r := stL_n (by rw [← eh]; exact hb)
      have nb : ∀ i, bz i = true → i ≠ hn := fun i hi z => by
        rw [z, hb] at hi
        cases hi
      have fin : ∀ rr MM, (sI tg MM ∧ (∀ f j i, f ≠ 72 → ¬ (f = 7 ∧ i = 18) → MM f j i = M f j i) ∧ (∀ i, i < (hn + 1) → MM 72 0 i = M 72 0 i) ∧ ((rr = [1] ∧ ∃ s, (stL bz V k r)[t]? = some s ∧ ∀ i, (hn + 1) ≤ i → i < 6 → bz i = true → MM 72 0 i = s i) ∨ (rr = [0] ∧ (stL bz V k r).length ≤ t ∧ MM 7 0 18 = ((t - (stL bz V k r).length : Nat) : Int)))) → Po rr MM := fun rr MM q => hPo rr MM (by
        obtain ⟨q1, q2, q3, q4⟩ := q
        refine ⟨q1, q2, fun i hi => q3 i (by omega), ?_⟩
        rw [eL]
        exact q4.imp (fun ⟨y1, s, y2, y3⟩ => ⟨y1, s, y2, fun i z1 z2 z3 => y3 i (by have := nb i z3; omega) z2 z3⟩) id)
      refine cEnds_at gX6_seekFrom_m0 rfl ?_
      refine d_br (fun h => ?_) (fun h => ?_)
      · simp only [cCmp, cE2, sev, svl, cen, List.cons_append, List.nil_append] at h
        first
        | omega
        | skip
          refine d_call (b_isBusy hp (b := bz) (h := hn) h6 e3) (by simp [cAs, cE2, sev, svl, cen] <;> omega) ?_
          intro rr M' hq
          obtain ⟨hM', hq⟩ := hq
          rw [hM']
          rcases hq with ⟨rfl, q1⟩ | ⟨rfl, q1⟩
          · refine ⟨rfl, ?_⟩
            refine d_br (fun h => ?_) (fun h => ?_)
            · clear h
              exact absurd (q1.symm.trans hb) (by decide)
            · simp only [cCmp, cE2, sev, svl, cen, List.cons_append, List.nil_append] at h
              omega
          · refine ⟨rfl, ?_⟩
            refine d_br (fun h => ?_) (fun h => ?_)
            · simp only [cCmp, cE2, sev, svl, cen, List.cons_append, List.nil_append] at h
              omega
            · clear h
              refine d_rng (by simp only [clo, chi, cE2, sev, svl, cen, List.cons_append, List.nil_append]; omega) ?_
              refine d_call (ih' r t M hI e66 e67 e70 e3 (fun i hi hbi => hq i (by have := nb i hbi; omega) hbi) (stR_skip hb hR) ht ht9 (hbt.imp id (fun ⟨i, y1, y2, y3⟩ => ⟨i, by have := nb i y3; omega, y2, y3⟩))) (by simp [cAs, cE2, sev, svl, cen] <;> omega) ?_
              intro rr M' hq
              have hpost := hq
              obtain ⟨rv, erv, bv⟩ : ∃ rv : Int, rr = [rv] ∧ 0 ≤ rv ∧ rv ≤ 1 := by rcases hpost.2.2.2 with ⟨y, _⟩ | ⟨y, _⟩; { exact ⟨1, y, by omega, by omega⟩ }; { exact ⟨0, y, by omega, by omega⟩ }
              subst erv
              refine ⟨rfl, ?_⟩
              refine wretb rv (by simp only [cE2, sev, svl, cen, List.cons_append, List.nil_append]; omega) (by omega) (fin _ _ hpost)
      · simp only [cCmp, cE2, sev, svl, cen, List.cons_append, List.nil_append] at h
        first
        | omega
        | skip
          refine d_fld 0 (by simp only [cE2, sev, svl, cen, List.cons_append, List.nil_append]; omega) ?_
          refine d_br (fun h => ?_) (fun h => ?_)
          · simp only [cCmp, cE2, sev, svl, cen, List.cons_append, List.nil_append] at h
            first
            | omega
            | skip
              exact d_ret [0] rfl (by decide) (hPo _ _ (by omega))
          · simp only [cCmp, cE2, sev, svl, cen, List.cons_append, List.nil_append] at h
            first
            | omega
            | skip
              exact d_ret [1] rfl (by decide) (hPo _ _ (by omega))
    | true =>
      have eT : stL bz V (k + 1) r = stP bz V k hn r 6 := by
        rw [eh]
        exact stP_6 (by rw [← eh]; exact hb)
      have em : ∀ (y : Nat) s, s ∈ stL bz V k (wSt r hn (y : Int)) → s hn = (y : Int) := fun y s hs => by
        rw [(stL_mem k (by omega) _ s hs).2.1 hn (Or.inl (by omega)), wSt_at]
      -- the hands in turn
      have loop : ∀ (lo hi : Int), (∃ i, hn < i ∧ i < 6 ∧ bz i = true) → (∀ y, lo ≤ y ↔ (E hn ≤ y ∧ ∀ i, i < hn → 0 ≤ st (hn + 6 * i) → M 72 0 i + st (hn + 6 * i) ≤ y)) → (∀ y, y ≤ hi ↔ (y ≤ ce hn ∧ ∀ i, i < hn → 0 ≤ st (6 * hn + i) → y + st (6 * hn + i) ≤ M 72 0 i)) → hi ≤ 5 → ∀ (n y : Nat) (M1 : SMem), y + n = 6 → lo ≤ (y : Int) → sI tg M1 → (∀ f j i, f ≠ 72 → ¬ (f = 7 ∧ i = 18) → M1 f j i = M f j i) → (∀ i, i < hn → M1 72 0 i = M 72 0 i) → (stP bz V k hn r y).length ≤ t → M1 7 0 18 = ((t - (stP bz V k hn r y).length : Nat) : Int) → cEnds (cBG tm tf EX l dC dI cA ad scrS (d + k + 2)) Po 90 gX6_seekFrom 68 [(hn : Int), hi, (y : Int)] M1 := by
        intro lo hi hmore hlo hhi hi5 n
        induction n with
        | zero =>
          intro y M1 hy ly i1 f1 g1 l1 t1
          have ey : y = 6 := by omega
          subst ey
          refine cEnds_at gX6_seekFrom_m68 rfl ?_
          refine d_br (fun h => ?_) (fun h => ?_)
          · exact d_ret [0] rfl (by decide) (hPo _ _ ⟨i1, f1, g1, Or.inr ⟨rfl, by rw [eT]; exact l1, by rw [eT]; exact t1⟩⟩)
          · simp only [cCmp, cE2, sev, svl, cen, List.cons_append, List.nil_append] at h
            omega
        | succ n ihn =>
          intro y M1 hy ly i1 f1 g1 l1 t1
          have es : (stP bz V k hn r (y + 1)).length = (stP bz V k hn r y).length + (stL bz V k (wSt r hn (y : Int))).length := by rw [stP_s, List.length_append]
          by_cases hyh : (y : Int) ≤ hi
          · have a1 := (hlo y).mp ly
            have a2 := (hhi y).mp hyh
            have hQ : stQ E ce st (M 72 0) hn (y : Int) := ⟨a1.1, a2.1, fun i hi => ⟨a1.2 i hi, a2.2 i hi⟩⟩
            have hR' := stR_step (hU.2.2 hn h6) hq hQ hR
            have jI : sI tg (supd M1 72 0 hn (y : Int)) := wI (lo := 0) (hi := 5) i1 rfl ⟨by omega, by omega⟩
            have jf : ∀ f j i, f ≠ 72 → ¬ (f = 7 ∧ i = 18) → supd M1 72 0 hn (y : Int) f j i = M f j i := fun f j i y1 y2 => by rw [supd_f y1, f1 f j i y1 y2]
            have jg : ∀ i, i < hn → supd M1 72 0 hn (y : Int) 72 0 i = M 72 0 i := fun i hi => by rw [supd_i (by omega), g1 i hi]
            have row : ∀ f, f ≠ 72 → f ≠ 7 → supd M1 72 0 hn (y : Int) f 0 = M f 0 := fun f y1 y2 => by
              funext i
              exact jf f 0 i y1 (fun q => y2 q.1)
            obtain ⟨im, im1, im2, im3⟩ := hmore
            refine cEnds_at gX6_seekFrom_m68 rfl ?_
            refine d_br (fun h => ?_) (fun h => ?_)
            · simp only [cCmp, cE2, sev, svl, cen, List.cons_append, List.nil_append] at h
              omega
            · clear h
              refine d_set 0 hn (y : Int) (by simp only [cE2, sev, svl, cen, List.cons_append, List.nil_append]; omega) (by simp only [cE2, sev, svl, cen, List.cons_append, List.nil_append]; omega) (by omega) (by simp only [cE2, sev, svl, cen, List.cons_append, List.nil_append]; omega) ?_
              refine d_rng (by simp only [clo, chi, cE2, sev, svl, cen, List.cons_append, List.nil_append]; omega) ?_
              refine d_call (ih' (wSt r hn (y : Int)) (t - (stP bz V k hn r y).length) (supd M1 72 0 hn (y : Int)) jI (by rw [row 66 (by decide) (by decide), e66]) (by rw [row 67 (by decide) (by decide), e67]) (by rw [row 70 (by decide) (by decide), e70]) (by rw [jf 7 0 3 (by decide) (by decide), e3]) (fun i hi hbi => by by_cases z : i = hn; { rw [z, supd_at, wSt_at] }; { rw [jg i (by omega), wSt_ne z]; exact hq i (by omega) hbi }) hR' (by rw [supd_f (by decide)]; exact t1) (by omega) (Or.inr ⟨im, by omega, im2, im3⟩)) (by simp [cAs, cE2, sev, svl, cen] <;> omega) ?_
              rintro rr M2 ⟨i2, f2, g2, hr⟩
              have f3 : ∀ f j i, f ≠ 72 → ¬ (f = 7 ∧ i = 18) → M2 f j i = M f j i := fun f j i y1 y2 => by rw [f2 f j i y1 y2, jf f j i y1 y2]
              have g3 : ∀ i, i < hn → M2 72 0 i = M 72 0 i := fun i hi => by rw [g2 i (by omega), jg i hi]
              rcases hr with ⟨rfl, s, hs, hs2⟩ | ⟨rfl, l2, t2⟩
              · refine ⟨rfl, ?_⟩
                refine d_br (fun h => ?_) (fun h => ?_)
                · simp only [cCmp, cE2, sev, svl, cen, List.cons_append, List.nil_append] at h
                  omega
                · clear h
                  refine d_ret [1] rfl (by decide) (hPo _ _ ⟨i2, f3, g3, Or.inl ⟨rfl, s, ?_, fun i z1 z2 z3 => ?_⟩⟩)
                  · have := stP_get (stP_in l1 hs) (5 - y)
                    rw [show y + 1 + (5 - y) = 6 by omega] at this
                    rw [eT]
                    exact this
                  · by_cases e : i = hn
                    · rw [e, g2 hn (by omega), supd_at]
                      exact (em y s (List.mem_of_getElem? hs)).symm
                    · exact hs2 i (by omega) z2 z3
              · refine ⟨rfl, ?_⟩
                refine d_br (fun h => ?_) (fun h => ?_)
                · clear h
                  refine d_rng (by simp only [clo, chi, cE2, sev, svl, cen, List.cons_append, List.nil_append]; omega) ?_
                  refine d_cut [(hn : Int), hi, ((y + 1 : Nat) : Int)] (by simp [cE2, sev, svl, cen] <;> omega) ?_
                  exact ihn (y + 1) M2 (by omega) (by omega) i2 f3 g3 (by omega) (by rw [t2, es]; congr 1; omega)
                · simp only [cCmp, cE2, sev, svl, cen, List.cons_append, List.nil_append] at h
                  omega
          · have e6 : stP bz V k hn r 6 = stP bz V k hn r y := by
              have := stP_stay (bz := bz) (V := V) (k := k) (h := hn) (r := r) (y := y) (6 - y) (fun x h1 h2 => stL_out hU (by omega) eh hb hq (fun w => hyh (by have := (hhi x).mpr ⟨w.2.1, fun i hi => (w.2.2 i hi).2⟩; omega)))
              rw [show y + (6 - y) = 6 by omega] at this
              exact this
            refine cEnds_at gX6_seekFrom_m68 rfl ?_
            refine d_br (fun h => ?_) (fun h => ?_)
            · exact d_ret [0] rfl (by decide) (hPo _ _ ⟨i1, f1, g1, Or.inr ⟨rfl, by rw [eT, e6]; exact l1, by rw [eT, e6]; exact t1⟩⟩)
            · simp only [cCmp, cE2, sev, svl, cen, List.cons_append, List.nil_append] at h
              omega
      have low : ∀ lo : Int, (∀ y, lo ≤ y ↔ (M 70 0 hn ≤ y ∧ ∀ i, i < hn → 0 ≤ M 67 0 (hn + 6 * i) → M 72 0 i + M 67 0 (hn + 6 * i) ≤ y)) → 0 ≤ lo → ∃ y : Nat, lo = (y : Int) ∧ y ≤ 6 ∧ stP bz V k hn r y = [] ∧ ∀ y, lo ≤ y ↔ (E hn ≤ y ∧ ∀ i, i < hn → 0 ≤ st (hn + 6 * i) → M 72 0 i + st (hn + 6 * i) ≤ y) := by
        intro lo hlo lo0
        have lo6 : lo ≤ 6 := (hlo 6).mpr ⟨by rw [e70]; have := hE5 hn h6; omega, fun i hi' _ => by
          have b67 := wIb (f := 67) (i := hn + 6 * i) (lo := -1) (hi := 1) hI 0 rfl
          have b72 := wIb (f := 72) (i := i) (lo := 0) (hi := 5) hI 0 rfl
          omega⟩
        rw [e70, e67] at hlo
        obtain ⟨y, rfl⟩ : ∃ y : Nat, lo = (y : Int) := ⟨lo.toNat, by omega⟩
        have e0 : stP bz V k hn r y = [] := by
          have := stP_stay (bz := bz) (V := V) (k := k) (h := hn) (r := r) (y := 0) y (fun x h1 h2 => stL_out hU (by omega) eh hb hq (fun w => by have := (hlo x).mpr ⟨w.1, fun i hi => (w.2.2 i hi).1⟩; omega))
          rw [Nat.zero_add] at this
          rw [this, stP_0]
        exact ⟨y, rfl, by omega, e0, hlo⟩
      -- the last hand
      have last : ∀ lo hi : Int, (∀ i, hn < i → i < 6 → bz i = false) → (∀ y, lo ≤ y ↔ (M 70 0 hn ≤ y ∧ ∀ i, i < hn → 0 ≤ M 67 0 (hn + 6 * i) → M 72 0 i + M 67 0 (hn + 6 * i) ≤ y)) → 0 ≤ lo → (∀ y, y ≤ hi ↔ (y ≤ M 66 0 hn ∧ ∀ i, i < hn → 0 ≤ M 67 0 (6 * hn + i) → y + M 67 0 (6 * hn + i) ≤ M 72 0 i)) → -1 ≤ hi → hi ≤ 5 → (∀ n : Nat, ((n : Int) = hi - lo + 1 ∨ (n = 0 ∧ hi < lo)) → (stL bz V (k + 1) r).length = n) ∧ ((t : Int) < hi - lo + 1 → ∃ s, (stL bz V (k + 1) r)[t]? = some s ∧ s hn = lo + (t : Int)) := by
        intro lo hi hlast hlo lo0 hhi hi0 hi5
        obtain ⟨y, rfl, y6, e0, hlo⟩ := low lo hlo lo0
        rw [e66, e67] at hhi
        by_cases hle : (y : Int) ≤ hi + 1
        · obtain ⟨m, hm⟩ : ∃ m : Nat, ((y + m : Nat) : Int) = hi + 1 := ⟨(hi + 1 - (y : Int)).toNat, by omega⟩
          have one := stP_one e0 m (fun x h1 h2 => by
            have a1 := (hlo x).mp (by omega)
            have a2 := (hhi x).mp (by omega)
            have hQ : stQ E ce st (M 72 0) hn (x : Int) := ⟨a1.1, a2.1, fun i hi => ⟨a1.2 i hi, a2.2 i hi⟩⟩
            have hR' := stR_step (hU.2.2 hn h6) hq hQ hR
            exact stL_last (hU.1 _ (by have := stR_up (5 - hn) (hn + 1) (fun i h1 h2 => hlast i (by omega) (by omega)) hR'; rw [show hn + 1 + (5 - hn) = 6 by omega] at this; exact this)) k (by omega) (fun i h1 h2 => hlast i (by omega) h2))
          have e6 : stP bz V k hn r 6 = stP bz V k hn r (y + m) := by
            have := stP_stay (bz := bz) (V := V) (k := k) (h := hn) (r := r) (y := y + m) (6 - (y + m)) (fun x h1 h2 => stL_out hU (by omega) eh hb hq (fun w => by have := (hhi x).mpr ⟨w.2.1, fun i hi => (w.2.2 i hi).2⟩; omega))
            rw [show y + m + (6 - (y + m)) = 6 by omega] at this
            exact this
          rw [eT, e6]
          refine ⟨fun n hn => by rw [one.1]; omega, fun htm => ⟨_, one.2 t (by omega), ?_⟩⟩
          rw [wSt_at]
          omega
        · have e6 : stP bz V k hn r 6 = stP bz V k hn r y := by
            have := stP_stay (bz := bz) (V := V) (k := k) (h := hn) (r := r) (y := y) (6 - y) (fun x h1 h2 => stL_out hU (by omega) eh hb hq (fun w => by have := (hhi x).mpr ⟨w.2.1, fun i hi => (w.2.2 i hi).2⟩; omega))
            rw [show y + (6 - y) = 6 by omega] at this
            exact this
          rw [eT, e6, e0]
          exact ⟨fun n hn => by show 0 = n; omega, fun q => by omega⟩
      refine cEnds_at gX6_seekFrom_m0 rfl ?_
      refine d_br (fun h => ?_) (fun h => ?_)
      · simp only [cCmp, cE2, sev, svl, cen, List.cons_append, List.nil_append] at h
        first
        | omega
        | skip
          refine d_call (b_isBusy hp (b := bz) (h := hn) h6 e3) (by simp [cAs, cE2, sev, svl, cen] <;> omega) ?_
          intro rr M' hq
          obtain ⟨hM', hq⟩ := hq
          rw [hM']
          rcases hq with ⟨rfl, q1⟩ | ⟨rfl, q1⟩
          · refine ⟨rfl, ?_⟩
            refine d_br (fun h => ?_) (fun h => ?_)
            · clear h
              refine d_call (b_lowest hp (hn := hn) hI h6 (by rw [e70]; have := hE5 hn h6; omega)) (by simp [cAs, cE2, sev, svl, cen] <;> omega) ?_
              intro rr M' hq
              obtain ⟨hM', lo, rfl, hlo, lo1, lo2⟩ := hq
              rw [hM']
              refine ⟨rfl, ?_⟩
              refine d_call (b_highest hp (hn := hn) hI h6) (by simp [cAs, cE2, sev, svl, cen] <;> omega) ?_
              intro rr M' hq
              obtain ⟨hM', hi, rfl, hhi, hi1, hi2⟩ := hq
              rw [hM']
              refine ⟨rfl, ?_⟩
              refine d_fld 0 (by simp only [cE2, sev, svl, cen, List.cons_append, List.nil_append]; omega) ?_
              rw [e3]
              refine d_opw (wBt bz 6) (hn : Int) (by simp [cE2, sev, svl, cen] <;> omega) (by simp [cE2, sev, svl, cen] <;> omega) ?_
              refine d_br (fun h => ?_) (fun h => ?_)
              · simp only [cCmp, cE2, sev, svl, cen, List.cons_append, List.nil_append] at h
                first
                | omega
                | skip
                  obtain ⟨y, ey, y6, e0, hlo'⟩ := low lo hlo lo1
                  rw [e66, e67] at hhi
                  subst ey
                  refine d_cut [(hn : Int), hi, (y : Int)] (by simp [cE2, sev, svl, cen] <;> omega) ?_
                  refine loop _ hi ?_ hlo' hhi hi2 (6 - y) y M (by omega) (Int.le_refl _) hI (fun _ _ _ _ _ => rfl) (fun _ _ => rfl) (by rw [e0]; exact Nat.zero_le _) (by rw [e0]; exact ht)
                  refine Classical.byContradiction (fun hno => ?_)
                  exact absurd ((wBt6_last h6).mpr ⟨hb, fun i z1 z2 => by cases e9 : bz i; { rfl }; { exact absurd ⟨i, z1, z2, e9⟩ hno }⟩) (by omega)
              · simp only [cCmp, cE2, sev, svl, cen, List.cons_append, List.nil_append] at h
                first
                | omega
                | skip
                  refine d_call (b_skipLast hp (hn := hn) (t := t) (lo := lo) (hi := hi) h6 ⟨lo1, lo2⟩ ⟨hi1, hi2⟩ ht ht9) (by simp [cAs, cE2, sev, svl, cen] <;> omega) ?_
                  intro rr M' hq
                  have hpost := hq
                  obtain ⟨l9, s9⟩ := last lo hi ((wBt6_last h6).mp (by omega)).2 hlo lo1 hhi hi1 hi2
                  obtain ⟨rv, erv, bv⟩ : ∃ rv : Int, rr = [rv] ∧ 0 ≤ rv ∧ rv ≤ 1 := by rcases hpost with ⟨y, _⟩ | ⟨y, _⟩; { exact ⟨1, y, by omega, by omega⟩ }; { exact ⟨0, y, by omega, by omega⟩ }
                  have hlast := ((wBt6_last h6).mp (show cfn 3 (wBt bz 6) (hn : Int) = 1 by omega)).2
                  have hfin : Po rr M' := by refine hPo _ _ ?_; rcases hpost with ⟨y1, y2, y3⟩ | ⟨y1, n, y2, y3, y4⟩; { obtain ⟨s, z1, z2⟩ := s9 y2; have blt := (hhi (lo + (t : Int))).mp (by omega); have b66 := wIb (f := 66) (i := hn) (lo := 0) (hi := 5) hI 0 rfl; exact ⟨by rw [y3]; exact wI (lo := 0) (hi := 5) hI rfl ⟨by omega, by omega⟩, fun f j i w1 w2 => by rw [y3, supd_f w1], fun i hi' => by rw [y3, supd_i (by omega)], Or.inl ⟨y1, s, z1, fun i w1 w2 w3 => by have ei : i = hn := Classical.byContradiction (fun ne => by have := hlast i (by omega) w2; rw [this] at w3; cases w3); rw [ei, y3, supd_at, z2]⟩⟩ }; { have el := l9 n y2; exact ⟨by rw [y4]; exact wI (lo := 0) (hi := 2147483646) hI rfl ⟨by omega, by omega⟩, fun f j i w1 w2 => by rw [y4]; exact if_neg (fun q => w2 ⟨q.1, q.2.2⟩), fun i _ => by rw [y4, supd_f (by decide)], Or.inr ⟨y1, by rw [el]; exact y3, by rw [y4, supd_at, el]; omega⟩⟩ }
                  subst erv
                  refine ⟨rfl, ?_⟩
                  exact wretb rv (by simp only [cE2, sev, svl, cen, List.cons_append, List.nil_append]; omega) (by omega) hfin
            · simp only [cCmp, cE2, sev, svl, cen, List.cons_append, List.nil_append] at h
              omega
          · refine ⟨rfl, ?_⟩
            refine d_br (fun h => ?_) (fun h => ?_)
            · simp only [cCmp, cE2, sev, svl, cen, List.cons_append, List.nil_append] at h
              omega
            · clear h
              refine d_rng (by simp only [clo, chi, cE2, sev, svl, cen, List.cons_append, List.nil_append]; omega) ?_
              exact absurd hb q1
      · simp only [cCmp, cE2, sev, svl, cen, List.cons_append, List.nil_append] at h
        first
        | omega
        | skip
          refine d_fld 0 (by simp only [cE2, sev, svl, cen, List.cons_append, List.nil_append]; omega) ?_
          refine d_br (fun h => ?_) (fun h => ?_)
          · simp only [cCmp, cE2, sev, svl, cen, List.cons_append, List.nil_append] at h
            first
            | omega
            | skip
              exact d_ret [0] rfl (by decide) (hPo _ _ (by omega))
          · simp only [cCmp, cE2, sev, svl, cen, List.cons_append, List.nil_append] at h
            first
            | omega
            | skip
              exact d_ret [1] rfl (by decide) (hPo _ _ (by omega))
end CS13
