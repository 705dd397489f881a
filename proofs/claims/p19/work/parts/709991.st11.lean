/-! stories: the class counts them -/
section CS11
variable {EX : SEx} {l : Launch} {dC : Nat → ClassId} {dI : Nat → Nat → Nat} {cA : Nat → ClassId} {ad : SAd} {scrS d : Nat}
theorem b_highest (hp : cPl tm tc tf EX) {hn : Nat} {M : SMem} (hI : sI tg M) (hh : hn < 6) : cBG tm tf EX l dC dI cA ad scrS (d + 1) kX6_highest [(2, 7, 0), (0, 0, (hn : Int))] M (fun rr MM => MM = M ∧ ∃ x : Int, rr = [x] ∧ (∀ y, y ≤ x ↔ (y ≤ M 66 0 hn ∧ ∀ i, i < hn → 0 ≤ M 67 0 (6 * hn + i) → y + M 67 0 (6 * hn + i) ≤ M 72 0 i)) ∧ -1 ≤ x ∧ x ≤ 5) := by
  refine cMeth (v := [(hn : Int)]) (Fd := 90) hp (by decide) gX6_highest_ok gX6_highest_m0 (by simp [cAs, cE2, sev, svl, cen]) ?_
  have d66 := wIb (f := 66) (i := hn) (lo := 0) (hi := 5) hI 0 rfl
  have loop : ∀ (m k : Nat), k + m = hn → ∀ x : Int, ((∀ y, y ≤ x ↔ (y ≤ M 66 0 hn ∧ ∀ i, i < k → 0 ≤ M 67 0 (6 * hn + i) → y + M 67 0 (6 * hn + i) ≤ M 72 0 i)) ∧ -1 ≤ x ∧ x ≤ 5) → cEnds (cBG tm tf EX l dC dI cA ad scrS d) (fun rr MM => MM = M ∧ ∃ x : Int, rr = [x] ∧ (∀ y, y ≤ x ↔ (y ≤ M 66 0 hn ∧ ∀ i, i < hn → 0 ≤ M 67 0 (6 * hn + i) → y + M 67 0 (6 * hn + i) ≤ M 72 0 i)) ∧ -1 ≤ x ∧ x ≤ 5) 90 gX6_highest 9 [(hn : Int), x, (k : Int)] M := by
    intro m
    induction m with
    | zero =>
      intro k hk x hx
      have ek : k = hn := by omega
      subst ek
      have b1 := hx.2
      refine cEnds_at gX6_highest_m9 rfl ?_
      refine d_br (fun h => ?_) (fun h => ?_)
      · exact wret1 x (by simp only [cE2, sev, svl, cen, List.cons_append, List.nil_append]; omega) (by omega) ⟨rfl, x, rfl, hx⟩
      · simp only [cCmp, cE2, sev, svl, cen, List.cons_append, List.nil_append] at h
        omega
    | succ m ih =>
      intro k hk x hx
      obtain ⟨hx, b1⟩ := hx
      have b67 := wIb (f := 67) (i := 6 * hn + k) (lo := -1) (hi := 1) hI 0 rfl
      have b72 := wIb (f := 72) (i := k) (lo := 0) (hi := 5) hI 0 rfl
      refine cEnds_at gX6_highest_m9 rfl ?_
      refine d_br (fun h => ?_) (fun h => ?_)
      · simp only [cCmp, cE2, sev, svl, cen, List.cons_append, List.nil_append] at h
        first
        | omega
        | skip
          exact wret1 x (by simp only [cE2, sev, svl, cen, List.cons_append, List.nil_append]; omega) (by omega) (by omega)
      · simp only [cCmp, cE2, sev, svl, cen, List.cons_append, List.nil_append] at h
        first
        | omega
        | skip
          refine d_rng (by simp only [clo, chi, cE2, sev, svl, cen, List.cons_append, List.nil_append]; omega) ?_
          refine d_rng (by simp only [clo, chi, cE2, sev, svl, cen, List.cons_append, List.nil_append]; omega) ?_
          refine d_row 0 (6 * hn + k) (by simp only [cE2, sev, svl, cen, List.cons_append, List.nil_append]; omega) (by simp only [cE2, sev, svl, cen, List.cons_append, List.nil_append]; omega) (by omega) ?_
          refine d_br (fun h => ?_) (fun h => ?_)
          · simp only [cCmp, cE2, sev, svl, cen, List.cons_append, List.nil_append] at h
            first
            | omega
            | skip
              refine d_rng (by simp only [clo, chi, cE2, sev, svl, cen, List.cons_append, List.nil_append]; omega) ?_
              refine d_cut [(hn : Int), x, ((k + 1 : Nat) : Int)] (by simp [cE2, sev, svl, cen] <;> omega) ?_
              refine ih (k + 1) (by omega) x ⟨fun y => ?_, b1⟩
              rw [hx y]
              exact ⟨fun q => ⟨q.1, fun i hi hs => (Nat.lt_succ_iff_lt_or_eq.mp hi).elim (fun z => q.2 i z hs) (fun z => by rw [z] at hs; omega)⟩, fun q => ⟨q.1, fun i hi => q.2 i (by omega)⟩⟩
          · simp only [cCmp, cE2, sev, svl, cen, List.cons_append, List.nil_append] at h
            first
            | omega
            | skip
              refine d_row 0 k (by simp only [cE2, sev, svl, cen, List.cons_append, List.nil_append]; omega) (by simp only [cE2, sev, svl, cen, List.cons_append, List.nil_append]; omega) (by omega) ?_
              refine d_rng (by simp only [clo, chi, cE2, sev, svl, cen, List.cons_append, List.nil_append]; omega) ?_
              refine d_opw x (-(M 67 0 (6 * hn + k)) + (M 72 0 k)) (by simp [cE2, sev, svl, cen] <;> omega) (by simp [cE2, sev, svl, cen] <;> omega) ?_
              refine d_rng (by simp only [clo, chi, cE2, sev, svl, cen, List.cons_append, List.nil_append]; omega) ?_
              have e3 := @cfn12 x (-M 67 0 (6 * hn + k) + M 72 0 k)
              refine d_cut [(hn : Int), cfn 12 x (-M 67 0 (6 * hn + k) + M 72 0 k), ((k + 1 : Nat) : Int)] (by simp [cE2, sev, svl, cen] <;> omega) ?_
              refine ih (k + 1) (by omega) _ ⟨fun y => ?_, by omega⟩
              have ey := hx y
              exact ⟨fun q => ⟨(ey.mp (by omega)).1, fun i hi hs => (Nat.lt_succ_iff_lt_or_eq.mp hi).elim (fun z => (ey.mp (by omega)).2 i z hs) (fun z => by rw [z]; omega)⟩, fun q => by have w1 := ey.mpr ⟨q.1, fun i hi => q.2 i (by omega)⟩; have w2 := q.2 k (by omega) (by omega); omega⟩
  refine cEnds_at gX6_highest_m0 rfl ?_
  refine d_row 0 hn (by simp only [cE2, sev, svl, cen, List.cons_append, List.nil_append]; omega) (by simp only [cE2, sev, svl, cen, List.cons_append, List.nil_append]; omega) hh ?_
  refine d_cut [(hn : Int), M 66 0 hn, ((0 : Nat) : Int)] (by simp [cE2, sev, svl, cen] <;> omega) ?_
  exact loop hn 0 (by omega) _ ⟨fun y => ⟨fun q => ⟨q, fun i hi => absurd hi (Nat.not_lt_zero _)⟩, fun q => q.1⟩, by omega, by omega⟩
set_option maxHeartbeats 4000000 in
theorem b_countFrom (hp : cPl tm tc tf EX) {bz : Nat → Bool} {V : (Nat → Int) → Prop} {E ce st : Nat → Int} (hU : stU bz V E ce st) (hE5 : ∀ hn, hn < 6 → E hn ≤ 5) : ∀ (k : Nat), k ≤ 6 → ∀ (r : Nat → Int) (W : Nat) (M : SMem), sI tg M → M 66 0 = ce → M 67 0 = st → M 70 0 = E → M 7 0 3 = wBt bz 6 → (∀ i, i < 6 - k → bz i = true → M 72 0 i = r i) → stR bz E ce st (6 - k) r → (∀ i, i < 36 → 0 ≤ M 73 0 i ∧ M 73 0 i ≤ (W : Int)) → W + 6 ^ k ≤ 100000 → cBG tm tf EX l dC dI cA ad scrS (d + k + 2) kX6_countFrom [(2, 7, 0), (0, 0, ((6 - k : Nat) : Int))] M (fun rr MM => rr = [(((stL bz V k r).length : Nat) : Int)] ∧ sI tg MM ∧ (∀ f j i, f ≠ 72 → f ≠ 73 → MM f j i = M f j i) ∧ (∀ i, i < (6 - k) → MM 72 0 i = M 72 0 i) ∧ ∀ a x, a < 6 → x < 6 → MM 73 0 (6 * a + x) = M 73 0 (6 * a + x) + ((stA bz (6 - k) (stL bz V k r) a x : Nat) : Int)) := by
  intro k
  induction k with
  | zero =>
    intro _ r W M hI e66 e67 e70 e3 hq hR hc hW
    refine cMeth (v := [((6 - 0 : Nat) : Int)]) (Fd := 90) hp (by decide) gX6_countFrom_ok gX6_countFrom_m0 (by simp [cAs, cE2, sev, svl, cen]) ?_
    refine cEnds_at gX6_countFrom_m0 rfl ?_
    refine d_br (fun h => ?_) (fun h => ?_)
    · simp only [cCmp, cE2, sev, svl, cen, List.cons_append, List.nil_append] at h
      omega
    · refine d_ret [1] rfl (by decide) ⟨?_, hI, fun _ _ _ _ _ => rfl, fun _ _ => rfl, fun a x ha hx => ?_⟩
      · rw [stL_0y (hU.1 r hR)]
        rfl
      · rw [stA_n (fun q => by have := q.1; omega)]
        omega
  | succ k ih =>
    intro hk r W M hI e66 e67 e70 e3 hq hR hc hW
    obtain ⟨hn, eh⟩ : ∃ hn : Nat, hn = 5 - k := ⟨_, rfl⟩
    have e1 : (6 - (k + 1) : Nat) = hn := by omega
    have e2 : (6 - k : Nat) = hn + 1 := by omega
    have h6 : hn < 6 := by omega
    have ih' := ih (by omega)
    rw [e2] at ih'
    rw [e1] at hq hR
    rw [e1]
    have hp6 : 6 ^ (k + 1) = 6 * 6 ^ k := by rw [Nat.pow_succ, Nat.mul_comm]
    have hl9 := fun r => stL_len (bz := bz) (V := V) k r
    refine cMeth (v := [(hn : Int)]) (Fd := 90) hp (by decide) gX6_countFrom_ok gX6_countFrom_m0 (by simp [cAs, cE2, sev, svl, cen]) ?_
    suffices H : ∀ Po : List Int → SMem → Prop, (∀ rr MM, (rr = [(((stL bz V (k + 1) r).length : Nat) : Int)] ∧ sI tg MM ∧ (∀ f j i, f ≠ 72 → f ≠ 73 → MM f j i = M f j i) ∧ (∀ i, i < hn → MM 72 0 i = M 72 0 i) ∧ ∀ a x, a < 6 → x < 6 → MM 73 0 (6 * a + x) = M 73 0 (6 * a + x) + ((stA bz hn (stL bz V (k + 1) r) a x : Nat) : Int)) → Po rr MM) → cEnds (cBG tm tf EX l dC dI cA ad scrS (d + k + 2)) Po 90 gX6_countFrom 0 [(hn : Int)] M from H _ (fun _ _ hn => hn)
    intro Po hPo
    cases hb : bz hn with
    | false =>
      have eL : stL bz V (k + 1) r = stL bz V k r := stL_n (by rw [← eh]; exact hb)
      have hl := hl9 r
      refine cEnds_at gX6_countFrom_m0 rfl ?_
      refine d_br (fun h => ?_) (fun h => ?_)
      · simp only [cCmp, cE2, sev, svl, cen, List.cons_append, List.nil_append] at h
        first
        | omega
        | skip
          refine d_call (b_isBusy hp (b := bz) (h := hn) h6 e3) (by simp [cAs, cE2, sev, svl, cen] <;> omega) ?_
          intro rr M' hq
          obtain ⟨hM', hq⟩ := hq
          rw [hM']
          rcases hq with ⟨rfl, q1⟩ | ⟨rfl, q1⟩
          · refine ⟨rfl, ?_⟩
            refine d_br (fun h => ?_) (fun h => ?_)
            · clear h
              refine d_fld 0 (by simp only [cE2, sev, svl, cen, List.cons_append, List.nil_append]; omega) ?_
              rw [e3]
              refine d_opw (wBt bz 6) (hn : Int) (by simp [cE2, sev, svl, cen] <;> omega) (by simp [cE2, sev, svl, cen] <;> omega) ?_
              refine d_br (fun h => ?_) (fun h => ?_)
              · simp only [cCmp, cE2, sev, svl, cen, List.cons_append, List.nil_append] at h
                first
                | omega
                | skip
                  exact absurd (q1.symm.trans hb) (by decide)
              · simp only [cCmp, cE2, sev, svl, cen, List.cons_append, List.nil_append] at h
                first
                | omega
                | skip
                  exact absurd (q1.symm.trans hb) (by decide)
            · simp only [cCmp, cE2, sev, svl, cen, List.cons_append, List.nil_append] at h
              omega
          · refine ⟨rfl, ?_⟩
            refine d_br (fun h => ?_) (fun h => ?_)
            · simp only [cCmp, cE2, sev, svl, cen, List.cons_append, List.nil_append] at h
              omega
            · clear h
              refine d_rng (by simp only [clo, chi, cE2, sev, svl, cen, List.cons_append, List.nil_append]; omega) ?_
              refine d_call (ih' r W M hI e66 e67 e70 e3 (fun i hi hbi => hq i (by rcases Nat.lt_succ_iff_lt_or_eq.mp hi with z | z; { exact z }; { rw [z, hb] at hbi; cases hbi }) hbi) (stR_skip hb hR) hc (by omega)) (by simp [cAs, cE2, sev, svl, cen] <;> omega) ?_
              intro rr M' hq
              obtain ⟨rfl, i2, f2, g2, c2⟩ := hq
              refine ⟨rfl, ?_⟩
              exact wret1 (((stL bz V k r).length : Nat) : Int) (by simp only [cE2, sev, svl, cen, List.cons_append, List.nil_append]; omega) (by omega) (hPo _ _ ⟨by rw [eL], i2, f2, fun i hi => g2 i (by omega), fun a x ha hx => by rw [c2 a x ha hx, eL, stA_skip hb]⟩)
      · simp only [cCmp, cE2, sev, svl, cen, List.cons_append, List.nil_append] at h
        first
        | omega
        | skip
          exact d_ret [1] rfl (by decide) (hPo _ _ (by omega))
    | true =>
      have loop : ∀ (lb lo hi : Int), ((lb = 1 ∧ ∀ i, hn < i → i < 6 → bz i = false) ∨ lb = 0) → (∀ y, lo ≤ y ↔ (E hn ≤ y ∧ ∀ i, i < hn → 0 ≤ st (hn + 6 * i) → M 72 0 i + st (hn + 6 * i) ≤ y)) → (∀ y, y ≤ hi ↔ (y ≤ ce hn ∧ ∀ i, i < hn → 0 ≤ st (6 * hn + i) → y + st (6 * hn + i) ≤ M 72 0 i)) → hi ≤ 5 → ∀ (n y : Nat) (M1 : SMem), y + n = 6 → lo ≤ (y : Int) → sI tg M1 → (∀ f j i, f ≠ 72 → f ≠ 73 → M1 f j i = M f j i) → (∀ i, i < hn → M1 72 0 i = M 72 0 i) → (∀ a x, a < 6 → x < 6 → M1 73 0 (6 * a + x) = M 73 0 (6 * a + x) + ((stA bz hn (stP bz V k hn r y) a x : Nat) : Int)) → cEnds (cBG tm tf EX l dC dI cA ad scrS (d + k + 2)) Po 90 gX6_countFrom 56 [(hn : Int), lb, hi, (((stP bz V k hn r y).length : Nat) : Int), (y : Int)] M1 := by
        intro lb lo hi hlb hlo hhi hi5 n
        have eT : stL bz V (k + 1) r = stP bz V k hn r 6 := by
          rw [eh]
          exact stP_6 (by rw [← eh]; exact hb)
        induction n with
        | zero =>
          intro y M1 hy ly i1 f1 g1 c1
          have ey : y = 6 := by omega
          subst ey
          have hl := stP_len (h := hn) (r := r) hl9 6
          refine cEnds_at gX6_countFrom_m56 rfl ?_
          refine d_br (fun h => ?_) (fun h => ?_)
          · exact wret1 (((stP bz V k hn r 6).length : Nat) : Int) (by simp only [cE2, sev, svl, cen, List.cons_append, List.nil_append]; omega) (by omega) (hPo _ _ ⟨by rw [eT], i1, f1, g1, fun a x ha hx => by rw [c1 a x ha hx, eT]⟩)
          · simp only [cCmp, cE2, sev, svl, cen, List.cons_append, List.nil_append] at h
            omega
        | succ n ihn =>
          intro y M1 hy ly i1 f1 g1 c1
          have hl := stP_len (h := hn) (r := r) hl9 y
          have hly := hl9 (wSt r hn (y : Int))
          have c3 : y * 6 ^ k ≤ 5 * 6 ^ k := Nat.mul_le_mul_right _ (by omega)
          have es : (stP bz V k hn r (y + 1)).length = (stP bz V k hn r y).length + (stL bz V k (wSt r hn (y : Int))).length := by rw [stP_s, List.length_append]
          have em : ∀ s, s ∈ stL bz V k (wSt r hn (y : Int)) → s hn = (y : Int) := fun s hs => by
            rw [(stL_mem k (by omega) _ s hs).2.1 hn (Or.inl (by omega)), wSt_at]
          have b73 : ∀ (N : SMem) (B : Nat), (∀ a x, a < 6 → x < 6 → ∃ z : Nat, z ≤ B ∧ N 73 0 (6 * a + x) = M 73 0 (6 * a + x) + (z : Int)) → ∀ i, i < 36 → 0 ≤ N 73 0 i ∧ N 73 0 i ≤ ((W + B : Nat) : Int) := fun N B hN i hi => by
            obtain ⟨z, z1, z2⟩ := hN (i / 6) (i % 6) (by omega) (by omega)
            rw [show 6 * (i / 6) + i % 6 = i by omega] at z2
            have := hc i hi
            omega
          have nxt : ∀ (M2 : SMem) (z : Int), sI tg M2 → (∀ f j i, f ≠ 72 → f ≠ 73 → M2 f j i = M f j i) → (∀ i, i < hn → M2 72 0 i = M 72 0 i) → (∀ a x, a < 6 → x < 6 → M2 73 0 (6 * a + x) = M 73 0 (6 * a + x) + ((stA bz hn (stP bz V k hn r y) a x + stA bz (hn + 1) (stL bz V k (wSt r hn (y : Int))) a x : Nat) : Int)) → z = M2 73 0 (6 * hn + y) + (((stL bz V k (wSt r hn (y : Int))).length : Nat) : Int) → cEnds (cBG tm tf EX l dC dI cA ad scrS (d + k + 2)) Po 90 gX6_countFrom 56 [(hn : Int), lb, hi, (((stP bz V k hn r (y + 1)).length : Nat) : Int), ((y + 1 : Nat) : Int)] (supd M2 73 0 (6 * hn + y) z) := by
            intro M2 z i2 f2 g2 c2 hz
            have bz2 := b73 M2 ((stP bz V k hn r y).length + (stL bz V k (wSt r hn (y : Int))).length) (fun a x ha hx => ⟨_, Nat.add_le_add stA_le stA_le, c2 a x ha hx⟩) (6 * hn + y) (by omega)
            refine ihn (y + 1) _ (by omega) (by omega) (wI (lo := -2147483648) (hi := 2147483647) i2 rfl (by omega)) (fun f j i y1 y2 => by rw [supd_f y2, f2 f j i y1 y2]) (fun i hi => by rw [supd_f (by decide)]; exact g2 i hi) (fun a x ha hx => ?_)
            rw [stA_step hb em]
            have w := c2 a x ha hx
            by_cases e : a = hn ∧ x = y
            · obtain ⟨rfl, rfl⟩ := e
              rw [supd_at, if_pos ⟨rfl, rfl⟩, hz]
              omega
            · rw [supd_i (by omega), if_neg e]
              omega
          have jI : sI tg (supd M1 72 0 hn (y : Int)) := wI (lo := 0) (hi := 5) i1 rfl ⟨by omega, by omega⟩
          have jf : ∀ f j i, f ≠ 72 → f ≠ 73 → supd M1 72 0 hn (y : Int) f j i = M f j i := fun f j i y1 y2 => by rw [supd_f y1, f1 f j i y1 y2]
          have jg : ∀ i, i < hn → supd M1 72 0 hn (y : Int) 72 0 i = M 72 0 i := fun i hi => by rw [supd_i (by omega), g1 i hi]
          have jc : ∀ i, supd M1 72 0 hn (y : Int) 73 0 i = M1 73 0 i := fun i => supd_f (by decide)
          have row : ∀ f, f ≠ 72 → f ≠ 73 → supd M1 72 0 hn (y : Int) f 0 = M f 0 := fun f y1 y2 => by
            funext i
            exact jf f 0 i y1 y2
          by_cases hyh : (y : Int) ≤ hi
          · have a1 := (hlo y).mp ly
            have a2 := (hhi y).mp hyh
            have hQ : stQ E ce st (M 72 0) hn (y : Int) := ⟨a1.1, a2.1, fun i hi => ⟨a1.2 i hi, a2.2 i hi⟩⟩
            have hR' := stR_step (hU.2.2 hn h6) hq hQ hR
            rcases hlb with ⟨rfl, hlast⟩ | rfl
            · have eL1 : stL bz V k (wSt r hn (y : Int)) = [wSt r hn (y : Int)] := stL_last (hU.1 _ (by have := stR_up (5 - hn) (hn + 1) (fun i h1 h2 => hlast i (by omega) (by omega)) hR'; rw [show hn + 1 + (5 - hn) = 6 by omega] at this; exact this)) k (by omega) (fun i h1 h2 => hlast i (by omega) h2)
              have el1 : (stL bz V k (wSt r hn (y : Int))).length = 1 := by rw [eL1]; rfl
              have bq := b73 M1 (stP bz V k hn r y).length (fun a x ha hx => ⟨_, stA_le, c1 a x ha hx⟩) (6 * hn + y) (by omega)
              refine cEnds_at gX6_countFrom_m56 rfl ?_
              refine d_br (fun h => ?_) (fun h => ?_)
              · simp only [cCmp, cE2, sev, svl, cen, List.cons_append, List.nil_append] at h
                first
                | omega
                | skip
                  exact wret1 (((stP bz V k hn r y).length : Nat) : Int) (by simp only [cE2, sev, svl, cen, List.cons_append, List.nil_append]; omega) (by omega) (hPo _ _ (by omega))
              · simp only [cCmp, cE2, sev, svl, cen, List.cons_append, List.nil_append] at h
                first
                | omega
                | skip
                  refine d_set 0 hn (y : Int) (by simp only [cE2, sev, svl, cen, List.cons_append, List.nil_append]; omega) (by simp only [cE2, sev, svl, cen, List.cons_append, List.nil_append]; omega) (by omega) (by simp only [cE2, sev, svl, cen, List.cons_append, List.nil_append]; omega) ?_
                  refine d_br (fun h => ?_) (fun h => ?_)
                  · simp only [cCmp, cE2, sev, svl, cen, List.cons_append, List.nil_append] at h
                    omega
                  · clear h
                    refine d_rng (by simp only [clo, chi, cE2, sev, svl, cen, List.cons_append, List.nil_append]; omega) ?_
                    refine d_rng (by simp only [clo, chi, cE2, sev, svl, cen, List.cons_append, List.nil_append]; omega) ?_
                    refine d_row 0 (6 * hn + y) (by simp only [cE2, sev, svl, cen, List.cons_append, List.nil_append]; omega) (by simp only [cE2, sev, svl, cen, List.cons_append, List.nil_append]; omega) (by omega) ?_
                    rw [supd_f (by decide)]
                    refine d_rng (by simp only [clo, chi, cE2, sev, svl, cen, List.cons_append, List.nil_append]; omega) ?_
                    refine d_set 0 (6 * hn + y) ((M1 73 0 (6 * hn + y)) + 1) (by simp only [cE2, sev, svl, cen, List.cons_append, List.nil_append]; omega) (by simp only [cE2, sev, svl, cen, List.cons_append, List.nil_append]; omega) (by omega) (by simp only [cE2, sev, svl, cen, List.cons_append, List.nil_append]; omega) ?_
                    refine d_rng (by simp only [clo, chi, cE2, sev, svl, cen, List.cons_append, List.nil_append]; omega) ?_
                    refine d_rng (by simp only [clo, chi, cE2, sev, svl, cen, List.cons_append, List.nil_append]; omega) ?_
                    refine d_cut [(hn : Int), 1, hi, (((stP bz V k hn r (y + 1)).length : Nat) : Int), ((y + 1 : Nat) : Int)] (by simp [cE2, sev, svl, cen] <;> omega) ?_
                    exact nxt _ _ jI jf jg (fun a x ha hx => by rw [jc, c1 a x ha hx, stA_n (n := hn + 1) (fun q => by have w := hlast a (by omega) ha; rw [w] at q; cases q.2)]; rfl) (by rw [jc, el1]; rfl)
            · refine cEnds_at gX6_countFrom_m56 rfl ?_
              refine d_br (fun h => ?_) (fun h => ?_)
              · simp only [cCmp, cE2, sev, svl, cen, List.cons_append, List.nil_append] at h
                first
                | omega
                | skip
                  exact wret1 (((stP bz V k hn r y).length : Nat) : Int) (by simp only [cE2, sev, svl, cen, List.cons_append, List.nil_append]; omega) (by omega) (hPo _ _ (by omega))
              · simp only [cCmp, cE2, sev, svl, cen, List.cons_append, List.nil_append] at h
                first
                | omega
                | skip
                  refine d_set 0 hn (y : Int) (by simp only [cE2, sev, svl, cen, List.cons_append, List.nil_append]; omega) (by simp only [cE2, sev, svl, cen, List.cons_append, List.nil_append]; omega) (by omega) (by simp only [cE2, sev, svl, cen, List.cons_append, List.nil_append]; omega) ?_
                  refine d_br (fun h => ?_) (fun h => ?_)
                  · clear h
                    refine d_rng (by simp only [clo, chi, cE2, sev, svl, cen, List.cons_append, List.nil_append]; omega) ?_
                    refine d_call (ih' (wSt r hn (y : Int)) (W + (stP bz V k hn r y).length) (supd M1 72 0 hn (y : Int)) jI (by rw [row 66 (by decide) (by decide), e66]) (by rw [row 67 (by decide) (by decide), e67]) (by rw [row 70 (by decide) (by decide), e70]) (by rw [jf 7 0 3 (by decide) (by decide), e3]) (fun i hi hbi => by by_cases z : i = hn; { rw [z, supd_at, wSt_at] }; { rw [jg i (by omega), wSt_ne z]; exact hq i (by omega) hbi }) hR' (fun i hi => by rw [jc]; exact b73 M1 (stP bz V k hn r y).length (fun a x ha hx => ⟨_, stA_le, c1 a x ha hx⟩) i hi) (by omega)) (by simp [cAs, cE2, sev, svl, cen] <;> omega) ?_
                    intro rr M' hq
                    obtain ⟨rfl, i2, f2, g2, c2⟩ := hq
                    have c4 : ∀ a x, a < 6 → x < 6 → M' 73 0 (6 * a + x) = M 73 0 (6 * a + x) + ((stA bz hn (stP bz V k hn r y) a x + stA bz (hn + 1) (stL bz V k (wSt r hn (y : Int))) a x : Nat) : Int) := fun a x ha hx => by rw [c2 a x ha hx, jc, c1 a x ha hx]; omega
                    have bq := b73 M' ((stP bz V k hn r y).length + (stL bz V k (wSt r hn (y : Int))).length) (fun a x ha hx => ⟨_, Nat.add_le_add stA_le stA_le, c4 a x ha hx⟩) (6 * hn + y) (by omega)
                    refine ⟨rfl, ?_⟩
                    refine d_rng (by simp only [clo, chi, cE2, sev, svl, cen, List.cons_append, List.nil_append]; omega) ?_
                    refine d_rng (by simp only [clo, chi, cE2, sev, svl, cen, List.cons_append, List.nil_append]; omega) ?_
                    refine d_row 0 (6 * hn + y) (by simp only [cE2, sev, svl, cen, List.cons_append, List.nil_append]; omega) (by simp only [cE2, sev, svl, cen, List.cons_append, List.nil_append]; omega) (by omega) ?_
                    refine d_rng (by simp only [clo, chi, cE2, sev, svl, cen, List.cons_append, List.nil_append]; omega) ?_
                    refine d_set 0 (6 * hn + y) ((((stL bz V k (wSt r hn (y : Int))).length : Nat) : Int) + (M' 73 0 (6 * hn + y))) (by simp only [cE2, sev, svl, cen, List.cons_append, List.nil_append]; omega) (by simp only [cE2, sev, svl, cen, List.cons_append, List.nil_append]; omega) (by omega) (by simp only [cE2, sev, svl, cen, List.cons_append, List.nil_append]; omega) ?_
                    refine d_rng (by simp only [clo, chi, cE2, sev, svl, cen, List.cons_append, List.nil_append]; omega) ?_
                    refine d_rng (by simp only [clo, chi, cE2, sev, svl, cen, List.cons_append, List.nil_append]; omega) ?_
                    refine d_cut [(hn : Int), 0, hi, (((stP bz V k hn r (y + 1)).length : Nat) : Int), ((y + 1 : Nat) : Int)] (by simp [cE2, sev, svl, cen] <;> omega) ?_
                    exact nxt M' _ i2 (fun f j i y1 y2 => by rw [f2 f j i y1 y2, jf f j i y1 y2]) (fun i hi => by rw [g2 i (by omega), jg i hi]) c4 (by omega)
                  · simp only [cCmp, cE2, sev, svl, cen, List.cons_append, List.nil_append] at h
                    omega
          · have e6 : stP bz V k hn r 6 = stP bz V k hn r y := by
              have := stP_stay (bz := bz) (V := V) (k := k) (h := hn) (r := r) (y := y) (6 - y) (fun x h1 h2 => stL_out hU (by omega) eh hb hq (fun w => hyh (by have := (hhi x).mpr ⟨w.2.1, fun i hi => (w.2.2 i hi).2⟩; omega)))
              rw [show y + (6 - y) = 6 by omega] at this
              exact this
            refine cEnds_at gX6_countFrom_m56 rfl ?_
            refine d_br (fun h => ?_) (fun h => ?_)
            · exact wret1 (((stP bz V k hn r y).length : Nat) : Int) (by simp only [cE2, sev, svl, cen, List.cons_append, List.nil_append]; omega) (by omega) (hPo _ _ ⟨by rw [eT, e6], i1, f1, g1, fun a x ha hx => by rw [c1 a x ha hx, eT, e6]⟩)
            · simp only [cCmp, cE2, sev, svl, cen, List.cons_append, List.nil_append] at h
              omega
      have go : ∀ (lb lo hi : Int), ((lb = 1 ∧ ∀ i, hn < i → i < 6 → bz i = false) ∨ lb = 0) → (∀ y, lo ≤ y ↔ (M 70 0 hn ≤ y ∧ ∀ i, i < hn → 0 ≤ M 67 0 (hn + 6 * i) → M 72 0 i + M 67 0 (hn + 6 * i) ≤ y)) → 0 ≤ lo → (∀ y, y ≤ hi ↔ (y ≤ M 66 0 hn ∧ ∀ i, i < hn → 0 ≤ M 67 0 (6 * hn + i) → y + M 67 0 (6 * hn + i) ≤ M 72 0 i)) → hi ≤ 5 → cEnds (cBG tm tf EX l dC dI cA ad scrS (d + k + 2)) Po 90 gX6_countFrom 56 [(hn : Int), lb, hi, 0, lo] M := by
        intro lb lo hi hlb hlo lo0 hhi hi5
        have lo6 : lo ≤ 6 := (hlo 6).mpr ⟨by rw [e70]; have := hE5 hn h6; omega, fun i hi' _ => by
          have b67 := wIb (f := 67) (i := hn + 6 * i) (lo := -1) (hi := 1) hI 0 rfl
          have b72 := wIb (f := 72) (i := i) (lo := 0) (hi := 5) hI 0 rfl
          omega⟩
        rw [e70, e67] at hlo
        rw [e66, e67] at hhi
        obtain ⟨y, rfl⟩ : ∃ y : Nat, lo = (y : Int) := ⟨lo.toNat, by omega⟩
        have e0 : stP bz V k hn r y = [] := by
          have := stP_stay (bz := bz) (V := V) (k := k) (h := hn) (r := r) (y := 0) y (fun x h1 h2 => stL_out hU (by omega) eh hb hq (fun w => by have := (hlo x).mpr ⟨w.1, fun i hi => (w.2.2 i hi).1⟩; omega))
          rw [Nat.zero_add] at this
          rw [this, stP_0]
        have L := loop lb y hi hlb hlo hhi hi5 (6 - y) y M (by omega) (Int.le_refl _) hI (fun _ _ _ _ _ => rfl) (fun _ _ => rfl) (fun a x ha hx => by rw [e0, stA_nil]; omega)
        rw [e0] at L
        exact L
      refine cEnds_at gX6_countFrom_m0 rfl ?_
      refine d_br (fun h => ?_) (fun h => ?_)
      · simp only [cCmp, cE2, sev, svl, cen, List.cons_append, List.nil_append] at h
        first
        | omega
        | skip
          refine d_call (b_isBusy hp (b := bz) (h := hn) h6 e3) (by simp [cAs, cE2, sev, svl, cen] <;> omega) ?_
          intro rr M' hq
          obtain ⟨hM', hq⟩ := hq
          rw [hM']
          rcases hq with ⟨rfl, q1⟩ | ⟨rfl, q1⟩
          · refine ⟨rfl, ?_⟩
            refine d_br (fun h => ?_) (fun h => ?_)
            · clear h
              refine d_fld 0 (by simp only [cE2, sev, svl, cen, List.cons_append, List.nil_append]; omega) ?_
              rw [e3]
              refine d_opw (wBt bz 6) (hn : Int) (by simp [cE2, sev, svl, cen] <;> omega) (by simp [cE2, sev, svl, cen] <;> omega) ?_
              refine d_br (fun h => ?_) (fun h => ?_)
              · simp only [cCmp, cE2, sev, svl, cen, List.cons_append, List.nil_append] at h
                first
                | omega
                | skip
                  refine d_call (b_highest hp (hn := hn) hI h6) (by simp [cAs, cE2, sev, svl, cen] <;> omega) ?_
                  intro rr M' hq
                  obtain ⟨hM', hi, rfl, hhi, hi1, hi2⟩ := hq
                  rw [hM']
                  refine ⟨rfl, ?_⟩
                  refine d_call (b_lowest hp (hn := hn) hI h6 (by rw [e70]; have := hE5 hn h6; omega)) (by simp [cAs, cE2, sev, svl, cen] <;> omega) ?_
                  intro rr M' hq
                  obtain ⟨hM', lo, rfl, hlo, lo1, lo2⟩ := hq
                  rw [hM']
                  refine ⟨rfl, ?_⟩
                  refine d_cut [(hn : Int), 0, hi, 0, lo] (by simp [cE2, sev, svl, cen] <;> omega) ?_
                  exact go 0 lo hi (Or.inr rfl) hlo lo1 hhi hi2
              · simp only [cCmp, cE2, sev, svl, cen, List.cons_append, List.nil_append] at h
                first
                | omega
                | skip
                  refine d_call (b_highest hp (hn := hn) hI h6) (by simp [cAs, cE2, sev, svl, cen] <;> omega) ?_
                  intro rr M' hq
                  obtain ⟨hM', hi, rfl, hhi, hi1, hi2⟩ := hq
                  rw [hM']
                  refine ⟨rfl, ?_⟩
                  refine d_call (b_lowest hp (hn := hn) hI h6 (by rw [e70]; have := hE5 hn h6; omega)) (by simp [cAs, cE2, sev, svl, cen] <;> omega) ?_
                  intro rr M' hq
                  obtain ⟨hM', lo, rfl, hlo, lo1, lo2⟩ := hq
                  rw [hM']
                  refine ⟨rfl, ?_⟩
                  refine d_cut [(hn : Int), 1, hi, 0, lo] (by simp [cE2, sev, svl, cen] <;> omega) ?_
                  exact go 1 lo hi (Or.inl ⟨rfl, ((wBt6_last h6).mp (by omega)).2⟩) hlo lo1 hhi hi2
            · simp only [cCmp, cE2, sev, svl, cen, List.cons_append, List.nil_append] at h
              omega
          · refine ⟨rfl, ?_⟩
            refine d_br (fun h => ?_) (fun h => ?_)
            · simp only [cCmp, cE2, sev, svl, cen, List.cons_append, List.nil_append] at h
              omega
            · clear h
              refine d_rng (by simp only [clo, chi, cE2, sev, svl, cen, List.cons_append, List.nil_append]; omega) ?_
              exact absurd hb q1
      · simp only [cCmp, cE2, sev, svl, cen, List.cons_append, List.nil_append] at h
        first
        | omega
        | skip
          exact d_ret [1] rfl (by decide) (hPo _ _ (by omega))
end CS11
