/-! feed, by both: the tape behind it -/
def zsh (i : Nat) : Int32 := 56 - 8 * nI i
def zby (v : Int64) (i : Nat) : Int32 := (v.toUInt64 >>> ((zsh i).toInt64.toUInt64 &&& Int64.toUInt64 63)).toInt64.toInt32 &&& 255
def zbm (v : Int64) (i : Nat) : Int32 := (v >>> ((zsh i).toInt64 &&& 63)).toInt32 &&& 255
theorem zsh_nn : ∀ i, i < 8 → ¬ zsh i < 0 := by decide +kernel
theorem zsh_8 : zsh 8 < 0 := by decide +kernel
theorem zsh_dn : ∀ i, i < 8 → zsh i + Int32.ofInt (-8) = zsh (i + 1) := by decide +kernel
theorem zbits (k : Nat) (hk : k + 8 ≤ 64) (x : BitVec 64) : (x >>> k).setWidth 32 &&& 255#32 = (x.sshiftRight k).setWidth 32 &&& 255#32 := by
  apply BitVec.eq_of_getLsbD_eq
  intro j hj
  rw [BitVec.getLsbD_and, BitVec.getLsbD_and]
  by_cases h8 : j < 8
  · congr 1
    rw [BitVec.getLsbD_setWidth, BitVec.getLsbD_setWidth, BitVec.getLsbD_ushiftRight, BitVec.getLsbD_sshiftRight]
    have h1 : k + j < 64 := by omega
    simp [h1, show ¬ 64 ≤ j by omega]
  · have h2 : ∀ j, j < 32 → ¬ j < 8 → (255#32).getLsbD j = false := by decide +kernel
    rw [h2 j hj h8]
    simp
theorem zbyu (v : Int64) (k : Nat) (hk : k + 8 ≤ 64) : ((v.toUInt64 >>> UInt64.ofNat k).toInt64.toInt32 &&& 255).toBitVec = (v.toBitVec >>> k).setWidth 32 &&& 255#32 := by
  have hm : k % 18446744073709551616 % 64 = k := by omega
  rw [Int32.toBitVec_and]
  show (BitVec.signExtend 32 (v.toUInt64 >>> UInt64.ofNat k).toBitVec) &&& 255#32 = _
  rw [BitVec.signExtend_eq_setWidth_of_le _ (by decide), UInt64.toBitVec_shiftRight]
  congr 2
  show v.toBitVec >>> ((UInt64.ofNat k).toBitVec % 64#64) = _
  rw [BitVec.ushiftRight_eq']
  congr 1
theorem zbys (v : Int64) (k : Nat) (hk : k + 8 ≤ 64) : ((v >>> Int64.ofNat k).toInt32 &&& 255).toBitVec = (v.toBitVec.sshiftRight k).setWidth 32 &&& 255#32 := by
  have hm : ∀ k, k < 57 → ((Int64.ofNat k).toBitVec.smod 64).toNat = k := by decide +kernel
  rw [Int32.toBitVec_and]
  show (BitVec.signExtend 32 (v >>> Int64.ofNat k).toBitVec) &&& 255#32 = _
  rw [BitVec.signExtend_eq_setWidth_of_le _ (by decide), Int64.toBitVec_shiftRight]
  congr 2
  show v.toBitVec.sshiftRight ((Int64.ofNat k).toBitVec.smod 64).toNat = _
  rw [hm k (by omega)]
theorem zbyte (v : Int64) : ∀ i, i < 8 → zby v i = zbm v i := by
  intro i hi
  have key : ∀ k : Nat, k + 8 ≤ 64 → (zsh i).toInt64.toUInt64 &&& Int64.toUInt64 63 = UInt64.ofNat k → (zsh i).toInt64 &&& 63 = Int64.ofNat k → zby v i = zbm v i := by
    intro k hk e1 e2
    unfold zby zbm
    rw [e1, e2]
    apply Int32.toBitVec_inj.mp
    rw [zbyu v k hk, zbys v k hk, zbits k hk v.toBitVec]
  have e : ∀ i, i < 8 → (zsh i).toInt64.toUInt64 &&& Int64.toUInt64 63 = UInt64.ofNat (56 - 8 * i) ∧ (zsh i).toInt64 &&& 63 = Int64.ofNat (56 - 8 * i) := by decide +kernel
  exact key (56 - 8 * i) (by omega) (e i hi).1 (e i hi).2
def wTs (q : (Nat → Int) × Nat) (x : Int) : (Nat → Int) × Nat := if (x = 10 ∨ (32 ≤ x ∧ x ≤ 126)) ∧ q.2 < 1000 then (wSt q.1 q.2 x, q.2 + 1) else q
def wTk (f : Nat → Int) (q : (Nat → Int) × Nat) : Nat → (Nat → Int) × Nat
  | 0 => q
  | k + 1 => wTs (wTk f q k) (f k)
theorem wTs_le {q : (Nat → Int) × Nat} {x : Int} (h : q.2 ≤ 1000) : (wTs q x).2 ≤ 1000 := by
  unfold wTs
  split
  · simp only; omega
  · exact h
theorem wTk_congr {f g : Nat → Int} {q : (Nat → Int) × Nat} : ∀ k, (∀ i, i < k → f i = g i) → wTk f q k = wTk g q k := by
  intro k
  induction k with
  | zero => intro _; rfl
  | succ k ih =>
    intro h
    unfold wTk
    rw [ih (fun i hi => h i (by omega)), h k (by omega)]
def wBx (v : Int) (i : Nat) : Int := cfn 0 (cfn 10 (cfn 9 v (56 - 8 * (i : Int))) (cfn 9 v (56 - 8 * (i : Int)))) 255
def wBm (v : Int) (i : Nat) : Int := cfn 0 (cfn 10 (cfn 8 v (56 - 8 * (i : Int))) (cfn 8 v (56 - 8 * (i : Int)))) 255
theorem wsh : ∀ i : Nat, i < 8 → Int32.ofInt (56 - 8 * (i : Int)) = zsh i := by decide +kernel
theorem wBx_eq (v : Int) {i : Nat} (hi : i < 8) : wBx v i = (zby (Int64.ofInt v) i).toInt := by
  unfold wBx zby
  simp only [cfn]
  rw [cofl, cofi, wsh i hi]
  rfl
theorem wBm_eq (v : Int) {i : Nat} (hi : i < 8) : wBm v i = (zbm (Int64.ofInt v) i).toInt := by
  unfold wBm zbm
  simp only [cfn]
  rw [cofl, cofi, wsh i hi]
  rfl
theorem wB_eq (v : Int) {i : Nat} (hi : i < 8) : wBx v i = wBm v i := by rw [wBx_eq v hi, wBm_eq v hi, zbyte (Int64.ofInt v) i hi]
def wTp (M : SMem) (q : (Nat → Int) × Nat) (MM : SMem) : Prop := sI tg MM ∧ (∀ f j i, f ≠ 57 → ¬ (f = 3 ∧ i = 1) → MM f j i = M f j i) ∧ MM 57 0 = q.1 ∧ MM 3 0 1 = (q.2 : Int) ∧ q.2 ≤ 1000
def vTp (M : SMem) (q : (Nat → Int) × Nat) (MM : SMem) : Prop := sI tg MM ∧ (∀ f j i, f ≠ 12 → ¬ (f = 1 ∧ (i = 0 ∨ i = 2)) → MM f j i = M f j i) ∧ MM 12 0 = q.1 ∧ MM 1 0 2 = (q.2 : Int) ∧ q.2 ≤ 1000
section CFD
variable {EX : SEx} {l : Launch} {dC : Nat → ClassId} {dI : Nat → Nat → Nat} {cA : Nat → ClassId} {ad : SAd} {scrS d : Nat}
theorem b_addSign (hp : cPl tm tc tf EX) {x : Int} {M M0 : SMem} {q : (Nat → Int) × Nat} (hq : wTp M0 q M) : cBG tm tf EX l dC dI cA ad scrS (d + 1) kX7_addSign [(2, 3, 0), (0, 0, x)] M (fun rr MM => rr = [] ∧ wTp M0 (wTs q x) MM) := by
  refine cMeth (v := [x]) (Fd := 60) hp (by decide) gX7_addSign_ok gX7_addSign_m0 (by simp [cAs, cE2, sev, svl, cen]) ?_
  refine cEnds_at gX7_addSign_m0 rfl ?_
  obtain ⟨hI, hf, h57, h31, hle⟩ := hq
  have no : ¬ ((x = 10 ∨ (32 ≤ x ∧ x ≤ 126)) ∧ q.2 < 1000) → wTp M0 (wTs q x) M := fun z => by
    rw [show wTs q x = q from if_neg z]
    exact ⟨hI, hf, h57, h31, hle⟩
  have yes : (x = 10 ∨ (32 ≤ x ∧ x ≤ 126)) → q.2 < 1000 → ∀ (k : Nat) (r : List CN), cden (cBG tm tf EX l dC dI cA ad scrS d) (fun rr MM => rr = [] ∧ wTp M0 (wTs q x) MM) (cEnds (cBG tm tf EX l dC dI cA ad scrS d) (fun rr MM => rr = [] ∧ wTp M0 (wTs q x) MM) 60 gX7_addSign) (k + 10) ((0, 3, 1, [(2, 3, (0, []))]) :: (6, 2, 0, [(0, 0, (0, [(0, 1)]))]) :: (6, 2, 0, [(0, 0, (0, [(0, 1)]))]) :: (3, 57, 1000, [(2, 57, (0, [])), (0, 0, (0, [(2, 1)])), (0, 0, (0, [(0, 1)]))]) :: (0, 3, 1, [(2, 3, (0, []))]) :: (6, 0, 0, [(0, 0, (1, [(3, 1)]))]) :: (1, 3, 1, [(2, 3, (0, [])), (0, 0, (1, [(3, 1)]))]) :: (10, 0, 0, []) :: r) [x, (q.2 : Int)] M := by
    intro hx hn k r
    refine d_fld 0 rfl ?_
    rw [h31]
    refine d_rng (by simp only [clo, chi, cE2, sev, svl, cen, List.cons_append, List.nil_append]; omega) ?_
    refine d_rng (by simp only [clo, chi, cE2, sev, svl, cen, List.cons_append, List.nil_append]; omega) ?_
    refine d_set 0 q.2 x (by simp only [cE2, sev, svl, cen, List.cons_append, List.nil_append]; omega) (by simp only [cE2, sev, svl, cen, List.cons_append, List.nil_append]; omega) hn (by simp only [cE2, sev, svl, cen, List.cons_append, List.nil_append]; omega) ?_
    refine d_fld 0 rfl ?_
    rw [supd_f (by decide), h31]
    refine d_rng (by simp only [clo, chi, cE2, sev, svl, cen, List.cons_append, List.nil_append]; omega) ?_
    refine d_put 0 ((q.2 + 1 : Nat) : Int) rfl (by simp only [cE2, sev, svl, cen, List.cons_append, List.nil_append]; omega) ?_
    refine d_ret [] rfl (by decide) ⟨rfl, ?_⟩
    rw [show wTs q x = (wSt q.1 q.2 x, q.2 + 1) from if_pos ⟨hx, hn⟩]
    refine ⟨wI (lo := 0) (hi := 1000) (wI (lo := 0) (hi := 126) hI rfl ⟨by omega, by omega⟩) rfl ⟨by omega, by omega⟩, fun f j i z1 z2 => ?_, ?_, supd_at _ _ _ _ _, (show q.2 + 1 ≤ 1000 by omega)⟩
    · rw [show supd (supd M 57 0 q.2 x) 3 0 1 ((q.2 + 1 : Nat) : Int) f j i = supd M 57 0 q.2 x f j i from if_neg (fun z => z2 ⟨z.1, z.2.2⟩), supd_f z1]
      exact hf f j i z1 z2
    · rw [supd_ff (by decide), supd_row, h57]
  refine d_br (fun h => ?_) (fun h => ?_)
  · simp only [cCmp, cE2, sev, svl, cen, List.cons_append, List.nil_append] at h
    refine d_fld 0 rfl ?_
    rw [h31]
    refine d_br (fun h => ?_) (fun h => ?_)
    · simp only [cCmp, cE2, sev, svl, cen, List.cons_append, List.nil_append] at h
      exact d_ret [] rfl (by decide) ⟨rfl, no (fun z => by omega)⟩
    · simp only [cCmp, cE2, sev, svl, cen, List.cons_append, List.nil_append] at h
      exact yes (by omega) (by omega) _ _
  · simp only [cCmp, cE2, sev, svl, cen, List.cons_append, List.nil_append] at h
    refine d_br (fun h => ?_) (fun h => ?_)
    · simp only [cCmp, cE2, sev, svl, cen, List.cons_append, List.nil_append] at h
      exact d_ret [] rfl (by decide) ⟨rfl, no (fun z => by omega)⟩
    · simp only [cCmp, cE2, sev, svl, cen, List.cons_append, List.nil_append] at h
      refine d_br (fun h => ?_) (fun h => ?_)
      · simp only [cCmp, cE2, sev, svl, cen, List.cons_append, List.nil_append] at h
        exact d_ret [] rfl (by decide) ⟨rfl, no (fun z => by omega)⟩
      · simp only [cCmp, cE2, sev, svl, cen, List.cons_append, List.nil_append] at h
        refine d_fld 0 rfl ?_
        rw [h31]
        refine d_br (fun h => ?_) (fun h => ?_)
        · simp only [cCmp, cE2, sev, svl, cen, List.cons_append, List.nil_append] at h
          exact d_ret [] rfl (by decide) ⟨rfl, no (fun z => by omega)⟩
        · simp only [cCmp, cE2, sev, svl, cen, List.cons_append, List.nil_append] at h
          exact yes (by omega) (by omega) _ _
theorem b_take (hp : cPl tm tc tf EX) {x : Int} {M M0 : SMem} {q : (Nat → Int) × Nat} (hq : wTp M0 q M) : cBG tm tf EX l dC dI cA ad scrS (d + 2) kX7_take [(2, 3, 0), (1, 0, x)] M (fun rr MM => rr = [] ∧ wTp M0 (wTk (wBx x) q 8) MM) := by
  refine cMeth (v := [x]) (Fd := 60) hp (by decide) gX7_take_ok gX7_take_m0 (by simp [cAs, cE2, sev, svl, cen]) ?_
  have loop : ∀ (m k : Nat) (M1 : SMem), k + m = 8 → wTp M0 (wTk (wBx x) q k) M1 → cEnds (cBG tm tf EX l dC dI cA ad scrS (d + 1)) (fun rr MM => rr = [] ∧ wTp M0 (wTk (wBx x) q 8) MM) 60 gX7_take 3 [x, 56 - 8 * (k : Int)] M1 := by
    intro m
    induction m with
    | zero =>
      intro k M1 hk h1
      have e8 : k = 8 := by omega
      subst e8
      refine cEnds_at gX7_take_m3 rfl ?_
      refine d_br (fun h => ?_) (fun h => ?_)
      · exact d_ret [] rfl (by decide) ⟨rfl, h1⟩
      · simp only [cCmp, cE2, sev, svl, cen, List.cons_append, List.nil_append] at h
        omega
    | succ m ih =>
      intro k M1 hk h1
      refine cEnds_at gX7_take_m3 rfl ?_
      refine d_br (fun h => ?_) (fun h => ?_)
      · simp only [cCmp, cE2, sev, svl, cen, List.cons_append, List.nil_append] at h
        omega
      · refine d_op (cfn 9 x (56 - 8 * (k : Int))) (by congr 1 <;> simp [cE2, sev, svl, cen]) ?_
        refine d_op (cfn 10 (cfn 9 x (56 - 8 * (k : Int))) (cfn 9 x (56 - 8 * (k : Int)))) (by congr 1 <;> simp [cE2, sev, svl, cen]) ?_
        refine d_op (wBx x k) (by unfold wBx; congr 1 <;> simp [cE2, sev, svl, cen]) ?_
        refine d_call (b_addSign hp (x := wBx x k) h1) (by simp [cAs, cE2, sev, svl, cen]) ?_
        rintro rr M2 ⟨rfl, h2⟩
        refine ⟨rfl, ?_⟩
        refine d_rng (by simp only [clo, chi, cE2, sev, svl, cen, List.cons_append, List.nil_append]; omega) ?_
        refine d_cut [x, 56 - 8 * ((k + 1 : Nat) : Int)] (by simp [cE2, sev, svl, cen] <;> omega) ?_
        exact ih (k + 1) M2 (by omega) h2
  refine cEnds_at gX7_take_m0 rfl ?_
  refine d_cut [x, 56 - 8 * ((0 : Nat) : Int)] (by simp [cE2, sev, svl, cen] <;> omega) ?_
  exact loop 8 0 M (by omega) hq
theorem b_feed (hp : cPl tm tc tf EX) {x y z : Int} {M : SMem} {n : Nat} (hI : sI tg M) (hn : M 3 0 1 = (n : Int)) (h9 : n ≤ 1000) : cBG tm tf EX l dC dI cA ad scrS (d + 3) kX9_feed [(2, 0, 0), (1, 0, x), (1, 0, y), (1, 0, z)] M (fun rr MM => rr = [((wTk (wBx z) (wTk (wBx y) (wTk (wBx x) (M 57 0, n) 8) 8) 8).2 : Int)] ∧ wTp M (wTk (wBx z) (wTk (wBx y) (wTk (wBx x) (M 57 0, n) 8) 8) 8) MM) := by
  refine cMeth (v := [x, y, z]) (Fd := 60) hp (by decide) gX9_feed_ok gX9_feed_m0 (by simp [cAs, cE2, sev, svl, cen]) ?_
  refine cEnds_at gX9_feed_m0 rfl ?_
  refine d_call (b_take hp (x := x) (M0 := M) (q := (M 57 0, n)) ⟨hI, fun _ _ _ _ _ => rfl, rfl, hn, h9⟩) (by simp [cAs, cE2, sev, svl, cen]) ?_
  rintro rr M1 ⟨rfl, h1⟩
  refine ⟨rfl, ?_⟩
  refine d_call (b_take hp (x := y) h1) (by simp [cAs, cE2, sev, svl, cen]) ?_
  rintro rr M2 ⟨rfl, h2⟩
  refine ⟨rfl, ?_⟩
  refine d_call (b_take hp (x := z) h2) (by simp [cAs, cE2, sev, svl, cen]) ?_
  rintro rr M3 ⟨rfl, h3⟩
  refine ⟨rfl, ?_⟩
  refine d_fld 0 rfl ?_
  have h4 := h3.2.2.2.2
  rw [h3.2.2.2.1]
  refine d_ret [_] (by simp [cE2, sev, svl, cen]) (fun x hx => ?_) ⟨rfl, h3⟩
  rw [List.mem_singleton.mp hx]
  simp only [clo, chi]
  omega
theorem m_lay (hp : cPl tm tc tf EX) {x : Int} {M M0 : SMem} {q : (Nat → Int) × Nat} (hq : vTp M0 q M) : cBG tm tf EX l dC dI cA ad scrS (d + 1) kX10_lay [(2, 1, 0), (1, 0, x)] M (fun rr MM => rr = [] ∧ vTp M0 (wTk (wBm x) q 8) MM) := by
  refine cMeth (v := [x]) (Fd := 60) hp (by decide) gX10_lay_ok gX10_lay_m0 (by simp [cAs, cE2, sev, svl, cen]) ?_
  have loop : ∀ (m k : Nat) (M1 : SMem), k + m = 8 → vTp M0 (wTk (wBm x) q k) M1 → cEnds (cBG tm tf EX l dC dI cA ad scrS d) (fun rr MM => rr = [] ∧ vTp M0 (wTk (wBm x) q 8) MM) 60 gX10_lay 3 [x, 56 - 8 * (k : Int)] M1 := by
    intro m
    induction m with
    | zero =>
      intro k M1 hk h1
      have e8 : k = 8 := by omega
      subst e8
      refine cEnds_at gX10_lay_m3 rfl ?_
      refine d_br (fun h => ?_) (fun h => ?_)
      · exact d_ret [] rfl (by decide) ⟨rfl, h1⟩
      · simp only [cCmp, cE2, sev, svl, cen, List.cons_append, List.nil_append] at h
        omega
    | succ m ih =>
      intro k M1 hk h1
      generalize hq' : wTk (wBm x) q k = q' at h1
      have hs : wTk (wBm x) q (k + 1) = wTs q' (wBm x k) := by rw [← hq']; rfl
      obtain ⟨hI, hf, h12, h12n, hle⟩ := h1
      have nx : ∀ M2, vTp M0 (wTs q' (wBm x k)) M2 → cEnds (cBG tm tf EX l dC dI cA ad scrS d) (fun rr MM => rr = [] ∧ vTp M0 (wTk (wBm x) q 8) MM) 60 gX10_lay 3 [x, 56 - 8 * ((k + 1 : Nat) : Int)] M2 := fun M2 h2 => ih (k + 1) M2 (by omega) (by rw [hs]; exact h2)
      have no : ¬ ((wBm x k = 10 ∨ (32 ≤ wBm x k ∧ wBm x k ≤ 126)) ∧ q'.2 < 1000) → vTp M0 (wTs q' (wBm x k)) M1 := fun z => by
        rw [show wTs q' (wBm x k) = q' from if_neg z]
        exact ⟨hI, hf, h12, h12n, hle⟩
      have yes : (wBm x k = 10 ∨ (32 ≤ wBm x k ∧ wBm x k ≤ 126)) → q'.2 < 1000 → vTp M0 (wTs q' (wBm x k)) (supd (supd M1 12 0 q'.2 (wBm x k)) 1 0 2 ((q'.2 + 1 : Nat) : Int)) := fun hx hn => by
        rw [show wTs q' (wBm x k) = (wSt q'.1 q'.2 (wBm x k), q'.2 + 1) from if_pos ⟨hx, hn⟩]
        refine ⟨wI (lo := 0) (hi := 1000) (wI (lo := 0) (hi := 126) hI rfl ⟨by omega, by omega⟩) rfl ⟨by omega, by omega⟩, fun f j i z1 z2 => ?_, ?_, supd_at _ _ _ _ _, (show q'.2 + 1 ≤ 1000 by omega)⟩
        · rw [show supd (supd M1 12 0 q'.2 (wBm x k)) 1 0 2 ((q'.2 + 1 : Nat) : Int) f j i = supd M1 12 0 q'.2 (wBm x k) f j i from if_neg (fun z => z2 ⟨z.1, Or.inr z.2.2⟩), supd_f z1]
          exact hf f j i z1 z2
        · rw [supd_ff (by decide), supd_row, h12]
      refine cEnds_at gX10_lay_m3 rfl ?_
      refine d_br (fun h => ?_) (fun h => ?_)
      · simp only [cCmp, cE2, sev, svl, cen, List.cons_append, List.nil_append] at h
        omega
      · refine d_op (cfn 8 x (56 - 8 * (k : Int))) (by congr 1 <;> simp [cE2, sev, svl, cen]) ?_
        refine d_op (cfn 10 (cfn 8 x (56 - 8 * (k : Int))) (cfn 8 x (56 - 8 * (k : Int)))) (by congr 1 <;> simp [cE2, sev, svl, cen]) ?_
        refine d_op (wBm x k) (by unfold wBm; congr 1 <;> simp [cE2, sev, svl, cen]) ?_
        refine d_br (fun h => ?_) (fun h => ?_)
        · simp only [cCmp, cE2, sev, svl, cen, List.cons_append, List.nil_append] at h
          refine d_fld 0 rfl ?_
          rw [h12n]
          refine d_br (fun h => ?_) (fun h => ?_)
          · simp only [cCmp, cE2, sev, svl, cen, List.cons_append, List.nil_append] at h
            refine d_rng (by simp only [clo, chi, cE2, sev, svl, cen, List.cons_append, List.nil_append]; omega) ?_
            refine d_cut [x, 56 - 8 * ((k + 1 : Nat) : Int)] (by simp [cE2, sev, svl, cen] <;> omega) ?_
            exact nx M1 (no (fun z => by omega))
          · simp only [cCmp, cE2, sev, svl, cen, List.cons_append, List.nil_append] at h
            refine d_fld 0 rfl ?_
            rw [h12n]
            refine d_set 0 q'.2 (wBm x k) (by simp only [cE2, sev, svl, cen, List.cons_append, List.nil_append]; omega) (by simp only [cE2, sev, svl, cen, List.cons_append, List.nil_append]; omega) (by omega) (by simp only [cE2, sev, svl, cen, List.cons_append, List.nil_append]; omega) ?_
            refine d_fld 0 rfl ?_
            rw [supd_f (by decide), h12n]
            refine d_rng (by simp only [clo, chi, cE2, sev, svl, cen, List.cons_append, List.nil_append]; omega) ?_
            refine d_put 0 ((q'.2 + 1 : Nat) : Int) rfl (by simp only [cE2, sev, svl, cen, List.cons_append, List.nil_append]; omega) ?_
            refine d_rng (by simp only [clo, chi, cE2, sev, svl, cen, List.cons_append, List.nil_append]; omega) ?_
            refine d_cut [x, 56 - 8 * ((k + 1 : Nat) : Int)] (by simp [cE2, sev, svl, cen] <;> omega) ?_
            exact nx _ (yes (by omega) (by omega))
        · simp only [cCmp, cE2, sev, svl, cen, List.cons_append, List.nil_append] at h
          refine d_br (fun h => ?_) (fun h => ?_)
          · simp only [cCmp, cE2, sev, svl, cen, List.cons_append, List.nil_append] at h
            refine d_rng (by simp only [clo, chi, cE2, sev, svl, cen, List.cons_append, List.nil_append]; omega) ?_
            refine d_cut [x, 56 - 8 * ((k + 1 : Nat) : Int)] (by simp [cE2, sev, svl, cen] <;> omega) ?_
            exact nx M1 (no (fun z => by omega))
          · simp only [cCmp, cE2, sev, svl, cen, List.cons_append, List.nil_append] at h
            refine d_br (fun h => ?_) (fun h => ?_)
            · simp only [cCmp, cE2, sev, svl, cen, List.cons_append, List.nil_append] at h
              refine d_rng (by simp only [clo, chi, cE2, sev, svl, cen, List.cons_append, List.nil_append]; omega) ?_
              refine d_cut [x, 56 - 8 * ((k + 1 : Nat) : Int)] (by simp [cE2, sev, svl, cen] <;> omega) ?_
              exact nx M1 (no (fun z => by omega))
            · simp only [cCmp, cE2, sev, svl, cen, List.cons_append, List.nil_append] at h
              refine d_fld 0 rfl ?_
              rw [h12n]
              refine d_br (fun h => ?_) (fun h => ?_)
              · simp only [cCmp, cE2, sev, svl, cen, List.cons_append, List.nil_append] at h
                refine d_rng (by simp only [clo, chi, cE2, sev, svl, cen, List.cons_append, List.nil_append]; omega) ?_
                refine d_cut [x, 56 - 8 * ((k + 1 : Nat) : Int)] (by simp [cE2, sev, svl, cen] <;> omega) ?_
                exact nx M1 (no (fun z => by omega))
              · simp only [cCmp, cE2, sev, svl, cen, List.cons_append, List.nil_append] at h
                refine d_fld 0 rfl ?_
                rw [h12n]
                refine d_set 0 q'.2 (wBm x k) (by simp only [cE2, sev, svl, cen, List.cons_append, List.nil_append]; omega) (by simp only [cE2, sev, svl, cen, List.cons_append, List.nil_append]; omega) (by omega) (by simp only [cE2, sev, svl, cen, List.cons_append, List.nil_append]; omega) ?_
                refine d_fld 0 rfl ?_
                rw [supd_f (by decide), h12n]
                refine d_rng (by simp only [clo, chi, cE2, sev, svl, cen, List.cons_append, List.nil_append]; omega) ?_
                refine d_put 0 ((q'.2 + 1 : Nat) : Int) rfl (by simp only [cE2, sev, svl, cen, List.cons_append, List.nil_append]; omega) ?_
                refine d_rng (by simp only [clo, chi, cE2, sev, svl, cen, List.cons_append, List.nil_append]; omega) ?_
                refine d_cut [x, 56 - 8 * ((k + 1 : Nat) : Int)] (by simp [cE2, sev, svl, cen] <;> omega) ?_
                exact nx _ (yes (by omega) (by omega))
  refine cEnds_at gX10_lay_m0 rfl ?_
  refine d_cut [x, 56 - 8 * ((0 : Nat) : Int)] (by simp [cE2, sev, svl, cen] <;> omega) ?_
  exact loop 8 0 M (by omega) hq
theorem m_feed (hp : cPl tm tc tf EX) {x y z : Int} {M : SMem} {n : Nat} (hI : sI tg M) (hn : M 1 0 2 = (n : Int)) (h9 : n ≤ 1000) : cBG tm tf EX l dC dI cA ad scrS (d + 2) kX10_feed [(2, 1, 0), (1, 0, x), (1, 0, y), (1, 0, z)] M (fun rr MM => rr = [((wTk (wBm z) (wTk (wBm y) (wTk (wBm x) (M 12 0, n) 8) 8) 8).2 : Int)] ∧ vTp M (wTk (wBm z) (wTk (wBm y) (wTk (wBm x) (M 12 0, n) 8) 8) 8) MM) := by
  refine cMeth (v := [x, y, z]) (Fd := 60) hp (by decide) gX10_feed_ok gX10_feed_m0 (by simp [cAs, cE2, sev, svl, cen]) ?_
  refine cEnds_at gX10_feed_m0 rfl ?_
  refine d_put 0 0 rfl rfl ?_
  refine d_call (m_lay hp (x := x) (M0 := M) (q := (M 12 0, n)) ⟨wI (lo := 0) (hi := 1) hI rfl ⟨by omega, by omega⟩, fun f j i _ z2 => if_neg (fun q => z2 ⟨q.1, Or.inl q.2.2⟩), by rw [supd_ff (by decide)], by rw [supd_i (by decide)]; exact hn, h9⟩) (by simp [cAs, cE2, sev, svl, cen]) ?_
  rintro rr M1 ⟨rfl, h1⟩
  refine ⟨rfl, ?_⟩
  refine d_call (m_lay hp (x := y) h1) (by simp [cAs, cE2, sev, svl, cen]) ?_
  rintro rr M2 ⟨rfl, h2⟩
  refine ⟨rfl, ?_⟩
  refine d_call (m_lay hp (x := z) h2) (by simp [cAs, cE2, sev, svl, cen]) ?_
  rintro rr M3 ⟨rfl, h3⟩
  refine ⟨rfl, ?_⟩
  refine d_fld 0 rfl ?_
  have h4 := h3.2.2.2.2
  rw [h3.2.2.2.1]
  refine d_ret [_] (by simp [cE2, sev, svl, cen]) (fun x hx => ?_) ⟨rfl, h3⟩
  rw [List.mem_singleton.mp hx]
  simp only [clo, chi]
  omega
end CFD
