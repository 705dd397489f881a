/-! the run: the reference does it -/
/-- where a run of the reference writes -/
abbrev mXf (M MM : SMem) : Prop := ∀ f j i, f ∉ [43, 44, 47, 48, 49, 50] → ¬ (f = 1 ∧ i = 50) → MM f j i = M f j i
theorem mXf_t {M M1 M2 : SMem} (h1 : mXf M M1) (h2 : mXf M1 M2) : mXf M M2 := fun f j i a b => (h2 f j i a b).trans (h1 f j i a b)
theorem mXf_Z {Z : RZT} {M MM : SMem} (h : mXf M MM) (g : rZr Z M) : rZr Z MM := rZr_cg (fun f hf => by
  funext j i
  simp only [List.mem_cons, List.not_mem_nil, or_false] at hf
  refine h f j i (fun q => ?_) (by omega)
  simp only [List.mem_cons, List.not_mem_nil, or_false] at q
  omega) g
theorem mXf_L {M MM : SMem} {r : Nat} {ls : List OLn} (h : mXf M MM) (g : oMl M r ls) : oMl MM r ls := oMl_cg (fun f i h1 h2 => h f 0 i (fun q => by
  simp only [List.mem_cons, List.not_mem_nil, or_false] at q
  omega) (by omega)) g
/-- the first name of a place -/
def mS5 (M : SMem) : Prop := ∀ p : Nat, 0 ≤ M 50 0 (6 * p)
/-- behind an order's lines at a place -/
def mOP (p : Nat) (y : RX) (M MM : SMem) : Prop := sI tg MM ∧ mXf M MM ∧ mS5 MM ∧ MM 1 0 50 = y.2 ∧ rLg 47 48 49 50 MM p y.1 ∧ ∀ p' st', p' ≠ p → st'.length ≤ 6 → rLg 47 48 49 50 M p' st' → rLg 47 48 49 50 MM p' st'
theorem mAdd_5 {M : SMem} {p n : Nat} {a b c : Int} (hc : n = 0 → 0 ≤ c) (h6 : n < 6) (h : mS5 M) : mS5 (rAdd 47 48 49 50 M p n a b c) := by
  intro q
  unfold rAdd
  rw [supd_f (by decide)]
  by_cases e : 6 * q = 6 * p + n
  · rw [e, supd_at]
    exact hc (by omega)
  · rw [supd_i e, supd_f (by decide), supd_f (by decide)]
    exact h q
section CR7
variable {EX : SEx} {l : Launch} {dC : Nat → ClassId} {dI : Nat → Nat → Nat} {cA : Nat → ClassId} {ad : SAd} {scrS d : Nat}
set_option maxHeartbeats 1000000 in
theorem m_does (hp : cPl tm tc tf EX) {Z : RZT} {r p : Nat} {st : List RC} {ls : List OLn} {M : SMem} (hI : sI tg M) (hr : r < 6) (hp9 : p < 12) (hw : rWf st) (g : rLg 47 48 49 50 M p st) (hL : oMl M r ls) (hZ : rZr Z M) (h5 : mS5 M) (hs : 0 ≤ M 1 0 50 ∧ M 1 0 50 ≤ 5000) : cBG tm tf EX l dC dI cA ad scrS (d + 4) kX10_does [(2, 1, 0), (0, 0, (p : Int)), (0, 0, (r : Int))] M (fun rr MM => rr = [] ∧ mOP p (rOb Z r p ls (st, M 1 0 50)) M MM) := by
  obtain ⟨R0, hR0⟩ : ∃ R0, R0 = rOb Z r p ls (st, M 1 0 50) := ⟨_, rfl⟩
  rw [← hR0]
  refine cMeth (v := [(p : Int), (r : Int)]) (Fd := 90) hp (by decide) gX10_does_ok gX10_does_m0 (by simp [cAs, cE2, sev, svl, cen]) ?_
  have self : mOP p (st, M 1 0 50) M M := ⟨hI, fun _ _ _ _ _ => rfl, h5, rfl, g, fun _ _ _ _ h => h⟩
  obtain ⟨e37, h12, hk9, hLs⟩ := id hL
  -- it may be that nothing is done
  have loop : ∀ (l2 : List OLn) (k : Nat) (x : RX) (MW : SMem), k + l2.length = ls.length → (∀ j, ls[k + j]? = l2[j]?) → rWf x.1 → x.2 ≤ M 1 0 50 + k → 0 ≤ x.2 → mOP p x M MW → rOb Z r p l2 x = R0 → cEnds (cBG tm tf EX l dC dI cA ad scrS (d + 3)) (fun rr MM => rr = [] ∧ mOP p R0 M MM) 90 gX10_does 5 [(p : Int), (r : Int), ((12 * r + k : Nat) : Int)] MW := by
    intro l2
    induction l2 with
    | nil =>
      intro k x MW hk hl w hx hx0 hW hR
      have hk : k + 0 = ls.length := hk
      have e37' : MW 37 0 r = (ls.length : Int) := (hW.2.1 37 0 r (by decide) (by omega)).trans e37
      have hR : x = R0 := by
        rw [← hR]
        unfold rOb
        split <;> rfl
      refine cEnds_at gX10_does_m5 rfl ?_
      refine d_rng (by simp only [clo, chi, cE2, sev, svl, cen, List.cons_append, List.nil_append]; omega) ?_
      refine d_row 0 r (by simp only [cE2, sev, svl, cen, List.cons_append, List.nil_append]; omega) (by simp only [cE2, sev, svl, cen, List.cons_append, List.nil_append]; omega) (by omega) ?_
      rw [e37']
      refine d_rng (by simp only [clo, chi, cE2, sev, svl, cen, List.cons_append, List.nil_append]; omega) ?_
      refine d_br (fun h => ?_) (fun h => ?_)
      · simp only [cCmp, cE2, sev, svl, cen, List.cons_append, List.nil_append] at h
        first
        | omega
        | skip
          exact d_ret [] rfl (by decide) ⟨rfl, by rw [← hR]; exact hW⟩
      · simp only [cCmp, cE2, sev, svl, cen, List.cons_append, List.nil_append] at h
        first
        | omega
        | skip
          omega
    | cons q l2 ih =>
      intro k x MW hk hl w hx hx0 hW hR
      obtain ⟨st2, s2⟩ := x
      have hk : k + (l2.length + 1) = ls.length := hk
      have hq : ls[k]? = some q := (hl 0).trans rfl
      obtain ⟨i1, f1, n1, c1, u1, o1⟩ := id hW
      have u1 : rLg 47 48 49 50 MW p st2 := u1
      have c1 : MW 1 0 50 = s2 := c1
      have hx : s2 ≤ M 1 0 50 + k := hx
      have hx0 : 0 ≤ s2 := hx0
      have w : rWf st2 := w
      have Z1 := mXf_Z f1 hZ
      obtain ⟨e37', -, -, hLs1⟩ := mXf_L f1 hL
      have qk := hk9 q (by obtain ⟨a, b⟩ := List.getElem?_eq_some_iff.mp hq; rw [← b]; exact List.getElem_mem a)
      obtain ⟨m0, m1, m2, m3, m4⟩ := id qk
      obtain ⟨t1, t2, t3, ca, t4, t5, t6, t7⟩ := hLs1 k q hq
      obtain ⟨kk, hkk⟩ : ∃ kk, kk = 12 * r + k := ⟨_, rfl⟩
      rw [← hkk] at t2 t3 t4 ⊢
      have nxt : ∀ (y : RX) (M2 : SMem), rWf y.1 → y.2 ≤ s2 + 1 → 0 ≤ y.2 → rOb Z r p l2 y = R0 → mOP p y M M2 → cEnds (cBG tm tf EX l dC dI cA ad scrS (d + 3)) (fun rr MM => rr = [] ∧ mOP p R0 M MM) 90 gX10_does 176 [(p : Int), (r : Int), (kk : Int)] M2 := fun y M2 j1 j3 j4 j5 j6 => by
        refine cEnds_at gX10_does_m176 rfl ?_
        refine d_rng (by simp only [clo, chi, cE2, sev, svl, cen, List.cons_append, List.nil_append]; omega) ?_
        refine d_cut [(p : Int), (r : Int), ((12 * r + (k + 1) : Nat) : Int)] (by simp [cE2, sev, svl, cen] <;> omega) ?_
        exact ih (k + 1) y M2 (by omega) (fun j => by have := hl (j + 1); rw [show k + 1 + j = k + (j + 1) by omega]; exact this) j1 (by omega) j4 j6 j5
      -- the line does nothing
      have off : ¬ (st2.length ≠ 0 ∧ Z.1 p 2 ≤ Z.2.2.2.2.2.1 r) → rOb Z r p l2 (st2, s2) = R0 := fun h => by
        rw [← hR]
        unfold rOb
        rw [if_pos (show (st2, s2).1.length = 0 ∨ Z.2.2.2.2.2.1 r < Z.1 p 2 by dsimp only; omega), if_pos (show (st2, s2).1.length = 0 ∨ Z.2.2.2.2.2.1 r < Z.1 p 2 by dsimp only; omega)]
      have on : (st2.length ≠ 0 ∧ Z.1 p 2 ≤ Z.2.2.2.2.2.1 r) → ∀ y : RX, y.1.length ≠ 0 → rOne Z r p q (st2, s2) = y → rOb Z r p l2 y = R0 := fun h y hy e => by
        rw [← hR]
        unfold rOb
        rw [if_neg (show ¬ ((st2, s2).1.length = 0 ∨ Z.2.2.2.2.2.1 r < Z.1 p 2) by dsimp only; omega), if_neg (show ¬ (y.1.length = 0 ∨ Z.2.2.2.2.2.1 r < Z.1 p 2) by omega), ← e]
        rfl
      have same : ¬ (rCn Z r p st2 (q.1 + 1) q.2.1 ∧ eV (rFc Z p st2) q.2.2 ≠ 0) → rOne Z r p q (st2, s2) = (st2, s2) := fun h => pIf_n h
      have other : (rCn Z r p st2 (q.1 + 1) q.2.1 ∧ eV (rFc Z p st2) q.2.2 ≠ 0) → rOne Z r p q (st2, s2) = (rWk r st2 (q.1 + 1) q.2.1, s2 + rSp st2 (q.1 + 1) q.2.1) := fun h => pIf_y h
      have none : ¬ ((rCn Z r p st2 (q.1 + 1) q.2.1 ∧ st2.length ≠ 0 ∧ Z.1 p 2 ≤ Z.2.2.2.2.2.1 r) ∧ eV (rFc Z p st2) q.2.2 ≠ 0) → rOb Z r p l2 (st2, s2) = R0 := fun h => by
        by_cases z : st2.length ≠ 0 ∧ Z.1 p 2 ≤ Z.2.2.2.2.2.1 r
        · exact on z (st2, s2) z.1 (same (fun y => h ⟨⟨y.1, z⟩, y.2⟩))
        · exact off z
      have b1 := rSp_b st2 (q.1 + 1) q.2.1
      -- it is done
      have lay : ∀ (dv nm : Int) (M3 : SMem), dv = q.1 + 1 → (nm = if dv = 1 ∨ dv = 2 then -1 else q.2.1) → rCn Z r p st2 (q.1 + 1) q.2.1 → st2.length ≠ 0 → Z.1 p 2 ≤ Z.2.2.2.2.2.1 r → eV (rFc Z p st2) q.2.2 ≠ 0 → mOP p (st2, s2 + rSp st2 (q.1 + 1) q.2.1) M M3 → cEnds (cBG tm tf EX l dC dI cA ad scrS (d + 3)) (fun rr MM => rr = [] ∧ mOP p R0 M MM) 90 gX10_does 176 [(p : Int), (r : Int), (kk : Int)] (rAdd 47 48 49 50 M3 p st2.length (r : Int) dv nm) := by
        intro dv nm M3 hd hnm g1 g2 g3 g4 g5
        obtain ⟨i3, f3, n3, c3, u3, o3⟩ := g5
        have c3 : M3 1 0 50 = s2 + rSp st2 (q.1 + 1) q.2.1 := c3
        have u3 : rLg 47 48 49 50 M3 p st2 := u3
        have hb : -1 ≤ nm ∧ nm ≤ 7 := by
          rw [hnm]
          split <;> omega
        have h6 : st2.length < 6 := g1.1
        refine nxt (rWk r st2 (q.1 + 1) q.2.1, s2 + rSp st2 (q.1 + 1) q.2.1) _ (rWf_wk w h6 g2 hr (by omega) (by omega)) (by dsimp only; omega) (by dsimp only; omega) (on ⟨g2, g3⟩ _ (by dsimp only; rw [rWk_len]; omega) (other ⟨g1, g4⟩)) ⟨?_, fun f j i q1 q2 => ?_, mAdd_5 (fun z => absurd z g2) h6 n3, ?_, ?_, fun p' st' h1 h2 h3 => rAdd_q (by decide) h6 h2 h1 (o3 p' st' h1 h2 h3)⟩
        · unfold rAdd
          exact wI (wI (wI (wI i3 (lo := -1) (hi := 5) rfl ⟨by omega, by omega⟩) (lo := 0) (hi := 4) rfl ⟨by omega, by omega⟩) (lo := -1) (hi := 7) rfl hb) (lo := 0) (hi := 6) rfl ⟨by omega, by omega⟩
        · simp only [List.mem_cons, List.not_mem_nil, or_false, not_or] at q1
          rw [rAdd_o ⟨by omega, by omega, by omega, by omega⟩]
          exact f3 f j i (by simp only [List.mem_cons, List.not_mem_nil, or_false, not_or]; omega) q2
        · rw [rAdd_o (by decide)]
          exact c3
        · show rLg 47 48 49 50 _ p (rWk r st2 (q.1 + 1) q.2.1)
          unfold rWk
          rw [← hd, ← hnm]
          exact rAdd_p (by decide) rfl u3
      have l113 : ∀ (aw : Int) (M3 : SMem), (aw = 1 ∧ (q.1 = 0 ∨ q.1 = 1)) ∨ (aw = 0 ∧ (q.1 = 2 ∨ q.1 = 3)) → rCn Z r p st2 (q.1 + 1) q.2.1 → st2.length ≠ 0 → Z.1 p 2 ≤ Z.2.2.2.2.2.1 r → eV (rFc Z p st2) q.2.2 ≠ 0 → mOP p (st2, s2 + rSp st2 (q.1 + 1) q.2.1) M M3 → cEnds (cBG tm tf EX l dC dI cA ad scrS (d + 3)) (fun rr MM => rr = [] ∧ mOP p R0 M MM) 90 gX10_does 113 [(p : Int), (r : Int), (kk : Int), aw] M3 := by
        intro aw M3 haw g1 g2 g3 g4 g5
        have u3 := g5.2.2.2.2.1.1
        have u3 : M3 47 0 p = (st2.length : Int) := u3
        have e38 : M3 38 0 kk = q.1 := (g5.2.1 38 0 kk (by decide) (by omega)).trans ((f1 38 0 kk (by decide) (by omega)).symm.trans t2)
        have e39 : M3 39 0 kk = q.2.1 := (g5.2.1 39 0 kk (by decide) (by omega)).trans ((f1 39 0 kk (by decide) (by omega)).symm.trans t3)
        have h6 : st2.length < 6 := g1.1
        refine cEnds_at gX10_does_m113 rfl ?_
        refine d_row 0 kk (by simp only [cE2, sev, svl, cen, List.cons_append, List.nil_append]; omega) (by simp only [cE2, sev, svl, cen, List.cons_append, List.nil_append]; omega) (by omega) ?_
        rw [e38]
        refine d_br (fun h => ?_) (fun h => ?_)
        · simp only [cCmp, cE2, sev, svl, cen, List.cons_append, List.nil_append] at h
          first
          | omega
          | skip
            refine d_row 0 kk (by simp only [cE2, sev, svl, cen, List.cons_append, List.nil_append]; omega) (by simp only [cE2, sev, svl, cen, List.cons_append, List.nil_append]; omega) (by omega) ?_
            rw [e38]
            refine d_br (fun h => ?_) (fun h => ?_)
            · simp only [cCmp, cE2, sev, svl, cen, List.cons_append, List.nil_append] at h
              first
              | omega
              | skip
                refine d_row 0 kk (by simp only [cE2, sev, svl, cen, List.cons_append, List.nil_append]; omega) (by simp only [cE2, sev, svl, cen, List.cons_append, List.nil_append]; omega) (by omega) ?_
                rw [e38]
                refine d_br (fun h => ?_) (fun h => ?_)
                · simp only [cCmp, cE2, sev, svl, cen, List.cons_append, List.nil_append] at h
                  first
                  | omega
                  | skip
                    refine d_br (fun h => ?_) (fun h => ?_)
                    · simp only [cCmp, cE2, sev, svl, cen, List.cons_append, List.nil_append] at h
                      first
                      | omega
                      | skip
                        refine d_row 0 kk (by simp only [cE2, sev, svl, cen, List.cons_append, List.nil_append]; omega) (by simp only [cE2, sev, svl, cen, List.cons_append, List.nil_append]; omega) (by omega) ?_
                        rw [e39]
                        refine d_call (m_lays (d := d + 2) hp (n := st2.length) (a := (r : Int)) (b := 4) (c := (q.2.1)) hp9 h6 u3) (by simp [cAs, cE2, sev, svl, cen] <;> omega) ?_
                        intro rr M' hq
                        obtain ⟨rfl, e9⟩ := hq
                        refine ⟨rfl, ?_⟩
                        rw [e9]
                        refine d_cut [(p : Int), (r : Int), (kk : Int)] (by simp [cE2, sev, svl, cen] <;> omega) ?_
                        exact lay _ _ M3 (by omega) (by rw [if_neg (by omega)]) g1 g2 g3 g4 g5
                    · simp only [cCmp, cE2, sev, svl, cen, List.cons_append, List.nil_append] at h
                      first
                      | omega
                      | skip
                        refine d_call (m_lays (d := d + 2) hp (n := st2.length) (a := (r : Int)) (b := 4) (c := (-1)) hp9 h6 u3) (by simp [cAs, cE2, sev, svl, cen] <;> omega) ?_
                        intro rr M' hq
                        obtain ⟨rfl, e9⟩ := hq
                        refine ⟨rfl, ?_⟩
                        refine d_cut [(p : Int), (r : Int), (kk : Int)] (by simp [cE2, sev, svl, cen] <;> omega) ?_
                        exact (by omega)
                · simp only [cCmp, cE2, sev, svl, cen, List.cons_append, List.nil_append] at h
                  first
                  | omega
                  | skip
                    refine d_br (fun h => ?_) (fun h => ?_)
                    · simp only [cCmp, cE2, sev, svl, cen, List.cons_append, List.nil_append] at h
                      first
                      | omega
                      | skip
                        refine d_row 0 kk (by simp only [cE2, sev, svl, cen, List.cons_append, List.nil_append]; omega) (by simp only [cE2, sev, svl, cen, List.cons_append, List.nil_append]; omega) (by omega) ?_
                        rw [e39]
                        refine d_call (m_lays (d := d + 2) hp (n := st2.length) (a := (r : Int)) (b := 3) (c := (q.2.1)) hp9 h6 u3) (by simp [cAs, cE2, sev, svl, cen] <;> omega) ?_
                        intro rr M' hq
                        obtain ⟨rfl, e9⟩ := hq
                        refine ⟨rfl, ?_⟩
                        rw [e9]
                        refine d_cut [(p : Int), (r : Int), (kk : Int)] (by simp [cE2, sev, svl, cen] <;> omega) ?_
                        exact lay _ _ M3 (by omega) (by rw [if_neg (by omega)]) g1 g2 g3 g4 g5
                    · simp only [cCmp, cE2, sev, svl, cen, List.cons_append, List.nil_append] at h
                      first
                      | omega
                      | skip
                        refine d_call (m_lays (d := d + 2) hp (n := st2.length) (a := (r : Int)) (b := 3) (c := (-1)) hp9 h6 u3) (by simp [cAs, cE2, sev, svl, cen] <;> omega) ?_
                        intro rr M' hq
                        obtain ⟨rfl, e9⟩ := hq
                        refine ⟨rfl, ?_⟩
                        refine d_cut [(p : Int), (r : Int), (kk : Int)] (by simp [cE2, sev, svl, cen] <;> omega) ?_
                        exact (by omega)
            · simp only [cCmp, cE2, sev, svl, cen, List.cons_append, List.nil_append] at h
              first
              | omega
              | skip
                refine d_br (fun h => ?_) (fun h => ?_)
                · simp only [cCmp, cE2, sev, svl, cen, List.cons_append, List.nil_append] at h
                  first
                  | omega
                  | skip
                    refine d_row 0 kk (by simp only [cE2, sev, svl, cen, List.cons_append, List.nil_append]; omega) (by simp only [cE2, sev, svl, cen, List.cons_append, List.nil_append]; omega) (by omega) ?_
                    rw [e39]
                    refine d_call (m_lays (d := d + 2) hp (n := st2.length) (a := (r : Int)) (b := 2) (c := (q.2.1)) hp9 h6 u3) (by simp [cAs, cE2, sev, svl, cen] <;> omega) ?_
                    intro rr M' hq
                    obtain ⟨rfl, e9⟩ := hq
                    refine ⟨rfl, ?_⟩
                    refine d_cut [(p : Int), (r : Int), (kk : Int)] (by simp [cE2, sev, svl, cen] <;> omega) ?_
                    exact (by omega)
                · simp only [cCmp, cE2, sev, svl, cen, List.cons_append, List.nil_append] at h
                  first
                  | omega
                  | skip
                    refine d_call (m_lays (d := d + 2) hp (n := st2.length) (a := (r : Int)) (b := 2) (c := (-1)) hp9 h6 u3) (by simp [cAs, cE2, sev, svl, cen] <;> omega) ?_
                    intro rr M' hq
                    obtain ⟨rfl, e9⟩ := hq
                    refine ⟨rfl, ?_⟩
                    rw [e9]
                    refine d_cut [(p : Int), (r : Int), (kk : Int)] (by simp [cE2, sev, svl, cen] <;> omega) ?_
                    exact lay _ _ M3 (by omega) (by rw [if_pos (by omega)]) g1 g2 g3 g4 g5
        · simp only [cCmp, cE2, sev, svl, cen, List.cons_append, List.nil_append] at h
          first
          | omega
          | skip
            refine d_br (fun h => ?_) (fun h => ?_)
            · simp only [cCmp, cE2, sev, svl, cen, List.cons_append, List.nil_append] at h
              first
              | omega
              | skip
                refine d_row 0 kk (by simp only [cE2, sev, svl, cen, List.cons_append, List.nil_append]; omega) (by simp only [cE2, sev, svl, cen, List.cons_append, List.nil_append]; omega) (by omega) ?_
                rw [e39]
                refine d_call (m_lays (d := d + 2) hp (n := st2.length) (a := (r : Int)) (b := 1) (c := (q.2.1)) hp9 h6 u3) (by simp [cAs, cE2, sev, svl, cen] <;> omega) ?_
                intro rr M' hq
                obtain ⟨rfl, e9⟩ := hq
                refine ⟨rfl, ?_⟩
                refine d_cut [(p : Int), (r : Int), (kk : Int)] (by simp [cE2, sev, svl, cen] <;> omega) ?_
                exact (by omega)
            · simp only [cCmp, cE2, sev, svl, cen, List.cons_append, List.nil_append] at h
              first
              | omega
              | skip
                refine d_call (m_lays (d := d + 2) hp (n := st2.length) (a := (r : Int)) (b := 1) (c := (-1)) hp9 h6 u3) (by simp [cAs, cE2, sev, svl, cen] <;> omega) ?_
                intro rr M' hq
                obtain ⟨rfl, e9⟩ := hq
                refine ⟨rfl, ?_⟩
                rw [e9]
                refine d_cut [(p : Int), (r : Int), (kk : Int)] (by simp [cE2, sev, svl, cen] <;> omega) ?_
                exact lay _ _ M3 (by omega) (by rw [if_pos (by omega)]) g1 g2 g3 g4 g5
      have l80 : ∀ (aw : Int) (M3 : SMem), (aw = 1 ∧ (q.1 = 0 ∨ q.1 = 1)) ∨ (aw = 0 ∧ (q.1 = 2 ∨ q.1 = 3)) → rCn Z r p st2 (q.1 + 1) q.2.1 → st2.length ≠ 0 → Z.1 p 2 ≤ Z.2.2.2.2.2.1 r → eV (rFc Z p st2) q.2.2 ≠ 0 → mOP p (st2, s2) M M3 → cEnds (cBG tm tf EX l dC dI cA ad scrS (d + 3)) (fun rr MM => rr = [] ∧ mOP p R0 M MM) 90 gX10_does 80 [(p : Int), (r : Int), (kk : Int), aw] M3 := by
        intro aw M3 haw g1 g2 g3 g4 g5
        obtain ⟨i3, f3, n3, c3, u3, o3⟩ := id g5
        have c3 : M3 1 0 50 = s2 := c3
        have u3 : rLg 47 48 49 50 M3 p st2 := u3
        have e39 : M3 39 0 kk = q.2.1 := (f3 39 0 kk (by decide) (by omega)).trans ((f1 39 0 kk (by decide) (by omega)).symm.trans t3)
        have put : ∀ z : Int, z = s2 + rSp st2 (q.1 + 1) q.2.1 → mOP p (st2, s2 + rSp st2 (q.1 + 1) q.2.1) M (supd M3 1 0 50 z) := fun z hz => by
          refine ⟨wI i3 (lo := -2147483648) (hi := 2147483647) rfl ⟨by omega, by omega⟩, fun f j i q1 q2 => (supd_n (by omega)).trans (f3 f j i q1 q2), fun p9 => ?_, (supd_at _ _ _ _ _).trans hz, rLg_cg (supd_f (by decide)) (fun f k9 hf _ => supd_f (by omega)) u3, fun p' st' h1 h2 h3 => rLg_cg (supd_f (by decide)) (fun f k9 hf _ => supd_f (by omega)) (o3 p' st' h1 h2 h3)⟩
          rw [supd_f (by decide)]
          exact n3 p9
        refine cEnds_at gX10_does_m80 rfl ?_
        refine d_fld 0 (by simp only [cE2, sev, svl, cen, List.cons_append, List.nil_append]; omega) ?_
        rw [c3]
        refine d_br (fun h => ?_) (fun h => ?_)
        · simp only [cCmp, cE2, sev, svl, cen, List.cons_append, List.nil_append] at h
          first
          | omega
          | skip
            refine d_rng (by simp only [clo, chi, cE2, sev, svl, cen, List.cons_append, List.nil_append]; omega) ?_
            refine d_put 0 s2 (by simp only [cE2, sev, svl, cen, List.cons_append, List.nil_append]; omega) (by simp only [cE2, sev, svl, cen, List.cons_append, List.nil_append]; omega) ?_
            refine d_cut [(p : Int), (r : Int), (kk : Int), aw] (by simp [cE2, sev, svl, cen] <;> omega) ?_
            exact l113 aw _ haw g1 g2 g3 g4 (put _ (by unfold rSp; rw [if_neg (by omega)]; omega))
        · simp only [cCmp, cE2, sev, svl, cen, List.cons_append, List.nil_append] at h
          first
          | omega
          | skip
            refine d_call (m_standing (d := d + 2) hp i3 hp9 w.1 u3) (by simp [cAs, cE2, sev, svl, cen] <;> omega) ?_
            intro rr M' hq
            obtain ⟨hM', rfl⟩ := hq
            rw [hM']
            refine ⟨rfl, ?_⟩
            refine d_row 0 kk (by simp only [cE2, sev, svl, cen, List.cons_append, List.nil_append]; omega) (by simp only [cE2, sev, svl, cen, List.cons_append, List.nil_append]; omega) (by omega) ?_
            rw [e39]
            refine d_br (fun h => ?_) (fun h => ?_)
            · simp only [cCmp, cE2, sev, svl, cen, List.cons_append, List.nil_append] at h
              first
              | omega
              | skip
                refine d_rng (by simp only [clo, chi, cE2, sev, svl, cen, List.cons_append, List.nil_append]; omega) ?_
                refine d_put 0 s2 (by simp only [cE2, sev, svl, cen, List.cons_append, List.nil_append]; omega) (by simp only [cE2, sev, svl, cen, List.cons_append, List.nil_append]; omega) ?_
                refine d_cut [(p : Int), (r : Int), (kk : Int), aw] (by simp [cE2, sev, svl, cen] <;> omega) ?_
                exact l113 aw _ haw g1 g2 g3 g4 (put _ (by unfold rSp; rw [if_neg (by omega)]; omega))
            · simp only [cCmp, cE2, sev, svl, cen, List.cons_append, List.nil_append] at h
              first
              | omega
              | skip
                refine d_rng (by simp only [clo, chi, cE2, sev, svl, cen, List.cons_append, List.nil_append]; omega) ?_
                refine d_put 0 (s2 + 1) (by simp only [cE2, sev, svl, cen, List.cons_append, List.nil_append]; omega) (by simp only [cE2, sev, svl, cen, List.cons_append, List.nil_append]; omega) ?_
                refine d_cut [(p : Int), (r : Int), (kk : Int), aw] (by simp [cE2, sev, svl, cen] <;> omega) ?_
                exact l113 aw _ haw g1 g2 g3 g4 (put _ (by unfold rSp; rw [if_pos (by omega)]))
      refine cEnds_at gX10_does_m5 rfl ?_
      refine d_rng (by simp only [clo, chi, cE2, sev, svl, cen, List.cons_append, List.nil_append]; omega) ?_
      refine d_row 0 r (by simp only [cE2, sev, svl, cen, List.cons_append, List.nil_append]; omega) (by simp only [cE2, sev, svl, cen, List.cons_append, List.nil_append]; omega) (by omega) ?_
      rw [e37']
      refine d_rng (by simp only [clo, chi, cE2, sev, svl, cen, List.cons_append, List.nil_append]; omega) ?_
      refine d_br (fun h => ?_) (fun h => ?_)
      · simp only [cCmp, cE2, sev, svl, cen, List.cons_append, List.nil_append] at h
        first
        | omega
        | skip
          exact d_ret [] rfl (by decide) (by omega)
      · simp only [cCmp, cE2, sev, svl, cen, List.cons_append, List.nil_append] at h
        first
        | omega
        | skip
          refine d_call (m_findFacts (d := d) hp (Z := Z) (st := st2) i1 hp9 w u1 Z1) (by simp [cAs, cE2, sev, svl, cen] <;> omega) ?_
          intro rr M2 hq
          obtain ⟨rfl, i2, f2, F2⟩ := hq
          have u2 : rLg 47 48 49 50 M2 p st2 := rLg_cg (f2 47 0 p (by decide)) (fun f k9 hf _ => f2 f 0 _ (by omega)) u1
          have Z2 := mXf_Z (fun f j i q1 q2 => f2 f j i (fun z => q1 (by rw [z]; decide))) Z1
          have e38 : M2 38 0 kk = q.1 := (f2 38 0 kk (by decide)).trans t2
          have e39 : M2 39 0 kk = q.2.1 := (f2 39 0 kk (by decide)).trans t3
          have e40 : M2 40 0 kk = (ca : Int) := (f2 40 0 kk (by decide)).trans t4
          have W2 : mOP p (st2, s2) M M2 := ⟨i2, mXf_t f1 (fun f j i q1 q2 => f2 f j i (fun z => q1 (by rw [z]; decide))), fun p9 => by rw [f2 50 0 _ (by decide)]; exact n1 p9, (f2 1 0 50 (by decide)).trans c1, u2, fun p' st' h1 h2 h3 => rLg_cg (f2 47 0 p' (by decide)) (fun f k9 hf _ => f2 f 0 _ (by omega)) (o1 p' st' h1 h2 h3)⟩
          refine ⟨rfl, ?_⟩
          refine d_call (m_canDo (d := d) hp (Z := Z) (r := r) (st := st2) (q := q) i2 hr hp9 (by omega) w u2 Z2 qk e38 e39) (by simp [cAs, cE2, sev, svl, cen] <;> omega) ?_
          intro rr M' hq
          obtain ⟨hM', hq⟩ := hq
          rw [hM']
          rcases hq with ⟨rfl, q4⟩ | ⟨rfl, q4⟩
          · refine ⟨rfl, ?_⟩
            refine d_br (fun h => ?_) (fun h => ?_)
            · simp only [cCmp, cE2, sev, svl, cen, List.cons_append, List.nil_append] at h
              omega
            · clear h
              refine d_rng (by simp only [clo, chi, cE2, sev, svl, cen, List.cons_append, List.nil_append]; omega) ?_
              refine d_row 0 kk (by simp only [cE2, sev, svl, cen, List.cons_append, List.nil_append]; omega) (by simp only [cE2, sev, svl, cen, List.cons_append, List.nil_append]; omega) (by omega) ?_
              rw [e40]
              refine d_rng (by simp only [clo, chi, cE2, sev, svl, cen, List.cons_append, List.nil_append]; omega) ?_
              refine d_call (m_worth (d := d + 1) hp (F := rFc Z p st2) (fr := 1100 * r + ca) (q := q.2.2) i2 F2 (fun j x hj => by rw [f2 41 0 _ (by decide), f2 42 0 _ (by decide)]; exact t6 j x hj) (by rw [f2 41 0 _ (by decide)]; exact t7) m0 t1 (by omega)) (by simp [cAs, cE2, sev, svl, cen] <;> omega) ?_
              intro rr M3 hq
              obtain ⟨rfl, i3, f3⟩ := hq
              have u3 : rLg 47 48 49 50 M3 p st2 := rLg_cg (f3 47 0 p (by decide)) (fun f k9 hf _ => f3 f 0 _ (by omega)) u2
              have e38' : M3 38 0 kk = q.1 := (f3 38 0 kk (by decide)).trans e38
              have W3 : mOP p (st2, s2) M M3 := ⟨i3, mXf_t W2.2.1 (fun f j i q1 q2 => f3 f j i (fun z => q1 (by rw [z]; decide))), fun p9 => by rw [f3 50 0 _ (by decide)]; exact W2.2.2.1 p9, (f3 1 0 50 (by decide)).trans W2.2.2.2.1, u3, fun p' st' h1 h2 h3 => rLg_cg (f3 47 0 p' (by decide)) (fun f k9 hf _ => f3 f 0 _ (by omega)) (W2.2.2.2.2.2 p' st' h1 h2 h3)⟩
              refine ⟨rfl, ?_⟩
              refine d_br (fun h => ?_) (fun h => ?_)
              · simp only [cCmp, cE2, sev, svl, cen, List.cons_append, List.nil_append] at h
                first
                | omega
                | skip
                  refine d_cut [(p : Int), (r : Int), (kk : Int)] (by simp [cE2, sev, svl, cen] <;> omega) ?_
                  exact nxt (st2, s2) M3 w (by dsimp only; omega) hx0 (none (fun z => z.2 (by omega))) W3
              · simp only [cCmp, cE2, sev, svl, cen, List.cons_append, List.nil_append] at h
                first
                | omega
                | skip
                  refine d_row 0 kk (by simp only [cE2, sev, svl, cen, List.cons_append, List.nil_append]; omega) (by simp only [cE2, sev, svl, cen, List.cons_append, List.nil_append]; omega) (by omega) ?_
                  rw [e38']
                  refine d_br (fun h => ?_) (fun h => ?_)
                  · simp only [cCmp, cE2, sev, svl, cen, List.cons_append, List.nil_append] at h
                    first
                    | omega
                    | skip
                      refine d_cut [(p : Int), (r : Int), (kk : Int), 1] (by simp [cE2, sev, svl, cen] <;> omega) ?_
                      exact l80 1 M3 (Or.inl ⟨rfl, by omega⟩) q4.1 q4.2.1 q4.2.2 (by omega) W3
                  · simp only [cCmp, cE2, sev, svl, cen, List.cons_append, List.nil_append] at h
                    first
                    | omega
                    | skip
                      refine d_row 0 kk (by simp only [cE2, sev, svl, cen, List.cons_append, List.nil_append]; omega) (by simp only [cE2, sev, svl, cen, List.cons_append, List.nil_append]; omega) (by omega) ?_
                      rw [e38']
                      refine d_br (fun h => ?_) (fun h => ?_)
                      · simp only [cCmp, cE2, sev, svl, cen, List.cons_append, List.nil_append] at h
                        first
                        | omega
                        | skip
                          refine d_cut [(p : Int), (r : Int), (kk : Int), 0] (by simp [cE2, sev, svl, cen] <;> omega) ?_
                          exact l80 0 M3 (Or.inr ⟨rfl, by omega⟩) q4.1 q4.2.1 q4.2.2 (by omega) W3
                      · simp only [cCmp, cE2, sev, svl, cen, List.cons_append, List.nil_append] at h
                        first
                        | omega
                        | skip
                          refine d_cut [(p : Int), (r : Int), (kk : Int), 1] (by simp [cE2, sev, svl, cen] <;> omega) ?_
                          exact l80 1 M3 (Or.inl ⟨rfl, by omega⟩) q4.1 q4.2.1 q4.2.2 (by omega) W3
          · refine ⟨rfl, ?_⟩
            refine d_br (fun h => ?_) (fun h => ?_)
            · clear h
              refine d_cut [(p : Int), (r : Int), (kk : Int)] (by simp [cE2, sev, svl, cen] <;> omega) ?_
              exact nxt (st2, s2) M2 w (by dsimp only; omega) hx0 (none (fun z => q4 z.1)) W2
            · simp only [cCmp, cE2, sev, svl, cen, List.cons_append, List.nil_append] at h
              omega
  refine cEnds_at gX10_does_m0 rfl ?_
  refine d_rng (by simp only [clo, chi, cE2, sev, svl, cen, List.cons_append, List.nil_append]; omega) ?_
  refine d_cut [(p : Int), (r : Int), ((12 * r + 0 : Nat) : Int)] (by simp [cE2, sev, svl, cen] <;> omega) ?_
  exact loop ls 0 (st, M 1 0 50) M (by omega) (fun j => by rw [Nat.zero_add]) hw (by dsimp only; omega) (by dsimp only; omega) self hR0.symm
end CR7
