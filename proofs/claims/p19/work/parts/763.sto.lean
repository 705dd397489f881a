/-! stories: what the symbolic engine's contracts say of those that are not told by function -/
theorem scl_7 {i : Nat} : scl tg 7 i = i := rfl
theorem scl_1 {i : Nat} : scl tg 1 i = i := rfl
theorem dou_fr {f i : Nat} (y1 : f ≠ 65) (y2 : f ≠ 66) (y3 : f ≠ 67) (y4 : f ≠ 70) (y5 : ¬ (f = 7 ∧ (i = 3 ∨ i = 4))) : (f, scl tg f i) ∉ [(7, 3), (7, 4), (65, 0), (66, 0), (67, 0), (70, 0)] := by
  intro z
  simp only [List.mem_cons, Prod.mk.injEq, List.not_mem_nil, or_false] at z
  by_cases e : f = 7
  · subst e
    rw [scl_7] at z
    omega
  · omega
section CST
variable {l : Launch} {dC : Nat → ClassId} {dI : Nat → Nat → Nat} {cA : Nat → ClassId} {aK aV sa : Nat} {tx : String} {ad : SAd}
theorem t_one (hst : l.stackTraces = false) {D : Nat} (hD : 5 ≤ D) {M : SMem} (hI : sI tg M) (hX : sX M) : cBG tm tf (zEX aK aV sa tx) l dC dI cA ad 0 D kX6_doubtfulOne [(2, 7, 0)] M (fun rr MM => sI tg MM ∧ (∀ f j i, f ≠ 65 → f ≠ 66 → f ≠ 67 → f ≠ 70 → ¬ (f = 7 ∧ (i = 3 ∨ i = 4)) → MM f j i = M f j i) ∧ ∃ r : Int, rr = [r] ∧ -2147483648 ≤ r ∧ r ≤ 2147483647) := by
  have hC := (tAll (l := l) (dC := dC) (dI := dI) (cA := cA) (aK := aK) (aV := aV) (sa := sa) (tx := tx) hst 99999 79 [tC55] rfl tC55 (List.Mem.head _) (by decide)).2
  have hB := cBG_of (ad := ad) (scrS := 0) (ρ0 := fun _ => 0) (as := [(2, 7, 0)]) hC (by decide) (by decide) (by decide) rfl hI hX ⟨fun q hq => absurd (show q ∈ [] from hq) List.not_mem_nil, fun q hq => absurd (show q ∈ [] from hq) List.not_mem_nil⟩ ⟨fun q hq => absurd (show q ∈ [] from hq) List.not_mem_nil, fun q hq => absurd (show q ∈ [] from hq) List.not_mem_nil⟩
  refine cBG_post (cBG_mono hD hB) (fun rr MM h => ?_)
  obtain ⟨i1, x1, f1, X, hX9, ρ', -, a2, -, hrr⟩ := h
  have hX9 : X = ([(0, 0, (0, [(0, 1)]))], (([], []), 1, ([(0, -2147483648, 2147483647)], []), 0, 0)) := List.mem_singleton.mp hX9
  subst hX9
  have b := a2.1 (0, -2147483648, 2147483647) (List.Mem.head _)
  refine ⟨i1, fun f j i y1 y2 y3 y4 y5 => f1 f j i (dou_fr y1 y2 y3 y4 y5), ρ' 0, ?_, b.1, b.2⟩
  rw [hrr]
  simp [sev, svl]
theorem t_two (hst : l.stackTraces = false) {D : Nat} (hD : 5 ≤ D) {M : SMem} (hI : sI tg M) (hX : sX M) : cBG tm tf (zEX aK aV sa tx) l dC dI cA ad 0 D kX6_doubtfulTwo [(2, 7, 0)] M (fun rr MM => sI tg MM ∧ (∀ f j i, f ≠ 65 → f ≠ 66 → f ≠ 67 → f ≠ 70 → ¬ (f = 7 ∧ (i = 3 ∨ i = 4)) → MM f j i = M f j i) ∧ ∃ r : Int, rr = [r] ∧ -2147483648 ≤ r ∧ r ≤ 2147483647) := by
  have hC := (tAll (l := l) (dC := dC) (dI := dI) (cA := cA) (aK := aK) (aV := aV) (sa := sa) (tx := tx) hst 99999 81 [tC56] rfl tC56 (List.Mem.head _) (by decide)).2
  have hB := cBG_of (ad := ad) (scrS := 0) (ρ0 := fun _ => 0) (as := [(2, 7, 0)]) hC (by decide) (by decide) (by decide) rfl hI hX ⟨fun q hq => absurd (show q ∈ [] from hq) List.not_mem_nil, fun q hq => absurd (show q ∈ [] from hq) List.not_mem_nil⟩ ⟨fun q hq => absurd (show q ∈ [] from hq) List.not_mem_nil, fun q hq => absurd (show q ∈ [] from hq) List.not_mem_nil⟩
  refine cBG_post (cBG_mono hD hB) (fun rr MM h => ?_)
  obtain ⟨i1, x1, f1, X, hX9, ρ', -, a2, -, hrr⟩ := h
  have hX9 : X = ([(0, 0, (0, [(0, 1)]))], (([], []), 1, ([(0, -2147483648, 2147483647)], []), 0, 0)) := List.mem_singleton.mp hX9
  subst hX9
  have b := a2.1 (0, -2147483648, 2147483647) (List.Mem.head _)
  refine ⟨i1, fun f j i y1 y2 y3 y4 y5 => f1 f j i (dou_fr y1 y2 y3 y4 y5), ρ' 0, ?_, b.1, b.2⟩
  rw [hrr]
  simp [sev, svl]
theorem t_begins (hst : l.stackTraces = false) {D : Nat} (hD : 1 ≤ D) {M : SMem} {x : Int} (hx : -2147483648 ≤ x ∧ x ≤ 2147483647) (hI : sI tg M) (hX : sX M) : cBG tm tf (zEX aK aV sa tx) l dC dI cA ad 0 D kX10_beginsStories [(2, 1, 0), (0, 0, x)] M (fun rr MM => rr = [] ∧ sI tg MM ∧ sX MM ∧ MM 1 0 32 = 0 ∧ ∀ f j i, f ≠ 34 → f ≠ 35 → ¬ (f = 1 ∧ (i = 32 ∨ i = 34)) → MM f j i = M f j i) := by
  have hC := (tAll (l := l) (dC := dC) (dI := dI) (cA := cA) (aK := aK) (aV := aV) (sa := sa) (tx := tx) hst 99999 205 [tC197] rfl tC197 (List.Mem.head _) (by decide)).2
  have hB := cBG_of (ad := ad) (scrS := 0) (ρ0 := fun _ => x) (as := [(2, 1, 0), (0, 0, x)]) hC (by decide) (by decide) (by decide) (by simp [tC197, sev, svl]) hI hX ⟨fun q hq => (by
    obtain rfl := List.mem_singleton.mp (show q ∈ [(0, -2147483648, 2147483647)] from hq)
    exact hx), fun q hq => absurd (show q ∈ [] from hq) List.not_mem_nil⟩ ⟨fun q hq => absurd (show q ∈ [] from hq) List.not_mem_nil, fun q hq => absurd (show q ∈ [] from hq) List.not_mem_nil⟩
  refine cBG_post (cBG_mono hD hB) (fun rr MM h => ?_)
  obtain ⟨i1, x1, f1, X, hX9, ρ', -, -, a3, hrr⟩ := h
  have hX9 : X = ([], (([(1, (0, []), (32, []), (0, []))], []), 1, ([], []), 0, 0)) := List.mem_singleton.mp hX9
  subst hX9
  refine ⟨hrr, i1, x1, ?_, fun f j i y1 y2 y3 => f1 f j i (fun z => ?_)⟩
  · obtain ⟨jj, ii, e1, e2, e3⟩ := a3.1 (1, (0, []), (32, []), (0, [])) (List.Mem.head _)
    simp only [sev, svl] at e1 e2 e3
    have w1 : jj = 0 := by omega
    have w2 : ii = 32 := by omega
    subst w1 w2
    omega
  · have z : (f, scl tg f i) ∈ [(1, 32), (1, 34), (34, 0), (35, 0)] := z
    simp only [List.mem_cons, Prod.mk.injEq, List.not_mem_nil, or_false] at z
    by_cases e : f = 1
    · subst e
      rw [scl_1] at z
      omega
    · omega
theorem t_tells (hst : l.stackTraces = false) {D : Nat} (hD : 13 ≤ D) {M : SMem} (h32 : M 1 0 32 = 0) (hI : sI tg M) (hX : sX M) : cBG tm tf (zEX aK aV sa tx) l dC dI cA ad 0 D kX10_tells [(2, 1, 0), (0, 0, 0), (0, 0, 1)] M (fun rr MM => rr = [] ∧ sI tg MM ∧ sX MM ∧ ∀ f j i, f ≠ 34 → f ≠ 36 → ¬ (f = 1 ∧ i = 32) → MM f j i = M f j i) := by
  have hC := (tAll (l := l) (dC := dC) (dI := dI) (cA := cA) (aK := aK) (aV := aV) (sa := sa) (tx := tx) hst 99999 199 [tC172, tC191, tC192, tC193, tC194, tC195, tC196] rfl tC196 (List.Mem.tail _ (List.Mem.tail _ (List.Mem.tail _ (List.Mem.tail _ (List.Mem.tail _ (List.Mem.tail _ (List.Mem.head _))))))) (by decide)).2
  have hB := cBG_of (ad := ad) (scrS := 0) (ρ0 := fun t => if t = 0 then 1 else 0) (as := [(2, 1, 0), (0, 0, 0), (0, 0, 1)]) hC (by decide) (by decide) (by decide) (by simp [tC196, sev, svl]) hI hX ⟨fun q hq => (by
    have hq : q ∈ [(0, 0, 1), (1, 0, 0)] := hq
    simp only [List.mem_cons, List.not_mem_nil, or_false] at hq
    rcases hq with rfl | rfl
    · exact ⟨by decide, by decide⟩
    · exact ⟨by decide, by decide⟩), fun q hq => absurd (show q ∈ [] from hq) List.not_mem_nil⟩ ⟨fun q hq => (by
    obtain rfl := List.mem_singleton.mp (show q ∈ [(1, (0, []), (32, []), (0, [(1, 1)]))] from hq)
    exact ⟨0, 32, rfl, rfl, by simp [sev, svl, h32]⟩), fun q hq => absurd (show q ∈ [] from hq) List.not_mem_nil⟩
  refine cBG_post (cBG_mono hD hB) (fun rr MM h => ?_)
  obtain ⟨i1, x1, f1, X, hX9, ρ', -, -, -, hrr⟩ := h
  have hX9 : X = ([], (([(1, (0, []), (32, []), (0, [(2, 1)]))], []), 3, ([(2, 0, 46656)], []), 0, 0)) := List.mem_singleton.mp hX9
  subst hX9
  refine ⟨hrr, i1, x1, fun f j i y1 y2 y3 => f1 f j i (fun z => ?_)⟩
  have z : (f, scl tg f i) ∈ [(1, 32), (34, 0), (36, 0)] := z
  simp only [List.mem_cons, Prod.mk.injEq, List.not_mem_nil, or_false] at z
  by_cases e : f = 1
  · subst e
    rw [scl_1] at z
    omega
  · omega
theorem t_has (hst : l.stackTraces = false) (hp : cPl tm tc tf (zEX aK aV sa tx)) {d : Nat} {M : SMem} {x : Int} (hI : sI tg M) (hX : sX M) (hx : -2147483648 ≤ x ∧ x ≤ 2147483647) : cBG tm tf (zEX aK aV sa tx) l dC dI cA ad 0 (d + 20) kX10_hasStory [(2, 1, 0), (0, 0, x)] M (fun rr MM => sI tg MM ∧ sX MM ∧ (∀ f j i, f ≠ 34 → f ≠ 35 → f ≠ 36 → ¬ (f = 1 ∧ (i = 32 ∨ i = 34)) → MM f j i = M f j i) ∧ (rr = [0] ∨ rr = [1])) := by
  refine cMeth (v := [x]) (Fd := 40) hp (by decide) gX10_hasStory_ok gX10_hasStory_m0 (by simp [cAs, cE2, sev, svl, cen]) ?_
  refine cEnds_at gX10_hasStory_m0 rfl ?_
  refine d_call (t_begins hst (D := d + 19) (by omega) hx hI hX) (by simp [cAs, cE2, sev, svl, cen]) ?_
  rintro rr M1 ⟨rfl, i1, x1, e32, f1⟩
  refine ⟨rfl, ?_⟩
  refine d_call (t_tells hst (D := d + 19) (by omega) e32 i1 x1) (by simp [cAs, cE2, sev, svl, cen]) ?_
  rintro rr M2 ⟨rfl, i2, x2, f2⟩
  refine ⟨rfl, ?_⟩
  have fr : ∀ f j i, f ≠ 34 → f ≠ 35 → f ≠ 36 → ¬ (f = 1 ∧ (i = 32 ∨ i = 34)) → M2 f j i = M f j i := fun f j i y1 y2 y3 y4 => by
    rw [f2 f j i y1 y3 (fun q => y4 ⟨q.1, Or.inl q.2⟩), f1 f j i y1 y2 y4]
  refine d_fld 0 (by simp only [cE2, sev, svl, cen, List.cons_append, List.nil_append]; omega) ?_
  refine d_br (fun h => ?_) (fun h => ?_)
  · exact d_ret [0] rfl (by decide) ⟨i2, x2, fr, Or.inl rfl⟩
  · exact d_ret [1] rfl (by decide) ⟨i2, x2, fr, Or.inr rfl⟩
theorem tBu (hst : l.stackTraces = false) (hp : cPl tm tc tf (zEX aK aV sa tx)) : sBu (zEX aK aV sa tx) l dC dI cA ad := fun d =>
  ⟨fun M hI hX => t_one hst (by omega) hI hX, fun M hI hX => t_two hst (by omega) hI hX, fun M x hI hX hx => t_has hst hp hI hX hx⟩
end CST
