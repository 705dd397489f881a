/-! the class reads lines -/
abbrev OLn : Type := Int × Int × List Int
/-- one line from its first token on: where the next one stands, and what it says -/
def oLin (T : Nat → Int) (L : Nat) (U : Nat → Int) (lno s : Nat) : Except Int (Nat × OLn) :=
  if 3 < oK T L s then .error (1 + 16 * (s : Int)) else if 12 ≤ lno then .error (5 + 16 * (s : Int))
  else if oK T L (oN T L s) ≠ 15 then .error (1 + 16 * (oN T L s : Int)) else if 8 ≤ oV T L (oN T L s) then .error (4 + 16 * (oN T L s : Int))
  else if U (oV T L (oN T L s)).toNat = 0 then .error (2 + 16 * (oN T L s : Int))
  else if oK T L (oN T L (oN T L s)) ≠ 4 then .error (1 + 16 * (oN T L (oN T L s) : Int))
  else match oRu (oK T L) (oV T L) (oN T L) L (oN T L (oN T L (oN T L s))) [] 0 true [] with
    | .error f => .error f
    | .ok q => .ok (oN T L q.1, ((oK T L s : Int), oV T L (oN T L s), q.2))
def oRd (T : Nat → Int) (L : Nat) (U : Nat → Int) : Nat → Nat → Nat → List OLn → Except Int (List OLn)
  | 0, _, _, _ => .error 0
  | m + 1, lno, s, ls => if oK T L s = 24 then .ok ls else match oLin T L U lno s with
    | .error f => .error f
    | .ok q => oRd T L U m (lno + 1) q.1 (ls ++ [q.2])
abbrev oPl (f i : Nat) : Prop := oPw f i ∨ f = 101 ∨ f = 102 ∨ f = 103 ∨ f = 104 ∨ (f = 75 ∧ i = 0)
theorem oTS_l {T : Nat → Int} {L s : Nat} {M : SMem} {f j i : Nat} {z : Int} (h : f = 101 ∨ f = 102 ∨ f = 103 ∨ f = 104 ∨ f = 75) (g : oTS T L s M) : oTS T L s (supd M f j i z) := by
  obtain ⟨g1, g2, g3, g4, g5, g6⟩ := g
  refine ⟨?_, by rw [supd_f (by omega)]; exact g2, by rw [supd_f (by omega)]; exact g3, by rw [supd_f (by omega)]; exact g4, by rw [supd_f (by omega)]; exact g5, fun q => by rw [supd_f (by omega)]; exact g6 q⟩
  funext k
  rw [supd_f (by omega)]
  exact congrFun g1 k
def oTG (P : Int → Prop) (Q : Prop) (rr : List Int) : Prop := (∃ f : Int, rr = [0] ∧ P f) ∨ (rr = [1] ∧ Q)
theorem oBG_post {zm : List ZMe} {fm : List SF} {EX : SEx} {l : Launch} {dC : Nat → ClassId} {dI : Nat → Nat → Nat} {cA : Nat → ClassId} {ad : SAd} {scrS d kc : Nat} {as : List CA} {M : SMem} {post post' : List Int → SMem → Prop} (h : cBG zm fm EX l dC dI cA ad scrS d kc as M post) (hq : ∀ rr MM, post rr MM → post' rr MM) : cBG zm fm EX l dC dI cA ad scrS d kc as M post' := by
  intro me hme ws cas hH hs p e R s m args below meth c Q A ls F hP hD hl hend
  refine h me hme ws cas hH hs p e R s m args below meth c Q A ls F hP hD hl (fun pc' ls' r ws' H locs nc ns h1 h2 h3 h4 h5 h6 h7 => ?_)
  obtain ⟨r9, M', h8, h9, h10⟩ := h2
  exact hend pc' ls' r ws' H locs nc ns h1 ⟨r9, M', h8, h9, hq _ _ h10⟩ h3 h4 h5 h6 h7
section CO6
variable {EX : SEx} {l : Launch} {dC : Nat → ClassId} {dI : Nat → Nat → Nat} {cA : Nat → ClassId} {ad : SAd} {scrS d : Nat}
theorem b_adv (hp : cPl tm tc tf EX) (hch : cCh EX l dC dI cA scrS) {T : Nat → Int} {L s : Nat} {M : SMem} (hI : sI tg M) (hT : oTS T L s M) (hs : s ≤ L) (h9 : L ≤ 1000) : cBG tm tf EX l dC dI cA ad scrS (d + 6) kX4_advance [(2, 9, 0)] M (fun rr MM => rr = [] ∧ sI tg MM ∧ oFm oPa M MM ∧ oTS T L (oN T L s) MM) :=
  oBG_post (b_advance (d := d) hp hch (p := oE T L s) (L := L) hI hT.2.2.2.1 hT.2.1 (oE_le hs) h9) (fun rr MM h => ⟨h.1, h.2.1, h.2.2.1, oTS_a hT h.2⟩)
theorem b_readTarget (hp : cPl tm tc tf EX) (hch : cCh EX l dC dI cA scrS) {T U : Nat → Int} {L s lno : Nat} {M : SMem} (hI : sI tg M) (hT : oTS T L s M) (hU : M 58 0 = U) (hl : lno < 12) (hsL : s ≤ L) (h9 : L ≤ 1000) : cBG tm tf EX l dC dI cA ad scrS (d + 7) kX4_readTarget [(2, 9, 0), (0, 0, (lno : Int))] M (fun rr MM => sI tg MM ∧ oFm oPl M MM ∧ (∀ f k, k ≠ lno → (f = 101 ∨ f = 102 ∨ f = 103 ∨ f = 104) → MM f 0 k = M f 0 k) ∧ MM 101 0 lno = M 101 0 lno ∧ MM 75 0 1 = M 75 0 1 ∧ MM 105 0 = M 105 0 ∧ oTG (fun f => MM 9 0 7 = f ∧ ((oK T L s ≠ 15 ∧ f = 1 + 16 * (s : Int)) ∨ (oK T L s = 15 ∧ 8 ≤ oV T L s ∧ f = 4 + 16 * (s : Int)) ∨ (oK T L s = 15 ∧ oV T L s < 8 ∧ U (oV T L s).toNat = 0 ∧ f = 2 + 16 * (s : Int)))) (oK T L s = 15 ∧ oV T L s < 8 ∧ U (oV T L s).toNat ≠ 0 ∧ MM 102 0 lno = oV T L s ∧ oTS T L (oN T L s) MM) rr) := by
  have hT0 := hT
  obtain ⟨t1, t2, t3, t4, t5, t6⟩ := hT
  have hvb : oK T L s = 15 → M 9 0 6 = oV T L s ∧ 0 ≤ oV T L s ∧ oV T L s < 10000 := fun q => ⟨t6 q, oV_bd q⟩
  have hr : ∀ k : Int, 0 ≤ k → k ≤ 5 → sI tg (supd M 9 0 7 (k + 16 * (s : Int))) ∧ oFm oPl M (supd M 9 0 7 (k + 16 * (s : Int))) ∧ (∀ f k9, k9 ≠ lno → (f = 101 ∨ f = 102 ∨ f = 103 ∨ f = 104) → supd M 9 0 7 (k + 16 * (s : Int)) f 0 k9 = M f 0 k9) ∧ supd M 9 0 7 (k + 16 * (s : Int)) 101 0 lno = M 101 0 lno ∧ supd M 9 0 7 (k + 16 * (s : Int)) 75 0 1 = M 75 0 1 ∧ supd M 9 0 7 (k + 16 * (s : Int)) 105 0 = M 105 0 := fun k k0 k5 => ⟨wI hI (lo := 0) (hi := 46655) rfl ⟨by omega, by omega⟩, oFm_p (Or.inl (Or.inl (Or.inr (Or.inr (Or.inl ⟨rfl, Or.inl rfl⟩))))) oFm_r, fun f k9 _ hf => supd_f (by omega), supd_f (by decide), supd_f (by decide), by funext i; exact supd_f (by decide)⟩
  refine cMeth (v := [(lno : Int)]) (Fd := 90) hp (by decide) gX4_readTarget_ok gX4_readTarget_m0 (by simp [cAs, cE2, sev, svl, cen]) ?_
  refine cEnds_at gX4_readTarget_m0 rfl ?_
  refine d_fld 0 (by simp only [cE2, sev, svl, cen, List.cons_append, List.nil_append]; omega) ?_
  rw [t5]
  refine d_br (fun h => ?_) (fun h => ?_)
  · simp only [cCmp, cE2, sev, svl, cen, List.cons_append, List.nil_append] at h
    first
    | omega
    | skip
      refine d_fld 0 (by simp only [cE2, sev, svl, cen, List.cons_append, List.nil_append]; omega) ?_
      rw [(hvb (by omega)).1]
      refine d_br (fun h => ?_) (fun h => ?_)
      · simp only [cCmp, cE2, sev, svl, cen, List.cons_append, List.nil_append] at h
        first
        | omega
        | skip
          refine d_fld 0 (by simp only [cE2, sev, svl, cen, List.cons_append, List.nil_append]; omega) ?_
          rw [(hvb (by omega)).1]
          refine d_call (b_isTold (d := d + 4) hp (a := (oV T L s))) (by simp [cAs, cE2, sev, svl, cen] <;> omega) ?_
          intro rr M' hq
          obtain ⟨hM', hq⟩ := hq
          rw [hM']
          rcases hq with ⟨rfl, q4⟩ | ⟨rfl, q4⟩
          · refine ⟨rfl, ?_⟩
            refine d_br (fun h => ?_) (fun h => ?_)
            · clear h
              refine d_fld 0 (by simp only [cE2, sev, svl, cen, List.cons_append, List.nil_append]; omega) ?_
              rw [(hvb (by omega)).1]
              refine d_set 0 lno (oV T L s) (by simp only [cE2, sev, svl, cen, List.cons_append, List.nil_append]; omega) (by simp only [cE2, sev, svl, cen, List.cons_append, List.nil_append]; omega) (by omega) (by simp only [cE2, sev, svl, cen, List.cons_append, List.nil_append]; omega) ?_
              refine d_call (b_adv (d := d) hp hch (s := s) (wI hI (lo := 0) (hi := 7) rfl ⟨by have := hvb (by omega); omega, by omega⟩) (oTS_l (by omega) hT0) hsL h9) (by simp [cAs, cE2, sev, svl, cen] <;> omega) ?_
              intro rr M' hq
              obtain ⟨rfl, i1, f1, t9⟩ := hq
              refine ⟨rfl, ?_⟩
              exact d_ret [1] rfl (by decide) ⟨i1, oFm_t (oFm_p (Or.inr (Or.inr (Or.inl rfl))) oFm_r) (oFm_w (fun _ _ q => Or.inl (Or.inr q)) f1), fun f k9 q1 q2 => (f1 f 0 k9 (by omega)).trans (supd_n (by omega)), (f1 101 0 lno (by omega)).trans (supd_f (by decide)), (f1 75 0 1 (by omega)).trans (supd_f (by decide)), by funext i; exact (f1 105 0 i (by omega)).trans (supd_f (by decide)), Or.inr ⟨rfl, by omega, by omega, by rw [← hU]; exact q4.2.2, (f1 102 0 lno (by omega)).trans (supd_at _ _ _ _ _), t9⟩⟩
            · simp only [cCmp, cE2, sev, svl, cen, List.cons_append, List.nil_append] at h
              omega
          · refine ⟨rfl, ?_⟩
            refine d_br (fun h => ?_) (fun h => ?_)
            · simp only [cCmp, cE2, sev, svl, cen, List.cons_append, List.nil_append] at h
              omega
            · clear h
              refine d_call (b_refuse hp (k := 2) (s := s) t3 (by omega) ⟨by omega, by omega⟩) (by simp [cAs, cE2, sev, svl, cen] <;> omega) ?_
              intro rr M' hq
              obtain ⟨rfl, hM'⟩ := hq
              refine ⟨rfl, ?_⟩
              rw [hM']
              refine d_ret [0] rfl (by decide) ?_
              obtain ⟨r1, r2, r3, r4, r5, r6⟩ := hr 2 (by omega) (by omega)
              exact ⟨r1, r2, r3, r4, r5, r6, Or.inl ⟨_, rfl, supd_at _ _ _ _ _, Or.inr (Or.inr ⟨by omega, by omega, by rw [← hU]; have := hvb (by omega); exact Classical.byContradiction (fun q => q4 ⟨by omega, by omega, q⟩), rfl⟩)⟩⟩
      · simp only [cCmp, cE2, sev, svl, cen, List.cons_append, List.nil_append] at h
        first
        | omega
        | skip
          refine d_call (b_refuse hp (k := 4) (s := s) t3 (by omega) ⟨by omega, by omega⟩) (by simp [cAs, cE2, sev, svl, cen] <;> omega) ?_
          intro rr M' hq
          obtain ⟨rfl, hM'⟩ := hq
          refine ⟨rfl, ?_⟩
          rw [hM']
          refine d_ret [0] rfl (by decide) ?_
          obtain ⟨r1, r2, r3, r4, r5, r6⟩ := hr 4 (by omega) (by omega)
          exact ⟨r1, r2, r3, r4, r5, r6, Or.inl ⟨_, rfl, supd_at _ _ _ _ _, Or.inr (Or.inl ⟨by omega, by omega, rfl⟩)⟩⟩
  · simp only [cCmp, cE2, sev, svl, cen, List.cons_append, List.nil_append] at h
    first
    | omega
    | skip
      refine d_call (b_refuse hp (k := 1) (s := s) t3 (by omega) ⟨by omega, by omega⟩) (by simp [cAs, cE2, sev, svl, cen] <;> omega) ?_
      intro rr M' hq
      obtain ⟨rfl, hM'⟩ := hq
      refine ⟨rfl, ?_⟩
      rw [hM']
      refine d_ret [0] rfl (by decide) ?_
      obtain ⟨r1, r2, r3, r4, r5, r6⟩ := hr 1 (by omega) (by omega)
      exact ⟨r1, r2, r3, r4, r5, r6, Or.inl ⟨_, rfl, supd_at _ _ _ _ _, Or.inl ⟨by omega, rfl⟩⟩⟩
/-- behind a line -/
def oLQ (T : Nat → Int) (L : Nat) (U : Nat → Int) (lno s : Nat) (c : List Int) (rr : List Int) (MM : SMem) : Prop := ((∃ f, oLin T L U lno s = .error f ∧ rr = [0] ∧ MM 9 0 7 = f) ∨ ∃ q, oLin T L U lno s = .ok q ∧ rr = [1] ∧ oTS T L q.1 MM ∧ q.1 ≤ L ∧ MM 75 0 0 = (lno : Int) + 1 ∧ MM 101 0 lno = q.2.1 + 1 ∧ MM 102 0 lno = q.2.2.1 ∧ MM 103 0 lno = (c.length : Int) ∧ MM 104 0 lno = ((c ++ q.2.2.2).length : Int) ∧ MM 75 0 1 = ((c ++ q.2.2.2).length : Int) ∧ oCd (MM 105 0) (c ++ q.2.2.2) ∧ (c ++ q.2.2.2).length ≤ q.1)
abbrev oLP (T : Nat → Int) (L : Nat) (U : Nat → Int) (lno s : Nat) (c : List Int) (M : SMem) (rr : List Int) (MM : SMem) : Prop := sI tg MM ∧ oFm oPl M MM ∧ (∀ f k, k ≠ lno → (f = 101 ∨ f = 102 ∨ f = 103 ∨ f = 104) → MM f 0 k = M f 0 k) ∧ oLQ T L U lno s c rr MM
theorem oLP_rr {T : Nat → Int} {L : Nat} {U : Nat → Int} {lno s : Nat} {c : List Int} {M : SMem} {rr : List Int} {MM : SMem} (h : oLP T L U lno s c M rr MM) : ∃ z : Int, rr = [z] ∧ (z = 0 ∨ z = 1) := by
  rcases h.2.2.2 with ⟨f, -, e, -⟩ | ⟨y, -, e, -⟩
  · exact ⟨0, e, Or.inl rfl⟩
  · exact ⟨1, e, Or.inr rfl⟩
theorem oWP_rr {T : Nat → Int} {L : Nat} {r : ORs} {M : SMem} {rr : List Int} {MM : SMem} (h : oWP T L r M rr MM) : ∃ z : Int, rr = [z] ∧ (z = 0 ∨ z = 1) := by
  rcases h.2.2 with ⟨f, -, e, -⟩ | ⟨y, c, -, e, -⟩
  · exact ⟨0, e, Or.inl rfl⟩
  · exact ⟨1, e, Or.inr rfl⟩
theorem oTG_rr {P : Int → Prop} {Q : Prop} {rr : List Int} (h : oTG P Q rr) : ∃ z : Int, rr = [z] ∧ (z = 0 ∨ z = 1) := by
  rcases h with ⟨f, e, -⟩ | ⟨e, -⟩
  · exact ⟨0, e, Or.inl rfl⟩
  · exact ⟨1, e, Or.inr rfl⟩
theorem oTG_1 {P : Int → Prop} {Q : Prop} (h : oTG P Q [1]) : Q := by
  rcases h with ⟨f, e, -⟩ | ⟨-, q⟩
  · exact absurd (List.cons.inj e).1 (by decide)
  · exact q
theorem oTG_0 {P : Int → Prop} {Q : Prop} (h : oTG P Q [0]) : ∃ f, P f := by
  rcases h with ⟨f, -, q⟩ | ⟨e, -⟩
  · exact ⟨f, q⟩
  · exact absurd (List.cons.inj e).1 (by decide)
theorem oRu_pre {K : Nat → Nat} {V : Nat → Int} {N : Nat → Nat} {L s : Nat} {st : List Nat} {dd : Nat} {pn : Bool} {c0 : List Int} : oRu K V N L s st dd pn c0 = oPre c0 (oRu K V N L s st dd pn []) := by
  have h := oGo_pre (K := K) (V := V) (N := N) c0 (L + 1 - s) s st dd pn []
  rw [List.append_nil] at h
  exact h
theorem oLin_ok {T U : Nat → Int} {L lno s s' : Nat} {c c' : List Int} (h1 : oK T L s ≤ 3) (h2 : lno < 12) (h3 : oK T L (oN T L s) = 15) (h4 : oV T L (oN T L s) < 8) (h5 : U (oV T L (oN T L s)).toNat ≠ 0) (h6 : oK T L (oN T L (oN T L s)) = 4) (er : oRu (oK T L) (oV T L) (oN T L) L (oN T L (oN T L (oN T L s))) [] 0 true c = .ok (s', c')) : ∃ cc, c' = c ++ cc ∧ oLin T L U lno s = .ok (oN T L s', ((oK T L s : Int), oV T L (oN T L s), cc)) := by
  rw [oRu_pre] at er
  unfold oLin
  rw [if_neg (by omega), if_neg (by omega), if_neg (by omega), if_neg (by omega), if_neg h5, if_neg (by omega)]
  cases hr : oRu (oK T L) (oV T L) (oN T L) L (oN T L (oN T L (oN T L s))) [] 0 true [] with
  | error f => rw [hr] at er; cases er
  | ok q =>
    rw [hr] at er
    cases er
    exact ⟨q.2, rfl, rfl⟩
theorem oLin_er {T U : Nat → Int} {L lno s : Nat} {c : List Int} {f : Int} (h1 : oK T L s ≤ 3) (h2 : lno < 12) (h3 : oK T L (oN T L s) = 15) (h4 : oV T L (oN T L s) < 8) (h5 : U (oV T L (oN T L s)).toNat ≠ 0) (h6 : oK T L (oN T L (oN T L s)) = 4) (er : oRu (oK T L) (oV T L) (oN T L) L (oN T L (oN T L (oN T L s))) [] 0 true c = .error f) : oLin T L U lno s = .error f := by
  rw [oRu_pre] at er
  unfold oLin
  rw [if_neg (by omega), if_neg (by omega), if_neg (by omega), if_neg (by omega), if_neg h5, if_neg (by omega)]
  cases hr : oRu (oK T L) (oV T L) (oN T L) L (oN T L (oN T L (oN T L s))) [] 0 true [] with
  | error g => rw [hr] at er; cases er; rfl
  | ok q => rw [hr] at er; cases er
theorem oWP_0 {T : Nat → Int} {L : Nat} {r : ORs} {M MM : SMem} (h : oWP T L r M [0] MM) : ∃ f, r = .error f ∧ MM 9 0 7 = f := by
  rcases h.2.2 with ⟨f, e1, -, e2⟩ | ⟨y, c, -, e, -⟩
  · exact ⟨f, e1, e2⟩
  · exact absurd (List.cons.inj e).1 (by decide)
theorem oWP_1 {T : Nat → Int} {L : Nat} {r : ORs} {M MM : SMem} (h : oWP T L r M [1] MM) : ∃ (s' : Nat) (c' : List Int), r = .ok (s', c') ∧ oTS T L s' MM ∧ oK T L s' = 23 ∧ s' < L ∧ MM 75 0 1 = (c'.length : Int) ∧ oCd (MM 105 0) c' ∧ c'.length ≤ s' := by
  rcases h.2.2 with ⟨f, -, e, -⟩ | ⟨y, c, e1, -, q⟩
  · exact absurd (List.cons.inj e).1 (by decide)
  · exact ⟨y, c, e1, q⟩
set_option maxHeartbeats 1000000 in
theorem b_readLine (hp : cPl tm tc tf EX) (hch : cCh EX l dC dI cA scrS) {T U : Nat → Int} {L s lno : Nat} {c : List Int} {M : SMem} (hI : sI tg M) (hT : oTS T L s M) (hU : M 58 0 = U) (hn : M 75 0 1 = (c.length : Int)) (hcd : oCd (M 105 0) c) (hcs : c.length ≤ s) (hl : lno ≤ 12) (hsL : s ≤ L) (hK : oK T L s ≠ 24) (h9 : L ≤ 1000) : cBG tm tf EX l dC dI cA ad scrS (d + 8) kX4_readLine [(2, 9, 0), (0, 0, (lno : Int))] M (fun rr MM => oLP T L U lno s c M rr MM) := by
  have hT0 := hT
  obtain ⟨t1, t2, t3, t4, t5, t6⟩ := hT
  have hN := (oTk_of (T := T) (L := L)).1
  have hlt := oK_lt hK
  have hN0 := hN s hlt
  obtain ⟨s1, hs1⟩ : ∃ s1, s1 = oN T L s := ⟨_, rfl⟩
  rw [← hs1] at hN0
  have hlt1 : oK T L s1 = 15 → s1 < L := fun q => oK_lt (T := T) (by omega)
  have hr : ∀ k : Int, 0 ≤ k → k ≤ 5 → ∀ {MW : SMem}, sI tg MW → oFm oPl M MW → (∀ f k9, k9 ≠ lno → (f = 101 ∨ f = 102 ∨ f = 103 ∨ f = 104) → MW f 0 k9 = M f 0 k9) → ∀ {x : Nat}, x ≤ 1000 → sI tg (supd MW 9 0 7 (k + 16 * (x : Int))) ∧ oFm oPl M (supd MW 9 0 7 (k + 16 * (x : Int))) ∧ (∀ f k9, k9 ≠ lno → (f = 101 ∨ f = 102 ∨ f = 103 ∨ f = 104) → supd MW 9 0 7 (k + 16 * (x : Int)) f 0 k9 = M f 0 k9) := fun k k0 k5 MW g1 g2 g3 x hx => ⟨wI g1 (lo := 0) (hi := 46655) rfl ⟨by omega, by omega⟩, oFm_p (Or.inl (Or.inl (Or.inr (Or.inr (Or.inl ⟨rfl, Or.inl rfl⟩))))) g2, fun f k9 q1 q2 => (supd_f (by omega)).trans (g3 f k9 q1 q2)⟩
  have hr0 : ∀ f k9, k9 ≠ lno → (f = 101 ∨ f = 102 ∨ f = 103 ∨ f = 104) → M f 0 k9 = M f 0 k9 := fun _ _ _ _ => rfl
  have l1 : 3 < oK T L s → oLin T L U lno s = .error (1 + 16 * (s : Int)) := fun q => if_pos q
  have l5 : ¬ 3 < oK T L s → 12 ≤ lno → oLin T L U lno s = .error (5 + 16 * (s : Int)) := fun q1 q2 => by
    unfold oLin
    rw [if_neg q1, if_pos q2]
  refine cMeth (v := [(lno : Int)]) (Fd := 90) hp (by decide) gX4_readLine_ok gX4_readLine_m0 (by simp [cAs, cE2, sev, svl, cen]) ?_
  refine cEnds_at gX4_readLine_m0 rfl ?_
  refine d_fld 0 (by simp only [cE2, sev, svl, cen, List.cons_append, List.nil_append]; omega) ?_
  rw [t5]
  refine d_br (fun h => ?_) (fun h => ?_)
  · simp only [cCmp, cE2, sev, svl, cen, List.cons_append, List.nil_append] at h
    first
    | omega
    | skip
      refine d_br (fun h => ?_) (fun h => ?_)
      · simp only [cCmp, cE2, sev, svl, cen, List.cons_append, List.nil_append] at h
        first
        | omega
        | skip
          refine d_fld 0 (by simp only [cE2, sev, svl, cen, List.cons_append, List.nil_append]; omega) ?_
          rw [t5]
          refine d_rng (by simp only [clo, chi, cE2, sev, svl, cen, List.cons_append, List.nil_append]; omega) ?_
          refine d_set 0 lno (((oK T L s : Nat) : Int) + 1) (by simp only [cE2, sev, svl, cen, List.cons_append, List.nil_append]; omega) (by simp only [cE2, sev, svl, cen, List.cons_append, List.nil_append]; omega) (by omega) (by simp only [cE2, sev, svl, cen, List.cons_append, List.nil_append]; omega) ?_
          refine d_call (b_adv (d := d + 1) hp hch (s := s) (wI hI (lo := 0) (hi := 4) rfl ⟨by omega, by omega⟩) (oTS_l (by omega) hT0) hsL h9) (by simp [cAs, cE2, sev, svl, cen] <;> omega) ?_
          intro rr M1 hq
          obtain ⟨rfl, i1, f1, T1⟩ := hq
          rw [← hs1] at T1
          have n1 : M1 75 0 1 = (c.length : Int) := (f1 75 0 1 (by omega)).trans ((supd_f (by decide)).trans hn)
          have u1 : M1 58 0 = U := by funext i; exact (f1 58 0 i (by omega)).trans ((supd_f (by decide)).trans (congrFun hU i))
          have a1 : M1 101 0 lno = (oK T L s : Int) + 1 := (f1 101 0 lno (by omega)).trans (supd_at _ _ _ _ _)
          have c1 : oCd (M1 105 0) c := oCd_c (fun i _ => (f1 105 0 i (by omega)).trans (supd_f (by decide))) hcd
          have F1 : oFm oPl M M1 := oFm_t (oFm_p (Or.inr (Or.inl rfl)) oFm_r) (oFm_w (fun _ _ q => Or.inl (Or.inr q)) f1)
          have R1 : ∀ f k, k ≠ lno → (f = 101 ∨ f = 102 ∨ f = 103 ∨ f = 104) → M1 f 0 k = M f 0 k := fun f k q1 q2 => (f1 f 0 k (by omega)).trans (supd_n (by omega))
          refine ⟨rfl, ?_⟩
          refine d_call (b_readTarget hp hch (s := s1) (lno := lno) (U := U) i1 T1 u1 (by omega) hN0.2 h9) (by simp [cAs, cE2, sev, svl, cen] <;> omega) ?_
          intro rr M2 hq
          obtain ⟨i2, f2, r2, a2, n2, c2, h2⟩ := hq
          obtain ⟨z, rfl, hz⟩ := oTG_rr h2
          have F2 : oFm oPl M M2 := oFm_t F1 f2
          have R2 : ∀ f k, k ≠ lno → (f = 101 ∨ f = 102 ∨ f = 103 ∨ f = 104) → M2 f 0 k = M f 0 k := fun f k q1 q2 => (r2 f k q1 q2).trans (R1 f k q1 q2)
          refine ⟨rfl, ?_⟩
          refine d_br (fun h => ?_) (fun h => ?_)
          · simp only [cCmp, cE2, sev, svl, cen, List.cons_append, List.nil_append] at h
            first
            | omega
            | skip
              have z1 : z = 1 := by omega
              subst z1
              obtain ⟨k15, v8, hu, a102, T2⟩ := oTG_1 h2
              have hlt1 := hlt1 k15
              have hN1 := hN s1 hlt1
              refine d_fld 0 (by simp only [cE2, sev, svl, cen, List.cons_append, List.nil_append]; omega) ?_
              rw [T2.2.2.2.2.1]
              refine d_br (fun h => ?_) (fun h => ?_)
              · simp only [cCmp, cE2, sev, svl, cen, List.cons_append, List.nil_append] at h
                first
                | omega
                | skip
                  have k4 : oK T L (oN T L s1) = 4 := by omega
                  have hlt2 : oN T L s1 < L := oK_lt (T := T) (by omega)
                  have hN2 := hN _ hlt2
                  refine d_call (b_adv (d := d + 1) hp hch (s := oN T L s1) i2 T2 hN1.2 h9) (by simp [cAs, cE2, sev, svl, cen] <;> omega) ?_
                  intro rr M3 hq
                  obtain ⟨rfl, i3, f3, T3⟩ := hq
                  have n3 : M3 75 0 1 = (c.length : Int) := (f3 75 0 1 (by omega)).trans (n2.trans n1)
                  have c3 : oCd (M3 105 0) c := oCd_c (fun i _ => (f3 105 0 i (by omega)).trans (congrFun c2 i)) c1
                  have F3 : oFm oPl M M3 := oFm_t F2 (oFm_w (fun _ _ q => Or.inl (Or.inr q)) f3)
                  have R3 : ∀ f k, k ≠ lno → (f = 101 ∨ f = 102 ∨ f = 103 ∨ f = 104) → M3 f 0 k = M f 0 k := fun f k q1 q2 => (f3 f 0 k (by omega)).trans (R2 f k q1 q2)
                  refine ⟨rfl, ?_⟩
                  refine d_fld 0 (by simp only [cE2, sev, svl, cen, List.cons_append, List.nil_append]; omega) ?_
                  rw [n3]
                  refine d_set 0 lno ((c.length : Nat) : Int) (by simp only [cE2, sev, svl, cen, List.cons_append, List.nil_append]; omega) (by simp only [cE2, sev, svl, cen, List.cons_append, List.nil_append]; omega) (by omega) (by simp only [cE2, sev, svl, cen, List.cons_append, List.nil_append]; omega) ?_
                  refine d_call (b_readWhen (d := d) hp hch (T := T) (L := L) (s0 := oN T L (oN T L s1)) (c0 := c) (wI i3 (lo := 0) (hi := 1000) rfl ⟨by omega, by omega⟩) (oTS_l (by omega) T3) ((supd_f (by decide)).trans n3) (oCd_c (fun i _ => supd_f (by decide)) c3) (by omega) hN2.2 h9) (by simp [cAs, cE2, sev, svl, cen] <;> omega) ?_
                  intro rr M4 hq
                  have hq9 := hq
                  obtain ⟨z4, rfl, hz4⟩ := oWP_rr hq9
                  have F4 : oFm oPl M M4 := oFm_t (oFm_p (Or.inr (Or.inr (Or.inr (Or.inl rfl)))) F3) (oFm_w (fun _ _ q => Or.inl q) hq9.2.1)
                  have R4 : ∀ f k, k ≠ lno → (f = 101 ∨ f = 102 ∨ f = 103 ∨ f = 104) → M4 f 0 k = M f 0 k := fun f k q1 q2 => (hq9.2.1 f 0 k (by omega)).trans ((supd_n (by omega)).trans (R3 f k q1 q2))
                  refine ⟨rfl, ?_⟩
                  refine d_br (fun h => ?_) (fun h => ?_)
                  · simp only [cCmp, cE2, sev, svl, cen, List.cons_append, List.nil_append] at h
                    first
                    | omega
                    | skip
                      have z41 : z4 = 1 := by omega
                      subst z41
                      obtain ⟨s', c', er, T4, k23, hlt4, n4, cd4, le4⟩ := oWP_1 hq9
                      have hN4 := hN s' hlt4
                      rw [hs1] at er k15 v8 hu k4
                      obtain ⟨cc, ec, el⟩ := oLin_ok (U := U) (lno := lno) (by omega) (by omega) k15 v8 hu k4 er
                      refine d_fld 0 (by simp only [cE2, sev, svl, cen, List.cons_append, List.nil_append]; omega) ?_
                      rw [n4]
                      refine d_set 0 lno ((c'.length : Nat) : Int) (by simp only [cE2, sev, svl, cen, List.cons_append, List.nil_append]; omega) (by simp only [cE2, sev, svl, cen, List.cons_append, List.nil_append]; omega) (by omega) (by simp only [cE2, sev, svl, cen, List.cons_append, List.nil_append]; omega) ?_
                      refine d_rng (by simp only [clo, chi, cE2, sev, svl, cen, List.cons_append, List.nil_append]; omega) ?_
                      refine d_put 0 ((lno : Int) + 1) (by simp only [cE2, sev, svl, cen, List.cons_append, List.nil_append]; omega) (by simp only [cE2, sev, svl, cen, List.cons_append, List.nil_append]; omega) ?_
                      refine d_call (b_adv (d := d + 1) hp hch (s := s') (wI (wI hq9.1 (lo := 0) (hi := 1000) rfl ⟨by omega, by omega⟩) (lo := 0) (hi := 12) rfl ⟨by omega, by omega⟩) (oTS_l (by omega) (oTS_l (by omega) T4)) (by omega) h9) (by simp [cAs, cE2, sev, svl, cen] <;> omega) ?_
                      intro rr M5 hq
                      obtain ⟨rfl, i5, f5, T5⟩ := hq
                      refine ⟨rfl, ?_⟩
                      subst ec
                      refine d_ret [1] rfl (by decide) ⟨i5, oFm_t (oFm_p (Or.inr (Or.inr (Or.inr (Or.inr (Or.inr ⟨rfl, rfl⟩))))) (oFm_p (Or.inr (Or.inr (Or.inr (Or.inr (Or.inl rfl))))) F4)) (oFm_w (fun _ _ q => Or.inl (Or.inr q)) f5), fun f k q1 q2 => (f5 f 0 k (by omega)).trans ((supd_f (by omega)).trans ((supd_n (by omega)).trans (R4 f k q1 q2))), Or.inr ⟨_, el, rfl, T5, hN4.2, (f5 75 0 0 (by omega)).trans (supd_at _ _ _ _ _), ?_, ?_, ?_, ?_, ?_, oCd_c (fun i _ => (f5 105 0 i (by omega)).trans ((supd_f (by decide)).trans (supd_f (by decide)))) cd4, by show (c ++ cc).length ≤ oN T L s'; omega⟩⟩
                      exact (f5 101 0 lno (by omega)).trans ((supd_f (by decide)).trans ((supd_f (by decide)).trans ((hq9.2.1 101 0 lno (by omega)).trans ((supd_f (by decide)).trans ((f3 101 0 lno (by omega)).trans (a2.trans a1))))))
                      rw [← hs1]
                      exact (f5 102 0 lno (by omega)).trans ((supd_f (by decide)).trans ((supd_f (by decide)).trans ((hq9.2.1 102 0 lno (by omega)).trans ((supd_f (by decide)).trans ((f3 102 0 lno (by omega)).trans a102)))))
                      exact (f5 103 0 lno (by omega)).trans ((supd_f (by decide)).trans ((supd_f (by decide)).trans ((hq9.2.1 103 0 lno (by omega)).trans (supd_at _ _ _ _ _))))
                      exact (f5 104 0 lno (by omega)).trans ((supd_f (by decide)).trans (supd_at _ _ _ _ _))
                      exact (f5 75 0 1 (by omega)).trans ((supd_i (by decide)).trans ((supd_f (by decide)).trans n4))
                  · simp only [cCmp, cE2, sev, svl, cen, List.cons_append, List.nil_append] at h
                    first
                    | omega
                    | skip
                      have z40 : z4 = 0 := by omega
                      subst z40
                      obtain ⟨f, er, e7⟩ := oWP_0 hq9
                      rw [hs1] at er k15 v8 hu k4
                      exact d_ret [0] rfl (by decide) ⟨hq9.1, F4, R4, Or.inl ⟨f, oLin_er (U := U) (lno := lno) (by omega) (by omega) k15 v8 hu k4 er, rfl, e7⟩⟩
              · simp only [cCmp, cE2, sev, svl, cen, List.cons_append, List.nil_append] at h
                first
                | omega
                | skip
                  refine d_call (b_refuse hp (k := 1) (s := oN T L s1) T2.2.2.1 (by omega) ⟨by omega, by omega⟩) (by simp [cAs, cE2, sev, svl, cen] <;> omega) ?_
                  intro rr M6 hq
                  obtain ⟨rfl, hM'⟩ := hq
                  refine ⟨rfl, ?_⟩
                  rw [hM']
                  obtain ⟨r1, r2', r3⟩ := hr 1 (by omega) (by omega) i2 F2 R2 (x := oN T L s1) (by omega)
                  rw [hs1] at k15 v8 hu
                  refine d_ret [0] rfl (by decide) ⟨r1, r2', r3, Or.inl ⟨_, ?_, rfl, supd_at _ _ _ _ _⟩⟩
                  rw [hs1]
                  unfold oLin
                  rw [if_neg (by omega), if_neg (by omega), if_neg (by omega), if_neg (by omega), if_neg hu, if_pos (by rw [← hs1]; omega)]
          · simp only [cCmp, cE2, sev, svl, cen, List.cons_append, List.nil_append] at h
            first
            | omega
            | skip
              have z0 : z = 0 := by omega
              subst z0
              obtain ⟨f, e7, hf⟩ := oTG_0 h2
              refine d_ret [0] rfl (by decide) ⟨i2, F2, R2, Or.inl ⟨f, ?_, rfl, e7⟩⟩
              rw [hs1] at hf
              unfold oLin
              rw [if_neg (by omega), if_neg (by omega)]
              rcases hf with ⟨q1, q2⟩ | ⟨q1, q2, q3⟩ | ⟨q1, q2, q3, q4⟩
              rw [if_pos q1, q2]
              rw [if_neg (by omega), if_pos q2, q3]
              rw [if_neg (by omega), if_neg (by omega), if_pos q3, q4]
      · simp only [cCmp, cE2, sev, svl, cen, List.cons_append, List.nil_append] at h
        first
        | omega
        | skip
          refine d_call (b_refuse hp (k := 5) (s := s) t3 (by omega) ⟨by omega, by omega⟩) (by simp [cAs, cE2, sev, svl, cen] <;> omega) ?_
          intro rr M6 hq
          obtain ⟨rfl, hM'⟩ := hq
          refine ⟨rfl, ?_⟩
          rw [hM']
          obtain ⟨r1, r2', r3⟩ := hr 5 (by omega) (by omega) hI oFm_r hr0 (x := s) (by omega)
          exact d_ret [0] rfl (by decide) ⟨r1, r2', r3, Or.inl ⟨_, l5 (by omega) (by omega), rfl, supd_at _ _ _ _ _⟩⟩
  · simp only [cCmp, cE2, sev, svl, cen, List.cons_append, List.nil_append] at h
    first
    | omega
    | skip
      refine d_call (b_refuse hp (k := 1) (s := s) t3 (by omega) ⟨by omega, by omega⟩) (by simp [cAs, cE2, sev, svl, cen] <;> omega) ?_
      intro rr M6 hq
      obtain ⟨rfl, hM'⟩ := hq
      refine ⟨rfl, ?_⟩
      rw [hM']
      obtain ⟨r1, r2', r3⟩ := hr 1 (by omega) (by omega) hI oFm_r hr0 (x := s) (by omega)
      exact d_ret [0] rfl (by decide) ⟨r1, r2', r3, Or.inl ⟨_, l1 (by omega), rfl, supd_at _ _ _ _ _⟩⟩
end CO6
