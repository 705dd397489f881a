/-! the reference reads a line -/
abbrev oPj (f i : Nat) : Prop := oPd f i ∨ f = 37 ∨ f = 38 ∨ f = 39 ∨ f = 40
/-- behind a line: its rows and codes -/
def oRLq (T : Nat → Int) (L N : Nat) (U : Nat → Int) (lno n e : Nat) (MM : SMem) : Prop := (∃ (f : Int) (n' e' : Nat), oLin T L U lno (oIx T L n) = .error f ∧ 0 < f ∧ MM 1 0 8 = f ∧ oRS T L N n' e' MM) ∨ ∃ (n' : Nat) (q : Nat × OLn), oLin T L U lno (oIx T L n) = .ok q ∧ q.1 = oIx T L n' ∧ n < n' ∧ MM 1 0 8 = 0 ∧ oRS T L N n' (e + q.2.2.2.length + 1) MM ∧ MM 37 0 6 = (lno : Int) + 1 ∧ MM 38 0 (72 + lno) = q.2.1 ∧ MM 39 0 (72 + lno) = q.2.2.1 ∧ MM 40 0 (72 + lno) = (e : Int) ∧ oCr MM e q.2.2.2 ∧ MM 41 0 (6600 + e + q.2.2.2.length) = 0
abbrev oRL (T : Nat → Int) (L N : Nat) (U : Nat → Int) (lno n e : Nat) (M MM : SMem) : Prop := oFm oPj M MM ∧ oKp e M MM ∧ (∀ f k, (f = 38 ∨ f = 39 ∨ f = 40) → k ≠ 72 + lno → MM f 0 k = M f 0 k) ∧ (∀ k, k ≠ 6 → MM 37 0 k = M 37 0 k) ∧ oRLq T L N U lno n e MM
theorem oRS_r {T : Nat → Int} {L N n e : Nat} {M : SMem} {f i : Nat} {z : Int} (hf : f = 37 ∨ f = 38 ∨ f = 39 ∨ f = 40) (hI : sI tg (supd M f 0 i z)) (h : oRS T L N n e M) : oRS T L N n e (supd M f 0 i z) := by
  obtain ⟨h1, h2, h3, h4, h5, h6, h7⟩ := h
  exact ⟨hI, oMT_m (fun f i hf => supd_f (by omega)) h2, oWd_m (fun i => supd_f (by omega)) h3, by rw [supd_f (by omega)]; exact h4, h5, by rw [supd_f (by omega)]; exact h6, h7⟩
section CO14
variable {EX : SEx} {l : Launch} {dC : Nat → ClassId} {dI : Nat → Nat → Nat} {cA : Nat → ClassId} {ad : SAd} {scrS d : Nat}
variable {T U : Nat → Int} {L N : Nat}
theorem m_allB (hp : cPl tm tc tf EX) {n e : Nat} {M : SMem} (hS : oRS T L N n e M) (h0 : 0 ≤ M 1 0 8) : cBG tm tf EX l dC dI cA ad scrS 32 kX10_all [(2, 1, 0), (0, 0, 0)] M (fun rr MM => rr = [] ∧ ((0 < M 1 0 8 ∧ MM = M) ∨ (M 1 0 8 = 0 ∧ oDA T L N n e M MM (oPe T L 1 n 0) (fun n' cc => oQo T L 1 n 0 n' cc ∧ (oK T L (oIx T L n') ≠ 5 ∧ oK T L (oIx T L n') ≠ 6 ∧ oK T L (oIx T L n') ≠ 20 ∧ oK T L (oIx T L n') ≠ 21 ∧ oK T L (oIx T L n') ≠ 22))))) := by
  by_cases h8 : M 1 0 8 = 0
  · exact oBG_post (m_allO hp hS h8) (fun rr MM h => ⟨h.1, Or.inr ⟨h8, h.2⟩⟩)
  · exact oBG_post (cBG_mono (by omega) (m_all0 (d := 0) hp hS (by omega))) (fun rr MM h => ⟨h.1, Or.inl ⟨by omega, h.2⟩⟩)
theorem m_readLine (hp : cPl tm tc tf EX) {lno n e : Nat} {M : SMem} (hS : oRS T L N n e M) (h8 : M 1 0 8 = 0) (hU : M 17 0 = U) (hl : M 37 0 6 = (lno : Int)) (hl12 : lno ≤ 12) (hK : oK T L (oIx T L n) ≠ 24) : cBG tm tf EX l dC dI cA ad scrS 33 kX10_readLine [(2, 1, 0)] M (fun rr MM => rr = [] ∧ oRL T L N U lno n e M MM) := by
  have hi := oRS_i hS
  have hL : L ≤ 1000 := by
    have b := wIb (f := 14) (i := N) (lo := 0) (hi := 1000) hS.1 0 rfl
    have := (hS.2.1.2.2.2 N (Nat.le_refl _)).1
    have := hS.2.1.2.1
    omega
  have hx : ∀ n, oIx T L n ≤ L := fun n => oIx_le n
  have hn1 := oMT_lt hS.2.1 hi.2.1 hK
  -- a fault at a place: behind it nothing
  have flt : ∀ (f : Int) (n' e' : Nat) (MW : SMem), 0 < f → oLin T L U lno (oIx T L n) = .error f → MW 1 0 8 = f → oRS T L N n' e' MW → oFm oPj M MW → oKp e M MW → (∀ f k, (f = 38 ∨ f = 39 ∨ f = 40) → k ≠ 72 + lno → MW f 0 k = M f 0 k) → (∀ k, k ≠ 6 → MW 37 0 k = M 37 0 k) → oRL T L N U lno n e M MW := fun f n' e' MW g1 g2 g3 g4 g5 g6 g7 g8 => ⟨g5, g6, g7, g8, Or.inl ⟨f, n', e', g2, g1, g3, g4⟩⟩
  have e58 : ∀ (wh : Int) (MW : SMem), 0 < MW 1 0 8 → oRL T L N U lno n e M MW → cEnds (cBG tm tf EX l dC dI cA ad scrS 32) (fun rr MM => rr = [] ∧ oRL T L N U lno n e M MM) 90 gX10_readLine 58 [wh] MW := by
    intro wh MW h0 h99
    refine cEnds_at gX10_readLine_m58 rfl ?_
    refine d_fld 0 (by simp only [cE2, sev, svl, cen, List.cons_append, List.nil_append]; omega) ?_
    refine d_br (fun h => ?_) (fun h => ?_)
    · exact absurd h (by simp only [cCmp, cE2, sev, svl, cen, List.cons_append, List.nil_append]; omega)
    · exact d_ret [] rfl (by decide) ⟨rfl, h99⟩
  have e144 : ∀ (wh : Int) (MW : SMem), 0 < MW 1 0 8 → oRL T L N U lno n e M MW → cEnds (cBG tm tf EX l dC dI cA ad scrS 32) (fun rr MM => rr = [] ∧ oRL T L N U lno n e M MM) 90 gX10_readLine 144 [wh] MW := by
    intro wh MW h0 h99
    refine cEnds_at gX10_readLine_m144 rfl ?_
    refine d_fld 0 (by simp only [cE2, sev, svl, cen, List.cons_append, List.nil_append]; omega) ?_
    refine d_br (fun h => ?_) (fun h => ?_)
    · exact absurd h (by simp only [cCmp, cE2, sev, svl, cen, List.cons_append, List.nil_append]; omega)
    · exact d_ret [] rfl (by decide) ⟨rfl, h99⟩
  obtain ⟨n1, en1⟩ : ∃ n1, n1 = n + 1 := ⟨_, rfl⟩
  have k7 : supd M 1 0 7 ((n : Int) + 1) 1 0 7 = (n1 : Int) := by rw [supd_at]; omega
  have S1 : oRS T L N n1 e (supd M 1 0 7 ((n : Int) + 1)) := by rw [en1]; exact oRS_at hS hn1
  obtain ⟨MW, hMW⟩ : ∃ MW, MW = supd M 1 0 7 ((n : Int) + 1) := ⟨_, rfl⟩
  rw [← hMW] at k7 S1
  have z8 : MW 1 0 8 = 0 := by rw [hMW, supd_i (by decide)]; exact h8
  have FW : oFm oPj M MW := by rw [hMW]; exact oFm_p (Or.inl (Or.inr (Or.inr ⟨rfl, by omega⟩))) oFm_r
  have KW : oKp e M MW := fun i _ => by rw [hMW, supd_f (by decide), supd_f (by decide)]; exact ⟨rfl, rfl⟩
  have RW : ∀ f k, (f = 38 ∨ f = 39 ∨ f = 40) → k ≠ 72 + lno → MW f 0 k = M f 0 k := fun f k q _ => by rw [hMW]; exact supd_f (by omega)
  have R37 : ∀ k, k ≠ 6 → MW 37 0 k = M 37 0 k := fun k _ => by rw [hMW]; exact supd_f (by decide)
  have l37 : MW 37 0 6 = (lno : Int) := by rw [hMW, supd_f (by decide)]; exact hl
  have hi1 := oRS_i S1
  have hMt := oMt_k (S1.2.1.2.2.2 n1 hi1.2.1)
  obtain ⟨v, ev⟩ : ∃ v, v = oV T L (oIx T L n1) := ⟨_, rfl⟩
  rw [← ev] at hMt
  have hx1 : oN T L (oIx T L n) = oIx T L n1 := by rw [en1]; rfl
  have hx2 : oN T L (oIx T L n1) = oIx T L (n1 + 1) := rfl
  have hx3 : oN T L (oIx T L (n1 + 1)) = oIx T L (n1 + 2) := rfl
  -- the line, where its first two tokens are sound
  have g144 : ∀ wh : Int, wh = (oK T L (oIx T L n) : Int) → oK T L (oIx T L n) ≤ 3 → lno < 12 → oK T L (oIx T L n1) = 15 → v < 8 → U v.toNat ≠ 0 → cEnds (cBG tm tf EX l dC dI cA ad scrS 32) (fun rr MM => rr = [] ∧ oRL T L N U lno n e M MM) 90 gX10_readLine 144 [wh] MW := by
    intro wh hwh h3 hl2 k15 v8 hu
    have hvb := oV_bd k15
    rw [← ev] at hvb
    have hv := hMt.2.2.1 k15
    have hc10 : cfn 10 v v = v := cfn10v ⟨hvb.1, by omega⟩
    have hn2 := oMT_lt S1.2.1 hi1.2.1 (by omega)
    have SB : oRS T L N (n1 + 1) e (supd (supd (supd (supd MW 38 0 (lno + 72) wh) 39 0 (lno + 72) v) 40 0 (lno + 72) (e : Int)) 1 0 7 ((n1 : Int) + 1)) := by
      have i1 := wI S1.1 (f := 38) (j := 0) (i := lno + 72) (z := wh) (lo := 0) (hi := 3) rfl ⟨by omega, by omega⟩
      have i2 := wI i1 (f := 39) (j := 0) (i := lno + 72) (z := v) (lo := 0) (hi := 7) rfl ⟨by omega, by omega⟩
      have i3 := wI i2 (f := 40) (j := 0) (i := lno + 72) (z := (e : Int)) (lo := 0) (hi := 1000) rfl ⟨by omega, by omega⟩
      exact oRS_at (oRS_r (by omega) i3 (oRS_r (by omega) i2 (oRS_r (by omega) i1 S1))) hn2
    obtain ⟨MB, hMB⟩ : ∃ MB, MB = supd (supd (supd (supd MW 38 0 (lno + 72) wh) 39 0 (lno + 72) v) 40 0 (lno + 72) (e : Int)) 1 0 7 ((n1 : Int) + 1) := ⟨_, rfl⟩
    have SB2 := SB
    rw [← hMB] at SB2
    have zB : supd (supd (supd (supd MW 38 0 (lno + 72) wh) 39 0 (lno + 72) v) 40 0 (lno + 72) (e : Int)) 1 0 7 ((n1 : Int) + 1) 1 0 8 = 0 := by
      rw [supd_i (by decide), supd_f (by decide), supd_f (by decide), supd_f (by decide)]
      exact z8
    have zB2 := zB
    rw [← hMB] at zB2
    have fB : ∀ f i, ¬ (f = 1 ∧ i = 7) → ¬ ((f = 38 ∨ f = 39 ∨ f = 40) ∧ i = 72 + lno) → MB f 0 i = MW f 0 i := fun f i q1 q2 => by
      rw [hMB, supd_n (by omega), supd_n (by omega), supd_n (by omega), supd_n (by omega)]
    have FB : oFm oPj M MB := by
      rw [hMB]
      exact oFm_p (Or.inl (Or.inr (Or.inr ⟨rfl, by omega⟩))) (oFm_p (Or.inr (Or.inr (Or.inr (Or.inr rfl)))) (oFm_p (Or.inr (Or.inr (Or.inr (Or.inl rfl)))) (oFm_p (Or.inr (Or.inr (Or.inl rfl))) FW)))
    have r38 : MB 38 0 (72 + lno) = wh := by rw [hMB, supd_f (by decide), supd_f (by decide), supd_f (by decide), Nat.add_comm, supd_at]
    have r39 : MB 39 0 (72 + lno) = v := by rw [hMB, supd_f (by decide), supd_f (by decide), Nat.add_comm, supd_at]
    have r40 : MB 40 0 (72 + lno) = (e : Int) := by rw [hMB, supd_f (by decide), Nat.add_comm, supd_at]
    have hiB := oRS_i SB2
    -- behind the word
    have twC : ∀ MC : SMem, ((oK T L (oIx T L (n1 + 1)) = 4 ∧ MC = supd MB 1 0 7 (((n1 + 1 : Nat) : Int) + 1)) ∨ (oK T L (oIx T L (n1 + 1)) ≠ 4 ∧ MC = supd MB 1 0 8 (1 + 16 * (oIx T L (n1 + 1) : Int)))) → ∃ nC, oRS T L N nC e MC ∧ 0 ≤ MC 1 0 8 ∧ n1 + 1 ≤ nC ∧ oFm oPd MB MC ∧ oKp e MB MC := by
      intro MC h
      have hxx := hx (n1 + 1)
      rcases h with ⟨q1, q2⟩ | ⟨q1, q2⟩
      · rw [q2]
        exact ⟨n1 + 1 + 1, oRS_at SB2 (oMT_lt SB2.2.1 hiB.2.1 (by omega)), by rw [supd_i (by decide)]; omega, by omega, oFm_p (Or.inr (Or.inr ⟨rfl, by omega⟩)) oFm_r, fun i _ => ⟨supd_f (by decide), supd_f (by decide)⟩⟩
      · rw [q2]
        exact ⟨n1 + 1, oRS_f SB2 ⟨by omega, by omega⟩, by rw [supd_at]; omega, by omega, oFm_p (Or.inr (Or.inr ⟨rfl, by omega⟩)) oFm_r, fun i _ => ⟨supd_f (by decide), supd_f (by decide)⟩⟩
    have alD : ∀ (MC MD : SMem) (nC : Nat), oRS T L N nC e MC → n1 + 1 ≤ nC → ((0 < MC 1 0 8 ∧ MD = MC) ∨ (MC 1 0 8 = 0 ∧ oDA T L N nC e MC MD (oPe T L 1 nC 0) (fun n' cc => oQo T L 1 nC 0 n' cc ∧ (oK T L (oIx T L n') ≠ 5 ∧ oK T L (oIx T L n') ≠ 6 ∧ oK T L (oIx T L n') ≠ 20 ∧ oK T L (oIx T L n') ≠ 21 ∧ oK T L (oIx T L n') ≠ 22)))) → ∃ nD eD, oRS T L N nD eD MD ∧ eD + 1 ≤ nD ∧ eD ≤ 1000 ∧ e ≤ eD ∧ oFm oPd MC MD ∧ oKp e MC MD := by
      intro MC MD nC g1 g2 g3
      rcases g3 with ⟨q1, q2⟩ | ⟨q1, ⟨f1, n', e', f, f2, f3, f4, f5, f6, -⟩ | ⟨n', cc, ⟨f1, f2, f3, f4, f5, -⟩, -⟩⟩
      · rw [q2]
        have := oRS_i g1
        exact ⟨nC, e, g1, by omega, by omega, by omega, oFm_r, fun _ _ => ⟨rfl, rfl⟩⟩
      · have := oRS_i f2
        exact ⟨n', e', f2, by omega, by omega, f5, f1, f6⟩
      · have := oRS_i f2
        exact ⟨n', _, f2, by omega, by omega, by omega, f1, f5⟩
    have fin : ∀ (MC MD MG : SMem) (nC nD eD : Nat), ((oK T L (oIx T L (n1 + 1)) = 4 ∧ MC = supd MB 1 0 7 (((n1 + 1 : Nat) : Int) + 1)) ∨ (oK T L (oIx T L (n1 + 1)) ≠ 4 ∧ MC = supd MB 1 0 8 (1 + 16 * (oIx T L (n1 + 1) : Int)))) → oRS T L N nC e MC → n1 + 1 ≤ nC → ((0 < MC 1 0 8 ∧ MD = MC) ∨ (MC 1 0 8 = 0 ∧ oDA T L N nC e MC MD (oPe T L 1 nC 0) (fun n' cc => oQo T L 1 nC 0 n' cc ∧ (oK T L (oIx T L n') ≠ 5 ∧ oK T L (oIx T L n') ≠ 6 ∧ oK T L (oIx T L n') ≠ 20 ∧ oK T L (oIx T L n') ≠ 21 ∧ oK T L (oIx T L n') ≠ 22)))) → oRS T L N nD eD MD → eD + 1 ≤ nD → e ≤ eD → oFm oPd MB MC → oFm oPd MC MD → oKp e MB MC → oKp e MC MD → oRS T L N nD (eD + 1) (supd (oEm MD eD 0 0) 37 0 6 ((lno : Int) + 1)) → ((supd (oEm MD eD 0 0) 37 0 6 ((lno : Int) + 1) 1 0 8 ≠ 0 ∧ MG = supd (oEm MD eD 0 0) 37 0 6 ((lno : Int) + 1)) ∨ (supd (oEm MD eD 0 0) 37 0 6 ((lno : Int) + 1) 1 0 8 = 0 ∧ ((oK T L (oIx T L nD) = oSg 59 ∧ MG = supd (supd (oEm MD eD 0 0) 37 0 6 ((lno : Int) + 1)) 1 0 7 ((nD : Int) + 1)) ∨ (oK T L (oIx T L nD) ≠ oSg 59 ∧ MG = supd (supd (oEm MD eD 0 0) 37 0 6 ((lno : Int) + 1)) 1 0 8 (1 + 16 * (oIx T L nD : Int)))))) → oRL T L N U lno n e M MG := by
      intro MC MD MG nC nD eD hC SC hnC hD SD hDn heD fC fD kC kD SF hG
      obtain ⟨MF, hMF⟩ : ∃ MF, MF = supd (oEm MD eD 0 0) 37 0 6 ((lno : Int) + 1) := ⟨_, rfl⟩
      rw [← hMF] at SF hG
      have s59 : oSg 59 = 23 := by decide
      have F8 : MF 1 0 8 = MD 1 0 8 := by rw [hMF, supd_f (by decide), oEm_8]
      have FF : oFm oPj M MF := by
        rw [hMF]
        exact oFm_p (Or.inr (Or.inl rfl)) (oFm_w (fun _ _ q => q) (oFm_t FB (oFm_w (fun _ _ q => Or.inl q) (oFm_t fC (oEm_F fD)))))
      have KF : oKp e M MF := fun i hii => by
        have a := kC i hii
        have b := kD i hii
        have c := KW i hii
        have r := oEm_r (M := MD) (e := eD) (x := 0) (y := 0) (i := i) (by omega)
        rw [hMF, supd_f (by decide), supd_f (by decide)]
        exact ⟨r.1.trans (b.1.trans (a.1.trans ((fB 41 i (by omega) (by omega)).trans c.1))), r.2.trans (b.2.trans (a.2.trans ((fB 42 i (by omega) (by omega)).trans c.2)))⟩
      have rF : ∀ f i, (f = 38 ∨ f = 39 ∨ f = 40 ∨ f = 37) → ¬ (f = 37 ∧ i = 6) → MF f 0 i = MB f 0 i := fun f i q1 q2 => by
        rw [hMF, supd_n (by omega)]
        unfold oEm
        rw [supd_f (by omega), supd_f (by omega), supd_f (by omega), fD f 0 i (by omega), fC f 0 i (by omega)]
      have R38 : ∀ f k, (f = 38 ∨ f = 39 ∨ f = 40) → k ≠ 72 + lno → MF f 0 k = M f 0 k := fun f k q1 q2 => (rF f k (by omega) (by omega)).trans ((fB f k (by omega) (by omega)).trans (RW f k q1 q2))
      have R37F : ∀ k, k ≠ 6 → MF 37 0 k = M 37 0 k := fun k q => (rF 37 k (by omega) (by omega)).trans ((fB 37 k (by omega) (by omega)).trans (R37 k q))
      -- a fault ahead of the stop
      have bad : ∀ f : Int, 0 < f → MD 1 0 8 = f → oLin T L U lno (oIx T L n) = .error f → oRL T L N U lno n e M MG := by
        intro f f0 f8 fe
        rcases hG with ⟨q1, q2⟩ | ⟨q1, -⟩
        · rw [q2]
          exact flt f nD (eD + 1) MF f0 fe (F8.trans f8) SF FF KF R38 R37F
        · omega
      have lin : ∀ r : ORs, oRu (oK T L) (oV T L) (oN T L) L (oIx T L (n1 + 2)) [] 0 true [] = r → oK T L (oIx T L (n1 + 1)) = 4 → oLin T L U lno (oIx T L n) = match r with
          | .error f => .error f
          | .ok q => .ok (oN T L q.1, ((oK T L (oIx T L n) : Int), v, q.2)) := by
        intro r hr k4
        unfold oLin
        rw [if_neg (by omega), if_neg (by omega), hx1, if_neg (by omega), ← ev, if_neg (by omega), if_neg hu, hx2, if_neg (by omega), hx3, hr]
        cases r <;> rfl
      rcases hC with ⟨k4, eC⟩ | ⟨k4, eC⟩
      · have C8 : MC 1 0 8 = 0 := by rw [eC, supd_i (by decide)]; exact zB2
        have enC : nC = n1 + 2 := by
          have a := SC.2.2.2.1
          rw [eC, supd_at] at a
          omega
        subst enC
        rcases hD with ⟨q1, -⟩ | ⟨-, hA⟩
        · omega
        rcases hA with ⟨-, n', e', f, S', -, -, -, -, f0, f8, hPe⟩ | ⟨n5, cc, hk5, hQ, hj⟩
        · refine bad f f0 f8 ?_
          rw [lin _ (hPe [] [] (fun _ _ q => by cases q)) k4]
        · have S5 := hk5.2.1
          have e5 : nD = n5 := by
            have a := SD.2.2.2.1
            have b := S5.2.2.2.1
            omega
          have e6 : eD = e + cc.length := by
            have a := SD.2.2.2.2.2.1
            have b := S5.2.2.2.2.2.1
            omega
          subst e5
          subst e6
          have D8 := hk5.2.2.2.2.2.1
          rcases hG with ⟨q1, -⟩ | ⟨q1, ⟨q2, q3⟩ | ⟨q2, q3⟩⟩
          · exact absurd (F8.trans D8) q1
          · have kD23 : oK T L (oIx T L nD) = 23 := q2.trans s59
            have hnD := oMT_lt SF.2.1 (oRS_i SF).2.1 (by omega)
            have el := lin _ (oEn_s hQ kD23 []) k4
            have hDn2 := hk5.2.2.1
            rw [q3]
            refine ⟨oFm_p (Or.inl (Or.inr (Or.inr ⟨rfl, by omega⟩))) FF, fun i hii => by rw [supd_f (by decide), supd_f (by decide)]; exact KF i hii, fun f k q1 q2 => (supd_f (by omega)).trans (R38 f k q1 q2), fun k q => (supd_f (by decide)).trans (R37F k q), Or.inr ⟨nD + 1, (oN T L (oIx T L nD), ((oK T L (oIx T L n) : Int), v, [] ++ cc)), el, rfl, by omega, ?_, oRS_at SF hnD, ?_, ?_, ?_, ?_, ?_, ?_⟩⟩
            · rw [supd_i (by decide)]; exact F8.trans D8
            · rw [supd_f (by decide), hMF, supd_at]
            · rw [supd_f (by decide), rF 38 _ (by omega) (by omega), r38]; exact hwh
            · rw [supd_f (by decide), rF 39 _ (by omega) (by omega), r39]
            · rw [supd_f (by decide), rF 40 _ (by omega) (by omega), r40]
            · intro j x hj2
              have hj3 : cc[j]? = some x := hj2
              have hlt := (List.getElem?_eq_some_iff.mp hj3).1
              have r := oEm_r (M := MD) (e := e + cc.length) (x := 0) (y := 0) (i := 6600 + e + j) (by omega)
              have a := hk5.2.2.2.2.2.2 j x hj3
              rw [supd_f (by decide), supd_f (by decide), hMF, supd_f (by decide), supd_f (by decide)]
              exact ⟨r.1.trans a.1, r.2.trans a.2⟩
            · show supd MF 1 0 7 ((nD : Int) + 1) 41 0 (6600 + e + cc.length) = 0
              rw [supd_f (by decide), hMF, supd_f (by decide)]
              unfold oEm
              rw [supd_f (by decide), supd_f (by decide), show 6600 + e + cc.length = 6600 + (e + cc.length) by omega, supd_at]
          · have kn : oK T L (oIx T L nD) ≠ 23 := fun q => q2 (q.trans s59.symm)
            have el := lin _ (oEn_x hQ kn hj []) k4
            have hxD := hx nD
            rw [q3]
            exact flt _ nD (e + cc.length + 1) _ (by omega) el (supd_at _ _ _ _ _) (oRS_f SF ⟨by omega, by omega⟩) (oFm_p (Or.inl (Or.inr (Or.inr ⟨rfl, by omega⟩))) FF) (fun i hii => by rw [supd_f (by decide), supd_f (by decide)]; exact KF i hii) (fun f k q1 q2 => (supd_f (by omega)).trans (R38 f k q1 q2)) (fun k q => (supd_f (by decide)).trans (R37F k q))
      · have hxx := hx (n1 + 1)
        have C8 : MC 1 0 8 = 1 + 16 * (oIx T L (n1 + 1) : Int) := by rw [eC, supd_at]
        rcases hD with ⟨q1, q2⟩ | ⟨q1, -⟩
        · refine bad (1 + 16 * (oIx T L (n1 + 1) : Int)) (by omega) (by rw [q2]; exact C8) ?_
          unfold oLin
          rw [if_neg (by omega), if_neg (by omega), hx1, if_neg (by omega), ← ev, if_neg (by omega), if_neg hu, hx2, if_pos k4]
        · omega
    refine cEnds_at gX10_readLine_m144 rfl ?_
    refine d_fld 0 (by simp only [cE2, sev, svl, cen, List.cons_append, List.nil_append]; omega) ?_
    rw [z8]
    refine d_br (fun h => ?_) (fun h => ?_)
    · clear h
      refine d_row 0 6 (by simp only [cE2, sev, svl, cen, List.cons_append, List.nil_append]; omega) (by simp only [cE2, sev, svl, cen, List.cons_append, List.nil_append]; omega) (by omega) ?_
      rw [l37]
      refine d_rng (by simp only [clo, chi, cE2, sev, svl, cen, List.cons_append, List.nil_append]; omega) ?_
      refine d_set 0 (lno + 72) wh (by simp only [cE2, sev, svl, cen, List.cons_append, List.nil_append]; omega) (by simp only [cE2, sev, svl, cen, List.cons_append, List.nil_append]; omega) (by omega) (by simp only [cE2, sev, svl, cen, List.cons_append, List.nil_append]; omega) ?_
      refine d_fld 0 (by simp only [cE2, sev, svl, cen, List.cons_append, List.nil_append]; omega) ?_
      rw [supd_f (by decide)]
      rw [k7]
      refine d_row 0 n1 (by simp only [cE2, sev, svl, cen, List.cons_append, List.nil_append]; omega) (by simp only [cE2, sev, svl, cen, List.cons_append, List.nil_append]; omega) (by omega) ?_
      rw [supd_f (by decide)]
      rw [hv]
      refine d_opw v v (by simp [cE2, sev, svl, cen] <;> omega) (by simp [cE2, sev, svl, cen] <;> omega) ?_
      rw [hc10]
      refine d_set 0 (lno + 72) v (by simp only [cE2, sev, svl, cen, List.cons_append, List.nil_append]; omega) (by simp only [cE2, sev, svl, cen, List.cons_append, List.nil_append]; omega) (by omega) (by simp only [cE2, sev, svl, cen, List.cons_append, List.nil_append]; omega) ?_
      refine d_fld 0 (by simp only [cE2, sev, svl, cen, List.cons_append, List.nil_append]; omega) ?_
      rw [supd_f (by decide)]
      rw [supd_f (by decide)]
      rw [S1.2.2.2.2.2.1]
      refine d_set 0 (lno + 72) (e : Int) (by simp only [cE2, sev, svl, cen, List.cons_append, List.nil_append]; omega) (by simp only [cE2, sev, svl, cen, List.cons_append, List.nil_append]; omega) (by omega) (by simp only [cE2, sev, svl, cen, List.cons_append, List.nil_append]; omega) ?_
      refine d_fld 0 (by simp only [cE2, sev, svl, cen, List.cons_append, List.nil_append]; omega) ?_
      rw [supd_f (by decide)]
      rw [supd_f (by decide)]
      rw [supd_f (by decide)]
      rw [k7]
      refine d_rng (by simp only [clo, chi, cE2, sev, svl, cen, List.cons_append, List.nil_append]; omega) ?_
      refine d_put 0 ((n1 : Int) + 1) (by simp only [cE2, sev, svl, cen, List.cons_append, List.nil_append]; omega) (by simp only [cE2, sev, svl, cen, List.cons_append, List.nil_append]; omega) ?_
      refine d_call (cBG_mono (show 3 ≤ 32 by omega) (m_takeWord (d := 0) hp (w := 4) SB (by decide) zB)) (by simp [cAs, cE2, sev, svl, cen] <;> omega) ?_
      intro rr MC hq
      obtain ⟨rfl, hC⟩ := hq
      rw [← hMB] at hC
      obtain ⟨nC, SC, zC, hnC, fC, kC⟩ := twC MC hC
      refine ⟨rfl, ?_⟩
      refine d_call (m_allB hp SC zC) (by simp [cAs, cE2, sev, svl, cen] <;> omega) ?_
      intro rr MD hq
      obtain ⟨rfl, hD⟩ := hq
      obtain ⟨nD, eD, SD, hDn, hD1000, heD, fD, kD⟩ := alD MC MD nC SC hnC hD
      refine ⟨rfl, ?_⟩
      refine d_call (cBG_mono (show 1 ≤ 32 by omega) (m_emit (d := 0) hp (x := 0) (y := 0) SD.2.2.2.2.2.1 hD1000)) (by simp [cAs, cE2, sev, svl, cen] <;> omega) ?_
      intro rr ME hq
      obtain ⟨rfl, hME⟩ := hq
      have l37E : ME 37 0 6 = (lno : Int) := by rw [hME]; unfold oEm; rw [supd_f (by decide), supd_f (by decide), supd_f (by decide), fD 37 0 6 (by omega), fC 37 0 6 (by omega), fB 37 6 (by omega) (by omega)]; exact l37
      have SF : oRS T L N nD (eD + 1) (supd ME 37 0 6 ((lno : Int) + 1)) := by rw [hME]; exact oRS_r (by omega) (wI (oRS_em SD ⟨by decide, by decide⟩ ⟨by decide, by decide⟩ hDn).1 (lo := 0) (hi := 12) rfl ⟨by omega, by omega⟩) (oRS_em SD ⟨by decide, by decide⟩ ⟨by decide, by decide⟩ hDn)
      refine ⟨rfl, ?_⟩
      refine d_row 0 6 (by simp only [cE2, sev, svl, cen, List.cons_append, List.nil_append]; omega) (by simp only [cE2, sev, svl, cen, List.cons_append, List.nil_append]; omega) (by omega) ?_
      rw [l37E]
      refine d_rng (by simp only [clo, chi, cE2, sev, svl, cen, List.cons_append, List.nil_append]; omega) ?_
      refine d_set 0 6 ((lno : Int) + 1) (by simp only [cE2, sev, svl, cen, List.cons_append, List.nil_append]; omega) (by simp only [cE2, sev, svl, cen, List.cons_append, List.nil_append]; omega) (by omega) (by simp only [cE2, sev, svl, cen, List.cons_append, List.nil_append]; omega) ?_
      refine d_call (cBG_mono (show 2 ≤ 32 by omega) (m_takeSignB (d := 0) hp (c := 59) SF (by decide))) (by simp [cAs, cE2, sev, svl, cen] <;> omega) ?_
      intro rr MG hq
      obtain ⟨rfl, hG⟩ := hq
      refine ⟨rfl, ?_⟩
      rw [hME] at SF hG
      exact d_ret [] rfl (by decide) ⟨rfl, fin MC MD MG nC nD eD hC SC hnC hD SD hDn heD fC fD kC kD SF hG⟩
    · simp only [cCmp, cE2, sev, svl, cen, List.cons_append, List.nil_append] at h
      omega
  have g58 : ∀ wh : Int, wh = (oK T L (oIx T L n) : Int) → oK T L (oIx T L n) ≤ 3 → lno < 12 → cEnds (cBG tm tf EX l dC dI cA ad scrS 32) (fun rr MM => rr = [] ∧ oRL T L N U lno n e M MM) 90 gX10_readLine 58 [wh] M := by
    intro wh hwh h3 hl2
    have hc10 : oK T L (oIx T L n1) = 15 → cfn 10 v v = v := fun q => cfn10v (by have := oV_bd q; omega)
    have hv : oK T L (oIx T L n1) = 15 → MW 15 0 n1 = v ∧ 0 ≤ v ∧ v < 10000 := fun q => ⟨hMt.2.2.1 q, by have := oV_bd q; omega⟩
    have hM17 : ∀ i, MW 17 0 i = U i := fun i => by rw [hMW, supd_f (by decide)]; exact congrFun hU i
    have bd : ∀ (k : Int) (MV : SMem), 0 < k → k ≤ 5 → MV = supd MW 1 0 8 (k + 16 * (oIx T L n1 : Int)) → oLin T L U lno (oIx T L n) = .error (k + 16 * (oIx T L n1 : Int)) → cEnds (cBG tm tf EX l dC dI cA ad scrS 32) (fun rr MM => rr = [] ∧ oRL T L N U lno n e M MM) 90 gX10_readLine 144 [wh] MV := by
      intro k MV k0 k5 eV el
      have hxn := hx n1
      rw [eV]
      exact e144 wh _ (by rw [supd_at]; omega) (flt _ n1 e _ (by omega) el (supd_at _ _ _ _ _) (oRS_f S1 ⟨by omega, by omega⟩) (oFm_p (Or.inl (Or.inr (Or.inr ⟨rfl, by omega⟩))) FW) (fun i hii => by rw [supd_f (by decide), supd_f (by decide)]; exact KW i hii) (fun f k q1 q2 => (supd_f (by omega)).trans (RW f k q1 q2)) (fun k q => (supd_f (by decide)).trans (R37 k q)))
    have l1 : oK T L (oIx T L n1) ≠ 15 → oLin T L U lno (oIx T L n) = .error (1 + 16 * (oIx T L n1 : Int)) := fun q => by
      unfold oLin
      rw [if_neg (by omega), if_neg (by omega), hx1, if_pos q]
    have l4 : oK T L (oIx T L n1) = 15 → 8 ≤ v → oLin T L U lno (oIx T L n) = .error (4 + 16 * (oIx T L n1 : Int)) := fun q1 q2 => by
      unfold oLin
      rw [if_neg (by omega), if_neg (by omega), hx1, if_neg (by omega), ← ev, if_pos q2]
    have l2 : oK T L (oIx T L n1) = 15 → v < 8 → U v.toNat = 0 → oLin T L U lno (oIx T L n) = .error (2 + 16 * (oIx T L n1 : Int)) := fun q1 q2 q3 => by
      unfold oLin
      rw [if_neg (by omega), if_neg (by omega), hx1, if_neg (by omega), ← ev, if_neg (by omega), if_pos q3]
    have h15 := hMt.2.1
    refine cEnds_at gX10_readLine_m58 rfl ?_
    refine d_fld 0 (by simp only [cE2, sev, svl, cen, List.cons_append, List.nil_append]; omega) ?_
    rw [h8]
    refine d_br (fun h => ?_) (fun h => ?_)
    · clear h
      refine d_fld 0 (by simp only [cE2, sev, svl, cen, List.cons_append, List.nil_append]; omega) ?_
      rw [hS.2.2.2.1]
      refine d_rng (by simp only [clo, chi, cE2, sev, svl, cen, List.cons_append, List.nil_append]; omega) ?_
      refine d_put 0 ((n : Int) + 1) (by simp only [cE2, sev, svl, cen, List.cons_append, List.nil_append]; omega) (by simp only [cE2, sev, svl, cen, List.cons_append, List.nil_append]; omega) ?_
      rw [← hMW]
      refine d_fld 0 (by simp only [cE2, sev, svl, cen, List.cons_append, List.nil_append]; omega) ?_
      rw [k7]
      refine d_row 0 n1 (by simp only [cE2, sev, svl, cen, List.cons_append, List.nil_append]; omega) (by simp only [cE2, sev, svl, cen, List.cons_append, List.nil_append]; omega) (by omega) ?_
      refine d_br (fun h => ?_) (fun h => ?_)
      · simp only [cCmp, cE2, sev, svl, cen, List.cons_append, List.nil_append] at h
        first
        | omega
        | skip
          refine d_fld 0 (by simp only [cE2, sev, svl, cen, List.cons_append, List.nil_append]; omega) ?_
          rw [k7]
          refine d_row 0 n1 (by simp only [cE2, sev, svl, cen, List.cons_append, List.nil_append]; omega) (by simp only [cE2, sev, svl, cen, List.cons_append, List.nil_append]; omega) (by omega) ?_
          rw [(hv (by omega)).1]
          refine d_br (fun h => ?_) (fun h => ?_)
          · simp only [cCmp, cE2, sev, svl, cen, List.cons_append, List.nil_append] at h
            first
            | omega
            | skip
              refine d_call (cBG_mono (show 1 ≤ 32 by omega) (m_wrong (d := 0) hp (k := 4) S1 z8 ⟨by omega, by omega⟩)) (by simp [cAs, cE2, sev, svl, cen] <;> omega) ?_
              intro rr M2 hq
              obtain ⟨rfl, hM'⟩ := hq
              refine ⟨rfl, ?_⟩
              refine d_cut [wh] (by simp [cE2, sev, svl, cen] <;> omega) ?_
              exact bd 4 M2 (by omega) (by omega) hM' (l4 (by omega) (by omega))
          · simp only [cCmp, cE2, sev, svl, cen, List.cons_append, List.nil_append] at h
            first
            | omega
            | skip
              refine d_br (fun h => ?_) (fun h => ?_)
              · simp only [cCmp, cE2, sev, svl, cen, List.cons_append, List.nil_append] at h
                first
                | omega
                | skip
                  refine d_fld 0 (by simp only [cE2, sev, svl, cen, List.cons_append, List.nil_append]; omega) ?_
                  rw [k7]
                  refine d_row 0 n1 (by simp only [cE2, sev, svl, cen, List.cons_append, List.nil_append]; omega) (by simp only [cE2, sev, svl, cen, List.cons_append, List.nil_append]; omega) (by omega) ?_
                  rw [(hv (by omega)).1]
                  refine d_opw v v (by simp [cE2, sev, svl, cen] <;> omega) (by simp [cE2, sev, svl, cen] <;> omega) ?_
                  rw [hc10 (by omega)]
                  refine d_row 0 v.toNat (by simp only [cE2, sev, svl, cen, List.cons_append, List.nil_append]; omega) (by simp only [cE2, sev, svl, cen, List.cons_append, List.nil_append]; omega) (by omega) ?_
                  rw [hM17 _]
                  refine d_br (fun h => ?_) (fun h => ?_)
                  · simp only [cCmp, cE2, sev, svl, cen, List.cons_append, List.nil_append] at h
                    first
                    | omega
                    | skip
                      refine d_cut [wh] (by simp [cE2, sev, svl, cen] <;> omega) ?_
                      exact g144 wh hwh h3 hl2 (by omega) (by omega) (by omega)
                  · simp only [cCmp, cE2, sev, svl, cen, List.cons_append, List.nil_append] at h
                    first
                    | omega
                    | skip
                      refine d_call (cBG_mono (show 1 ≤ 32 by omega) (m_wrong (d := 0) hp (k := 2) S1 z8 ⟨by omega, by omega⟩)) (by simp [cAs, cE2, sev, svl, cen] <;> omega) ?_
                      intro rr M2 hq
                      obtain ⟨rfl, hM'⟩ := hq
                      refine ⟨rfl, ?_⟩
                      refine d_cut [wh] (by simp [cE2, sev, svl, cen] <;> omega) ?_
                      exact bd 2 M2 (by omega) (by omega) hM' (l2 (by omega) (by omega) (by omega))
              · simp only [cCmp, cE2, sev, svl, cen, List.cons_append, List.nil_append] at h
                first
                | omega
                | skip
                  refine d_fld 0 (by simp only [cE2, sev, svl, cen, List.cons_append, List.nil_append]; omega) ?_
                  rw [k7]
                  refine d_row 0 n1 (by simp only [cE2, sev, svl, cen, List.cons_append, List.nil_append]; omega) (by simp only [cE2, sev, svl, cen, List.cons_append, List.nil_append]; omega) (by omega) ?_
                  rw [(hv (by omega)).1]
                  refine d_opw v v (by simp [cE2, sev, svl, cen] <;> omega) (by simp [cE2, sev, svl, cen] <;> omega) ?_
                  rw [hc10 (by omega)]
                  refine d_row 0 v.toNat (by simp only [cE2, sev, svl, cen, List.cons_append, List.nil_append]; omega) (by simp only [cE2, sev, svl, cen, List.cons_append, List.nil_append]; omega) (by omega) ?_
                  rw [hM17 _]
                  refine d_br (fun h => ?_) (fun h => ?_)
                  · simp only [cCmp, cE2, sev, svl, cen, List.cons_append, List.nil_append] at h
                    first
                    | omega
                    | skip
                      refine d_cut [wh] (by simp [cE2, sev, svl, cen] <;> omega) ?_
                      exact g144 wh hwh h3 hl2 (by omega) (by omega) (by omega)
                  · simp only [cCmp, cE2, sev, svl, cen, List.cons_append, List.nil_append] at h
                    first
                    | omega
                    | skip
                      refine d_call (cBG_mono (show 1 ≤ 32 by omega) (m_wrong (d := 0) hp (k := 2) S1 z8 ⟨by omega, by omega⟩)) (by simp [cAs, cE2, sev, svl, cen] <;> omega) ?_
                      intro rr M2 hq
                      obtain ⟨rfl, hM'⟩ := hq
                      refine ⟨rfl, ?_⟩
                      refine d_cut [wh] (by simp [cE2, sev, svl, cen] <;> omega) ?_
                      exact bd 2 M2 (by omega) (by omega) hM' (l2 (by omega) (by omega) (by omega))
      · simp only [cCmp, cE2, sev, svl, cen, List.cons_append, List.nil_append] at h
        first
        | omega
        | skip
          refine d_call (cBG_mono (show 1 ≤ 32 by omega) (m_wrong (d := 0) hp (k := 1) S1 z8 ⟨by omega, by omega⟩)) (by simp [cAs, cE2, sev, svl, cen] <;> omega) ?_
          intro rr M2 hq
          obtain ⟨rfl, hM'⟩ := hq
          refine ⟨rfl, ?_⟩
          refine d_cut [wh] (by simp [cE2, sev, svl, cen] <;> omega) ?_
          exact bd 1 M2 (by omega) (by omega) hM' (l1 (by omega))
    · simp only [cCmp, cE2, sev, svl, cen, List.cons_append, List.nil_append] at h
      omega
  have loop : ∀ (m w : Nat) (wh : Int), w + m = 4 → ((wh = -1 ∧ ¬ oK T L (oIx T L n) < w) ∨ (oK T L (oIx T L n) < w ∧ wh = (oK T L (oIx T L n) : Int))) → cEnds (cBG tm tf EX l dC dI cA ad scrS 32) (fun rr MM => rr = [] ∧ oRL T L N U lno n e M MM) 90 gX10_readLine 4 [wh, (w : Int)] M := by
    have l1 : 3 < oK T L (oIx T L n) → oLin T L U lno (oIx T L n) = .error (1 + 16 * (oIx T L n : Int)) := fun q => if_pos q
    have l5 : ¬ 3 < oK T L (oIx T L n) → 12 ≤ lno → oLin T L U lno (oIx T L n) = .error (5 + 16 * (oIx T L n : Int)) := fun q1 q2 => by
      unfold oLin
      rw [if_neg q1, if_pos q2]
    have bd : ∀ (k wh : Int) (MV : SMem), 0 < k → k ≤ 5 → MV = supd M 1 0 8 (k + 16 * (oIx T L n : Int)) → oLin T L U lno (oIx T L n) = .error (k + 16 * (oIx T L n : Int)) → cEnds (cBG tm tf EX l dC dI cA ad scrS 32) (fun rr MM => rr = [] ∧ oRL T L N U lno n e M MM) 90 gX10_readLine 58 [wh] MV := by
      intro k wh MV k0 k5 eV el
      have hxn := hx n
      rw [eV]
      exact e58 wh _ (by rw [supd_at]; omega) (flt _ n e _ (by omega) el (supd_at _ _ _ _ _) (oRS_f hS ⟨by omega, by omega⟩) (oFm_p (Or.inl (Or.inr (Or.inr ⟨rfl, by omega⟩))) oFm_r) (fun i hii => by rw [supd_f (by decide), supd_f (by decide)]; exact ⟨rfl, rfl⟩) (fun f k q1 q2 => supd_f (by omega)) (fun k q => supd_f (by decide)))
    intro m
    induction m with
    | zero =>
      intro w wh hw hf
      refine cEnds_at gX10_readLine_m4 rfl ?_
      refine d_br (fun h => ?_) (fun h => ?_)
      · simp only [cCmp, cE2, sev, svl, cen, List.cons_append, List.nil_append] at h
        first
        | omega
        | skip
          refine d_br (fun h => ?_) (fun h => ?_)
          · simp only [cCmp, cE2, sev, svl, cen, List.cons_append, List.nil_append] at h
            first
            | omega
            | skip
              refine d_row 0 6 (by simp only [cE2, sev, svl, cen, List.cons_append, List.nil_append]; omega) (by simp only [cE2, sev, svl, cen, List.cons_append, List.nil_append]; omega) (by omega) ?_
              rw [hl]
              refine d_br (fun h => ?_) (fun h => ?_)
              · simp only [cCmp, cE2, sev, svl, cen, List.cons_append, List.nil_append] at h
                first
                | omega
                | skip
                  refine d_cut [wh] (by simp [cE2, sev, svl, cen] <;> omega) ?_
                  exact g58 wh (by omega) (by omega) (by omega)
              · simp only [cCmp, cE2, sev, svl, cen, List.cons_append, List.nil_append] at h
                first
                | omega
                | skip
                  refine d_call (cBG_mono (show 1 ≤ 32 by omega) (m_wrong (d := 0) hp (k := 5) hS h8 ⟨by omega, by omega⟩)) (by simp [cAs, cE2, sev, svl, cen] <;> omega) ?_
                  intro rr M2 hq
                  obtain ⟨rfl, hM'⟩ := hq
                  refine ⟨rfl, ?_⟩
                  refine d_cut [wh] (by simp [cE2, sev, svl, cen] <;> omega) ?_
                  exact bd 5 wh M2 (by omega) (by omega) hM' (l5 (by omega) (by omega))
          · simp only [cCmp, cE2, sev, svl, cen, List.cons_append, List.nil_append] at h
            first
            | omega
            | skip
              refine d_call (cBG_mono (show 1 ≤ 32 by omega) (m_wrong (d := 0) hp (k := 1) hS h8 ⟨by omega, by omega⟩)) (by simp [cAs, cE2, sev, svl, cen] <;> omega) ?_
              intro rr M2 hq
              obtain ⟨rfl, hM'⟩ := hq
              refine ⟨rfl, ?_⟩
              refine d_cut [wh] (by simp [cE2, sev, svl, cen] <;> omega) ?_
              exact bd 1 wh M2 (by omega) (by omega) hM' (l1 (by omega))
      · simp only [cCmp, cE2, sev, svl, cen, List.cons_append, List.nil_append] at h
        first
        | omega
        | skip
          refine d_call (cBG_mono (show 1 ≤ 32 by omega) (m_isWord (d := 0) hp (w := w) hS (by omega))) (by simp [cAs, cE2, sev, svl, cen] <;> omega) ?_
          intro rr M' hq
          obtain ⟨hM', hq⟩ := hq
          rw [hM']
          rcases hq with ⟨rfl, q2⟩ | ⟨rfl, q2⟩
          · refine ⟨rfl, ?_⟩
            refine d_br (fun h => ?_) (fun h => ?_)
            · simp only [cCmp, cE2, sev, svl, cen, List.cons_append, List.nil_append] at h
              omega
            · clear h
              refine d_rng (by simp only [clo, chi, cE2, sev, svl, cen, List.cons_append, List.nil_append]; omega) ?_
              refine d_cut [(w : Int), ((w : Int) + 1)] (by simp [cE2, sev, svl, cen] <;> omega) ?_
              exact (by omega)
          · refine ⟨rfl, ?_⟩
            refine d_br (fun h => ?_) (fun h => ?_)
            · clear h
              refine d_rng (by simp only [clo, chi, cE2, sev, svl, cen, List.cons_append, List.nil_append]; omega) ?_
              refine d_cut [wh, ((w : Int) + 1)] (by simp [cE2, sev, svl, cen] <;> omega) ?_
              exact (by omega)
            · simp only [cCmp, cE2, sev, svl, cen, List.cons_append, List.nil_append] at h
              omega
    | succ m ih =>
      intro w wh hw hf
      refine cEnds_at gX10_readLine_m4 rfl ?_
      refine d_br (fun h => ?_) (fun h => ?_)
      · simp only [cCmp, cE2, sev, svl, cen, List.cons_append, List.nil_append] at h
        first
        | omega
        | skip
          refine d_br (fun h => ?_) (fun h => ?_)
          · simp only [cCmp, cE2, sev, svl, cen, List.cons_append, List.nil_append] at h
            first
            | omega
            | skip
              refine d_row 0 6 (by simp only [cE2, sev, svl, cen, List.cons_append, List.nil_append]; omega) (by simp only [cE2, sev, svl, cen, List.cons_append, List.nil_append]; omega) (by omega) ?_
              rw [hl]
              refine d_br (fun h => ?_) (fun h => ?_)
              · simp only [cCmp, cE2, sev, svl, cen, List.cons_append, List.nil_append] at h
                first
                | omega
                | skip
                  refine d_cut [wh] (by simp [cE2, sev, svl, cen] <;> omega) ?_
                  exact (by omega)
              · simp only [cCmp, cE2, sev, svl, cen, List.cons_append, List.nil_append] at h
                first
                | omega
                | skip
                  refine d_call (cBG_mono (show 1 ≤ 32 by omega) (m_wrong (d := 0) hp (k := 5) hS h8 ⟨by omega, by omega⟩)) (by simp [cAs, cE2, sev, svl, cen] <;> omega) ?_
                  intro rr M2 hq
                  obtain ⟨rfl, hM'⟩ := hq
                  refine ⟨rfl, ?_⟩
                  refine d_cut [wh] (by simp [cE2, sev, svl, cen] <;> omega) ?_
                  exact (by omega)
          · simp only [cCmp, cE2, sev, svl, cen, List.cons_append, List.nil_append] at h
            first
            | omega
            | skip
              refine d_call (cBG_mono (show 1 ≤ 32 by omega) (m_wrong (d := 0) hp (k := 1) hS h8 ⟨by omega, by omega⟩)) (by simp [cAs, cE2, sev, svl, cen] <;> omega) ?_
              intro rr M2 hq
              obtain ⟨rfl, hM'⟩ := hq
              refine ⟨rfl, ?_⟩
              refine d_cut [wh] (by simp [cE2, sev, svl, cen] <;> omega) ?_
              exact (by omega)
      · simp only [cCmp, cE2, sev, svl, cen, List.cons_append, List.nil_append] at h
        first
        | omega
        | skip
          refine d_call (cBG_mono (show 1 ≤ 32 by omega) (m_isWord (d := 0) hp (w := w) hS (by omega))) (by simp [cAs, cE2, sev, svl, cen] <;> omega) ?_
          intro rr M' hq
          obtain ⟨hM', hq⟩ := hq
          rw [hM']
          rcases hq with ⟨rfl, q2⟩ | ⟨rfl, q2⟩
          · refine ⟨rfl, ?_⟩
            refine d_br (fun h => ?_) (fun h => ?_)
            · simp only [cCmp, cE2, sev, svl, cen, List.cons_append, List.nil_append] at h
              omega
            · clear h
              refine d_rng (by simp only [clo, chi, cE2, sev, svl, cen, List.cons_append, List.nil_append]; omega) ?_
              refine d_cut [(w : Int), ((w + 1 : Nat) : Int)] (by simp [cE2, sev, svl, cen] <;> omega) ?_
              exact ih (w + 1) _ (by omega) (by have := q2.2; omega)
          · refine ⟨rfl, ?_⟩
            refine d_br (fun h => ?_) (fun h => ?_)
            · clear h
              refine d_rng (by simp only [clo, chi, cE2, sev, svl, cen, List.cons_append, List.nil_append]; omega) ?_
              refine d_cut [wh, ((w + 1 : Nat) : Int)] (by simp [cE2, sev, svl, cen] <;> omega) ?_
              exact ih (w + 1) wh (by omega) (by omega)
            · simp only [cCmp, cE2, sev, svl, cen, List.cons_append, List.nil_append] at h
              omega
  refine cMeth (v := []) (Fd := 90) hp (by decide) gX10_readLine_ok gX10_readLine_m0 (by simp [cAs, cE2, sev, svl, cen]) ?_
  refine cEnds_at gX10_readLine_m0 rfl ?_
  refine d_cut [-1, ((0 : Nat) : Int)] (by simp [cE2, sev, svl, cen] <;> omega) ?_
  exact loop 4 0 (-1) (by omega) (by omega)
end CO14
