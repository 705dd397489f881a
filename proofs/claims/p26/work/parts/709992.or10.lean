/-! the reference's rules: where it stands, codes laid -/
abbrev oPd (f i : Nat) : Prop := f = 41 ∨ f = 42 ∨ (f = 1 ∧ (i = 7 ∨ i = 8 ∨ i = 39))
def oOp1 (x : Int) : Int := if x % 32 = 15 then 1 else if x = 7 then 3 else if x = 20 then 4 else if x = 21 then 5 else if x = 22 then 6 else if x = 18 then 7 else if x = 19 then 8 else if x = 5 then 9 else if x = 6 then 10 else 2
def oOp2 (x : Int) : Int := if x % 32 = 15 then x / 32 else if 8 ≤ x ∧ x ≤ 14 then x - 8 else 0
theorem oOp1_b (x : Int) : 0 ≤ oOp1 x ∧ oOp1 x ≤ 10 := by
  unfold oOp1
  repeat' split
  all_goals decide
theorem oOp2_b {x : Int} (h : -2147483648 ≤ x ∧ x ≤ 2147483647) : -2147483648 ≤ oOp2 x ∧ oOp2 x ≤ 2147483647 := by
  unfold oOp2
  split
  · omega
  split
  · omega
  · decide
abbrev oCr (M : SMem) (e : Nat) (cc : List Int) : Prop := ∀ (j : Nat) (x : Int), cc[j]? = some x → M 41 0 (6600 + e + j) = oOp1 x ∧ M 42 0 (6600 + e + j) = oOp2 x
abbrev oRS (T : Nat → Int) (L N n e : Nat) (M : SMem) : Prop := sI tg M ∧ oMT T L N M ∧ oWd M ∧ M 1 0 7 = (n : Int) ∧ n ≤ N ∧ M 1 0 39 = (e : Int) ∧ e ≤ n
def oEm (M : SMem) (e : Nat) (x y : Int) : SMem := supd (supd (supd M 41 0 (6600 + e) x) 42 0 (6600 + e) y) 1 0 39 ((e : Int) + 1)
abbrev oKp (e : Nat) (M MM : SMem) : Prop := ∀ i, i < 6600 + e → MM 41 0 i = M 41 0 i ∧ MM 42 0 i = M 42 0 i
def oDk (T : Nat → Int) (L N n e k : Nat) (M MM : SMem) (n' : Nat) (cc : List Int) : Prop := oFm oPd M MM ∧ oRS T L N n' (e + cc.length) MM ∧ n ≤ n' ∧ cc.length + n + k ≤ n' ∧ oKp e M MM ∧ MM 1 0 8 = 0 ∧ oCr MM e cc
def oDf (T : Nat → Int) (L N n e k : Nat) (M MM : SMem) (RE : Int → Prop) : Prop := oFm oPd M MM ∧ ∃ (n' e' : Nat) (f : Int), oRS T L N n' e' MM ∧ n ≤ n' ∧ e' + n + k ≤ e + n' ∧ e ≤ e' ∧ oKp e M MM ∧ 0 < f ∧ MM 1 0 8 = f ∧ RE f
def oDA (T : Nat → Int) (L N n e : Nat) (M MM : SMem) (RE : Int → Prop) (RO : Nat → List Int → Prop) : Prop := oDf T L N n e 0 M MM RE ∨ ∃ n' cc, oDk T L N n e 0 M MM n' cc ∧ RO n' cc
theorem supd_same {M : SMem} {f j i : Nat} {z : Int} (h : M f j i = z) : supd M f j i z = M := by
  funext f' j' i'
  unfold supd
  by_cases q : f' = f ∧ j' = j ∧ i' = i
  · rw [if_pos q, q.1, q.2.1, q.2.2]
    exact h.symm
  · exact if_neg q
theorem oWd_m {M MM : SMem} (h : ∀ i, MM 16 0 i = M 16 0 i) (g : oWd M) : oWd MM := fun w x hw => (h w).trans (g w x hw)
section CO10A
variable {T : Nat → Int} {L N n e k n1 n2 : Nat} {M M1 M2 M3 : SMem} {cc c2 : List Int} {RE RE' : Int → Prop}
theorem oRS_i (h : oRS T L N n e M) : N ≤ 1000 ∧ n ≤ N ∧ e ≤ n := ⟨h.2.1.1, h.2.2.2.2.1, h.2.2.2.2.2.2⟩
theorem oRS_at (h : oRS T L N n e M) (hn : n + 1 ≤ N) : oRS T L N (n + 1) e (supd M 1 0 7 ((n : Int) + 1)) := by
  obtain ⟨h1, h2, h3, h4, h5, h6, h7⟩ := h
  have := h2.1
  exact ⟨wI h1 (lo := 0) (hi := 1001) rfl ⟨by omega, by omega⟩, oMT_m (fun f i hf => supd_f (by omega)) h2, oWd_m (fun i => supd_f (by decide)) h3, by rw [supd_at]; rfl, hn, by rw [supd_i (by decide)]; exact h6, by omega⟩
theorem oRS_f (h : oRS T L N n e M) {f : Int} (hf : 0 ≤ f ∧ f ≤ 16005) : oRS T L N n e (supd M 1 0 8 f) := by
  obtain ⟨h1, h2, h3, h4, h5, h6, h7⟩ := h
  exact ⟨wI h1 (lo := 0) (hi := 16005) rfl hf, oMT_m (fun f i hf => supd_f (by omega)) h2, oWd_m (fun i => supd_f (by decide)) h3, by rw [supd_i (by decide)]; exact h4, h5, by rw [supd_i (by decide)]; exact h6, h7⟩
theorem oRS_em (h : oRS T L N n e M) {x y : Int} (hx : 0 ≤ x ∧ x ≤ 10) (hy : -2147483648 ≤ y ∧ y ≤ 2147483647) (he : e + 1 ≤ n) : oRS T L N n (e + 1) (oEm M e x y) := by
  obtain ⟨h1, h2, h3, h4, h5, h6, h7⟩ := h
  have := h2.1
  unfold oEm
  exact ⟨wI (wI (wI h1 (lo := 0) (hi := 10) rfl hx) (lo := -2147483648) (hi := 2147483647) rfl hy) (lo := 0) (hi := 1001) rfl ⟨by omega, by omega⟩, oMT_m (fun f i hf => by rw [supd_f (by omega), supd_f (by omega), supd_f (by omega)]) h2, oWd_m (fun i => by rw [supd_f (by decide), supd_f (by decide), supd_f (by decide)]) h3, by rw [supd_i (by decide), supd_f (by decide), supd_f (by decide)]; exact h4, h5, by rw [supd_at]; rfl, he⟩
theorem oEm_F {P : SMem} {x y : Int} (h : oFm oPd P M) : oFm oPd P (oEm M e x y) := oFm_p (Or.inr (Or.inr ⟨rfl, by omega⟩)) (oFm_p (Or.inr (Or.inl rfl)) (oFm_p (Or.inl rfl) h))
theorem oEm_8 {x y : Int} : oEm M e x y 1 0 8 = M 1 0 8 := by
  unfold oEm
  rw [supd_i (by decide), supd_f (by decide), supd_f (by decide)]
theorem oEm_r {x y : Int} {i : Nat} (hi : i ≠ 6600 + e) : oEm M e x y 41 0 i = M 41 0 i ∧ oEm M e x y 42 0 i = M 42 0 i := by
  unfold oEm
  exact ⟨by rw [supd_f (by decide), supd_f (by decide), supd_i hi], by rw [supd_f (by decide), supd_i hi, supd_f (by decide)]⟩
theorem oDk_0 (h : oRS T L N n e M) (h8 : M 1 0 8 = 0) : oDk T L N n e 0 M M n [] := ⟨oFm_r, h, Nat.le_refl _, by show 0 + n + 0 ≤ n; omega, fun _ _ => ⟨rfl, rfl⟩, h8, fun j x hj => by cases hj⟩
theorem oDk_t (h : oDk T L N n e k M M1 n1 cc) (hn : n1 + 1 ≤ N) : oDk T L N n e (k + 1) M (supd M1 1 0 7 ((n1 : Int) + 1)) (n1 + 1) cc := by
  obtain ⟨h1, h2, h3, h4, h5, h6, h7⟩ := h
  exact ⟨oFm_p (Or.inr (Or.inr ⟨rfl, by omega⟩)) h1, oRS_at h2 hn, by omega, by omega, fun i hi => by rw [supd_f (by decide), supd_f (by decide)]; exact h5 i hi, by rw [supd_i (by decide)]; exact h6, fun j x hj => by rw [supd_f (by decide), supd_f (by decide)]; exact h7 j x hj⟩
theorem oDk_s (h : oDk T L N n e k M M1 n1 cc) (g : oDk T L N n1 (e + cc.length) 0 M1 M2 n2 c2) : oDk T L N n e k M M2 n2 (cc ++ c2) := by
  obtain ⟨h1, h2, h3, h4, h5, h6, h7⟩ := h
  obtain ⟨g1, g2, g3, g4, g5, g6, g7⟩ := g
  rw [Nat.add_assoc, ← List.length_append] at g2
  refine ⟨oFm_t h1 g1, g2, by omega, by rw [List.length_append]; omega, fun i hi => ?_, g6, fun j x hj => ?_⟩
  · have a := g5 i (by omega)
    have b := h5 i hi
    exact ⟨a.1.trans b.1, a.2.trans b.2⟩
  · rcases Nat.lt_or_ge j cc.length with q | q
    · rw [List.getElem?_append_left q] at hj
      have a := g5 (6600 + e + j) (by omega)
      have b := h7 j x hj
      exact ⟨a.1.trans b.1, a.2.trans b.2⟩
    · rw [List.getElem?_append_right q] at hj
      have a := g7 _ x hj
      rw [show 6600 + (e + cc.length) + (j - cc.length) = 6600 + e + j by omega] at a
      exact a
theorem oDk_e {a b x : Int} (h : oDk T L N n e (k + 1) M M1 n1 cc) (hen : e ≤ n) (ha : oOp1 x = a) (hb : oOp2 x = b) (hx : -2147483648 ≤ x ∧ x ≤ 2147483647) : oDk T L N n e k M (oEm M1 (e + cc.length) a b) n1 (cc ++ [x]) := by
  subst ha hb
  obtain ⟨h1, h2, h3, h4, h5, h6, h7⟩ := h
  have hi := oRS_i h2
  have g := oRS_em h2 (oOp1_b x) (oOp2_b hx) (x := oOp1 x) (y := oOp2 x)
  refine ⟨oEm_F h1, ?_, h3, by rw [List.length_append]; show cc.length + 1 + n + k ≤ n1; omega, fun i hi2 => ?_, by rw [oEm_8]; exact h6, fun j y hj => ?_⟩
  · rw [List.length_append]
    exact g (by omega)
  · have a := oEm_r (M := M1) (e := e + cc.length) (x := oOp1 x) (y := oOp2 x) (i := i) (by omega)
    have b := h5 i hi2
    exact ⟨a.1.trans b.1, a.2.trans b.2⟩
  · rcases Nat.lt_or_ge j cc.length with q | q
    · rw [List.getElem?_append_left q] at hj
      have a := oEm_r (M := M1) (e := e + cc.length) (x := oOp1 x) (y := oOp2 x) (i := 6600 + e + j) (by omega)
      have b := h7 j y hj
      exact ⟨a.1.trans b.1, a.2.trans b.2⟩
    · rw [List.getElem?_append_right q] at hj
      have hj2 := (List.getElem?_eq_some_iff.mp hj).1
      have e9 : j = cc.length := by
        have : j - cc.length < 1 := hj2
        omega
      subst e9
      rw [Nat.sub_self] at hj
      cases hj
      unfold oEm
      rw [show 6600 + e + cc.length = 6600 + (e + cc.length) by omega]
      exact ⟨by rw [supd_f (by decide), supd_f (by decide), supd_at], by rw [supd_f (by decide), supd_at]⟩
theorem oDf_s (h : oDk T L N n e k M M1 n1 cc) (g : oDf T L N n1 (e + cc.length) 0 M1 M2 RE') (hR : ∀ f, RE' f → RE f) : oDf T L N n e k M M2 RE := by
  obtain ⟨h1, h2, h3, h4, h5, h6, h7⟩ := h
  obtain ⟨g1, n', e', f, g2, g3, g4, g5, g6, g7, g8, g9⟩ := g
  exact ⟨oFm_t h1 g1, n', e', f, g2, by omega, by omega, by omega, fun i hi => ⟨(g6 i (by omega)).1.trans (h5 i hi).1, (g6 i (by omega)).2.trans (h5 i hi).2⟩, g7, g8, hR f g9⟩
theorem oDf_e {x y : Int} (h : oDf T L N n e (k + 1) M M1 RE) (hen : e ≤ n) (hx : 0 ≤ x ∧ x ≤ 10) (hy : -2147483648 ≤ y ∧ y ≤ 2147483647) {e9 : Nat} (h9 : M1 1 0 39 = (e9 : Int)) : oDf T L N n e k M (oEm M1 e9 x y) RE := by
  obtain ⟨h1, n', e', f, h2, h3, h4, h5, h6, h7, h8, hR⟩ := h
  have h39 := h2.2.2.2.2.2.1
  have ee : e9 = e' := by omega
  subst ee
  exact ⟨oEm_F h1, n', e9 + 1, f, oRS_em h2 hx hy (by omega), h3, by omega, by omega, fun i hi => ⟨(oEm_r (by omega)).1.trans (h6 i hi).1, (oEm_r (by omega)).2.trans (h6 i hi).2⟩, h7, by rw [oEm_8]; exact h8, hR⟩
theorem oDf_w (h : oDf T L N n e k M M1 RE) : oDf T L N n e 0 M M1 RE := by
  obtain ⟨h1, n', e', f, h2, h3, h4, h5⟩ := h
  exact ⟨h1, n', e', f, h2, h3, by omega, h5⟩
theorem oDk_w (h : oDk T L N n e k M M1 n1 cc) : oDk T L N n e 0 M M1 n1 cc := by
  obtain ⟨h1, h2, h3, h4, h5⟩ := h
  exact ⟨h1, h2, h3, by omega, h5⟩
/-- a fault where it stands -/
theorem oDk_f {f : Int} (h : oDk T L N n e k M M1 n1 cc) (hf : 0 < f ∧ f ≤ 16005) (hR : RE f) : oDf T L N n e k M (supd M1 1 0 8 f) RE := by
  obtain ⟨h1, h2, h3, h4, h5, h6, h7⟩ := h
  exact ⟨oFm_p (Or.inr (Or.inr ⟨rfl, by omega⟩)) h1, n1, e + cc.length, f, oRS_f h2 ⟨by omega, hf.2⟩, h3, by omega, by omega, fun i hi => by rw [supd_f (by decide), supd_f (by decide)]; exact h5 i hi, hf.1, supd_at _ _ _ _ _, hR⟩
end CO10A
