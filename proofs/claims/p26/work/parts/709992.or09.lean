/-! descent and machine: what each rule of the reference comes to -/
section CO9
variable {T : Nat → Int} {L : Nat}
def oCx (r : Nat) (st : List Nat) : Prop := ∀ a t, st = a :: t → a ≠ 7 ∧ oRk a < r
theorem oCx_tr {r : Nat} {st : List Nat} (hr : 1 ≤ r) (h : oCx r st) : oTr st < r := by
  cases st with
  | nil => exact hr
  | cons a t => exact (h a t rfl).2
theorem oCx_w {r r' : Nat} {st : List Nat} (hr : r ≤ r') (h : oCx r st) : oCx r' st := fun a t e => ⟨(h a t e).1, Nat.lt_of_lt_of_le (h a t e).2 hr⟩
theorem oCx_c {r a : Nat} {st : List Nat} (h7 : a ≠ 7) (h : oRk a < r) : oCx r (a :: st) := fun b t e => by
  cases e
  exact ⟨h7, h⟩
theorem oEp_cx {r : Nat} {st : List Nat} {d : Nat} {c : List Int} (h : oCx r st) : oEp st d c = (st, d, c) := by
  cases st with
  | nil => rfl
  | cons a t => exact oEp_keep (h a t rfl).1
def oTe (T : Nat → Int) (L n dd : Nat) (f : Int) : Prop := ∀ st c, oRu (oK T L) (oV T L) (oN T L) L (oIx T L n) st dd true c = .error f
def oTo (T : Nat → Int) (L n dd n' : Nat) (cc : List Int) : Prop := ∀ st c, oRu (oK T L) (oV T L) (oN T L) L (oIx T L n) st dd true c = oRu (oK T L) (oV T L) (oN T L) L (oIx T L n') (oEp st dd (c ++ cc)).1 (oEp st dd (c ++ cc)).2.1 false (oEp st dd (c ++ cc)).2.2
def oPe (T : Nat → Int) (L r n dd : Nat) (f : Int) : Prop := ∀ st c, oCx r st → oRu (oK T L) (oV T L) (oN T L) L (oIx T L n) st dd true c = .error f
def oPo (T : Nat → Int) (L r n dd n' : Nat) (cc : List Int) : Prop := ∀ st c, oCx r st → oRu (oK T L) (oV T L) (oN T L) L (oIx T L n) st dd true c = oRu (oK T L) (oV T L) (oN T L) L (oIx T L n') st dd false (c ++ cc)
def oQo (T : Nat → Int) (L r n dd n' : Nat) (cc : List Int) : Prop := ∀ st c, oCx r st → oRu (oK T L) (oV T L) (oN T L) L (oIx T L n) st dd true c = if oK T L (oIx T L n') = 18 ∨ oK T L (oIx T L n') = 19 then .error (1 + 16 * (oIx T L n' : Int)) else oRu (oK T L) (oV T L) (oN T L) L (oIx T L n') st dd false (c ++ cc)
theorem oIx_le (n : Nat) : oIx T L n ≤ L := by
  induction n with
  | zero => exact (oS_bd (Nat.zero_le _)).2
  | succ n ih => exact (oS_bd (oE_le ih)).2
variable {n n1 n2 dd r : Nat} {cc c2 : List Int} {f : Int}
theorem oP_te (h : oTe T L n dd f) : oPe T L r n dd f := fun st c _ => h st c
theorem oP_to (h : oTo T L n dd n1 cc) : oPo T L r n dd n1 cc := fun st c hc => by
  rw [h st c, oEp_cx hc]
theorem oP_w {r' : Nat} (hr : r' ≤ r) (h : oPe T L r n dd f) : oPe T L r' n dd f := fun st c hc => h st c (oCx_w hr hc)
theorem oPo_w {r' : Nat} (hr : r' ≤ r) (h : oPo T L r n dd n1 cc) : oPo T L r' n dd n1 cc := fun st c hc => h st c (oCx_w hr hc)
theorem oQo_w {r' : Nat} (hr : r' ≤ r) (h : oQo T L r n dd n1 cc) : oQo T L r' n dd n1 cc := fun st c hc => h st c (oCx_w hr hc)
/-- a sign that joins, read behind the first part -/
theorem oJoin {a : Nat} (ha : oK T L (oIx T L n1) = a) (hr : 1 ≤ oRk a) (h : oPo T L (oRk a) n dd n1 cc) : ∀ st c, oCx (oRk a) st → oRu (oK T L) (oV T L) (oN T L) L (oIx T L n) st dd true c = oRu (oK T L) (oV T L) (oN T L) L (oIx T L (n1 + 1)) (a :: st) dd true (c ++ cc) := fun st c hc => by
  rw [h st c hc]
  have e := oRu_join (V := oV T L) (st := st) (d := dd) (c := c ++ cc) (oTk_of (T := T) (L := L)) (oIx_le (T := T) n1) (by rw [ha]; exact hr) (by rw [ha]; exact oCx_tr hr hc)
  rw [ha] at e
  exact e
theorem oApp (c cc c2 : List Int) (a : Int) : c ++ cc ++ c2 ++ [a] = c ++ (cc ++ c2 ++ [a]) := by
  rw [List.append_assoc, List.append_assoc, List.append_assoc]
theorem oPr_e (ha : oK T L (oIx T L n1) = 22) (h : oPo T L 4 n dd n1 cc) (h2 : oTe T L (n1 + 1) dd f) : oPe T L 4 n dd f := fun st c hc => by
  rw [oJoin ha (by decide) h st c hc]
  exact h2 _ _
theorem oPr_o (ha : oK T L (oIx T L n1) = 22) (h : oPo T L 4 n dd n1 cc) (h2 : oTo T L (n1 + 1) dd n2 c2) : oPo T L 4 n dd n2 (cc ++ c2 ++ [22]) := fun st c hc => by
  rw [oJoin ha (by decide) h st c hc, h2, oEp_keep (by decide)]
  show oRu (oK T L) (oV T L) (oN T L) L (oIx T L n2) (22 :: st) dd false (c ++ cc ++ c2) = _
  rw [oRu_eager oTk_of (oIx_le n2) (by decide) (oJ4 _), ← oApp]
  rfl
theorem oSu_e {a : Nat} (ha : oK T L (oIx T L n1) = a) (ha2 : a = 20 ∨ a = 21) (h : oPo T L 3 n dd n1 cc) (h2 : oPe T L 4 (n1 + 1) dd f) : oPe T L 3 n dd f := fun st c hc => by
  have hr : oRk a = 3 := by rcases ha2 with e | e <;> rw [e] <;> rfl
  rw [oJoin ha (by omega) (by rw [hr]; exact h) st c (by rw [hr]; exact hc)]
  exact h2 _ _ (oCx_c (by omega) (by omega))
theorem oSu_o {a : Nat} (ha : oK T L (oIx T L n1) = a) (ha2 : a = 20 ∨ a = 21) (h : oPo T L 3 n dd n1 cc) (h2 : oPo T L 4 (n1 + 1) dd n2 c2) (hk : oK T L (oIx T L n2) ≠ 22) : oPo T L 3 n dd n2 (cc ++ c2 ++ [(a : Int)]) := fun st c hc => by
  have hr : oRk a = 3 := by rcases ha2 with e | e <;> rw [e] <;> rfl
  rw [oJoin ha (by omega) (by rw [hr]; exact h) st c (by rw [hr]; exact hc), h2 _ _ (oCx_c (by omega) (by omega)), oRu_eager oTk_of (oIx_le n2) (by omega) (by rw [hr]; exact oJ3 hk), ← oApp]
theorem oTs_e {a : Nat} (ha : oK T L (oIx T L n1) = a) (ha2 : a = 18 ∨ a = 19) (h : oPo T L 3 n dd n1 cc) (h2 : oPe T L 3 (n1 + 1) dd f) : oPe T L 2 n dd f := fun st c hc => by
  have hr : oRk a = 2 := by rcases ha2 with e | e <;> rw [e] <;> rfl
  rw [oJoin ha (by omega) (by rw [hr]; exact oPo_w (by decide) h) st c (by rw [hr]; exact hc)]
  exact h2 _ _ (oCx_c (by omega) (by omega))
theorem oTs_o {a : Nat} (ha : oK T L (oIx T L n1) = a) (ha2 : a = 18 ∨ a = 19) (h : oPo T L 3 n dd n1 cc) (h2 : oPo T L 3 (n1 + 1) dd n2 c2) (hk : oK T L (oIx T L n2) ≠ 20 ∧ oK T L (oIx T L n2) ≠ 21 ∧ oK T L (oIx T L n2) ≠ 22) : oQo T L 2 n dd n2 (cc ++ c2 ++ [(a : Int)]) := fun st c hc => by
  have hr : oRk a = 2 := by rcases ha2 with e | e <;> rw [e] <;> rfl
  rw [oJoin ha (by omega) (by rw [hr]; exact oPo_w (by decide) h) st c (by rw [hr]; exact hc), h2 _ _ (oCx_c (by omega) (by omega))]
  by_cases g : oK T L (oIx T L n2) = 18 ∨ oK T L (oIx T L n2) = 19
  · rw [if_pos g]
    exact oRu_twice (oIx_le n2) hr (by rcases g with e | e <;> rw [e] <;> rfl)
  · rw [if_neg g, oRu_eager oTk_of (oIx_le n2) (by omega) (by rw [hr]; exact Nat.le_trans (oJ1 hk.2.2 (fun q => g (Or.inl q)) (fun q => g (Or.inr q)) hk.1 hk.2.1) (by decide)), ← oApp]
theorem oTs_1 (h : oPo T L 3 n dd n1 cc) (hk : oK T L (oIx T L n1) ≠ 18 ∧ oK T L (oIx T L n1) ≠ 19) : oQo T L 2 n dd n1 cc := fun st c hc => by
  rw [if_neg (by omega)]
  exact h st c (oCx_w (by decide) hc)
theorem oAl_p {a : Nat} (ha : oK T L (oIx T L n1) = a) (ha2 : a = 5 ∨ a = 6) (h : oQo T L 1 n dd n1 cc) : oPo T L 1 n dd n1 cc := fun st c hc => by
  rw [h st c hc, if_neg (by omega)]
theorem oAl_e {a : Nat} (ha : oK T L (oIx T L n1) = a) (ha2 : a = 5 ∨ a = 6) (h : oQo T L 1 n dd n1 cc) (h2 : oPe T L 2 (n1 + 1) dd f) : oPe T L 1 n dd f := fun st c hc => by
  have hr : oRk a = 1 := by rcases ha2 with e | e <;> rw [e] <;> rfl
  rw [oJoin ha (by omega) (by rw [hr]; exact oAl_p ha ha2 h) st c (by rw [hr]; exact hc)]
  exact h2 _ _ (oCx_c (by omega) (by omega))
theorem oAl_o {a : Nat} (ha : oK T L (oIx T L n1) = a) (ha2 : a = 5 ∨ a = 6) (h : oQo T L 1 n dd n1 cc) (h2 : oQo T L 2 (n1 + 1) dd n2 c2) (hk : oK T L (oIx T L n2) ≠ 20 ∧ oK T L (oIx T L n2) ≠ 21 ∧ oK T L (oIx T L n2) ≠ 22) : oQo T L 1 n dd n2 (cc ++ c2 ++ [(a : Int)]) := fun st c hc => by
  have hr : oRk a = 1 := by rcases ha2 with e | e <;> rw [e] <;> rfl
  rw [oJoin ha (by omega) (by rw [hr]; exact oAl_p ha ha2 h) st c (by rw [hr]; exact hc), h2 _ _ (oCx_c (by omega) (by omega))]
  by_cases g : oK T L (oIx T L n2) = 18 ∨ oK T L (oIx T L n2) = 19
  · rw [if_pos g, if_pos g]
  · rw [if_neg g, if_neg g, oRu_eager oTk_of (oIx_le n2) (by omega) (by rw [hr]; exact oJ1 hk.2.2 (fun q => g (Or.inl q)) (fun q => g (Or.inr q)) hk.1 hk.2.1), ← oApp]
/-! parts -/
theorem oPt_deep (hk : (8 ≤ oK T L (oIx T L n) ∧ oK T L (oIx T L n) ≤ 15) ∨ oK T L (oIx T L n) = 7 ∨ oK T L (oIx T L n) = 16) (hd : 5 ≤ dd) : oTe T L n dd (5 + 16 * (oIx T L n : Int)) := fun _ _ => oRu_deep (oIx_le n) hk hd
theorem oPt_bad (hk : ¬ (8 ≤ oK T L (oIx T L n) ∧ oK T L (oIx T L n) ≤ 15)) (h7 : oK T L (oIx T L n) ≠ 7) (h16 : oK T L (oIx T L n) ≠ 16) : oTe T L n dd (1 + 16 * (oIx T L n : Int)) := fun _ _ => oRu_bad (oIx_le n) hk h7 h16
theorem oPt_num (hk : 8 ≤ oK T L (oIx T L n) ∧ oK T L (oIx T L n) ≤ 15) (hd : dd < 5) : oTo T L n dd (n + 1) [oCo (oK T L (oIx T L n)) (oV T L (oIx T L n))] := fun _ _ => oRu_num oTk_of (oIx_le n) hk hd
theorem oPt_ne (hk : oK T L (oIx T L n) = 7) (hd : dd < 5) (h : oTe T L (n + 1) (dd + 1) f) : oTe T L n dd f := fun st c => by
  rw [oRu_open oTk_of (oIx_le n) (Or.inl hk) hd]
  exact h _ _
theorem oPt_no (hk : oK T L (oIx T L n) = 7) (hd : dd < 5) (h : oTo T L (n + 1) (dd + 1) n1 cc) : oTo T L n dd n1 (cc ++ [7]) := fun st c => by
  have e := oRu_open (V := oV T L) (st := st) (c := c) oTk_of (oIx_le n) (Or.inl hk) hd
  rw [e, hk]
  have e2 := h (7 :: st) c
  rw [oEp_not, List.append_assoc] at e2
  exact e2
theorem oPt_oe (hk : oK T L (oIx T L n) = 16) (hd : dd < 5) (h : oPe T L 1 (n + 1) (dd + 1) f) : oTe T L n dd f := fun st c => by
  rw [oRu_open oTk_of (oIx_le n) (Or.inr hk) hd, hk]
  exact h _ _ (oCx_c (by decide) (by decide))
theorem oPt_oc (hk : oK T L (oIx T L n) = 16) (hd : dd < 5) (h : oQo T L 1 (n + 1) (dd + 1) n1 cc) (h17 : oK T L (oIx T L n1) = 17) : oTo T L n dd (n1 + 1) cc := fun st c => by
  have e := oRu_open (V := oV T L) (st := st) (c := c) oTk_of (oIx_le n) (Or.inr hk) hd
  have e2 := h (16 :: st) c (oCx_c (by decide) (by decide))
  rw [if_neg (by omega)] at e2
  rw [e, hk]
  exact e2.trans (oRu_close oTk_of (oIx_le n1) h17 rfl)
theorem oRk_0 {k : Nat} (h : k ≠ 5 ∧ k ≠ 6 ∧ k ≠ 18 ∧ k ≠ 19 ∧ k ≠ 20 ∧ k ≠ 21 ∧ k ≠ 22) : oRk k = 0 := by
  unfold oRk
  rw [if_neg (by omega), if_neg (by omega), if_neg (by omega), if_neg (by omega)]
theorem oPt_ox (hk : oK T L (oIx T L n) = 16) (hd : dd < 5) (h : oQo T L 1 (n + 1) (dd + 1) n1 cc) (h17 : oK T L (oIx T L n1) ≠ 17) (hj : oK T L (oIx T L n1) ≠ 5 ∧ oK T L (oIx T L n1) ≠ 6 ∧ oK T L (oIx T L n1) ≠ 20 ∧ oK T L (oIx T L n1) ≠ 21 ∧ oK T L (oIx T L n1) ≠ 22) : oTe T L n dd (1 + 16 * (oIx T L n1 : Int)) := fun st c => by
  have e := oRu_open (V := oV T L) (st := st) (c := c) oTk_of (oIx_le n) (Or.inr hk) hd
  have e2 := h (16 :: st) c (oCx_c (by decide) (by decide))
  rw [e, hk]
  refine e2.trans ?_
  by_cases g : oK T L (oIx T L n1) = 18 ∨ oK T L (oIx T L n1) = 19
  · rw [if_pos g]
  · rw [if_neg g]
    exact oRu_e1 (oIx_le n1) rfl (oRk_0 (by omega)) h17
/-- a line's end -/
theorem oEn_s (h : oQo T L 1 n 0 n1 cc) (h23 : oK T L (oIx T L n1) = 23) : ∀ c, oRu (oK T L) (oV T L) (oN T L) L (oIx T L n) [] 0 true c = .ok (oIx T L n1, c ++ cc) := fun c => by
  rw [h [] c (fun _ _ e => by cases e), if_neg (by omega)]
  exact oRu_fin (oIx_le n1) h23
theorem oEn_x (h : oQo T L 1 n 0 n1 cc) (h23 : oK T L (oIx T L n1) ≠ 23) (hj : oK T L (oIx T L n1) ≠ 5 ∧ oK T L (oIx T L n1) ≠ 6 ∧ oK T L (oIx T L n1) ≠ 20 ∧ oK T L (oIx T L n1) ≠ 21 ∧ oK T L (oIx T L n1) ≠ 22) : ∀ c, oRu (oK T L) (oV T L) (oN T L) L (oIx T L n) [] 0 true c = .error (1 + 16 * (oIx T L n1 : Int)) := fun c => by
  rw [h [] c (fun _ _ e => by cases e)]
  by_cases g : oK T L (oIx T L n1) = 18 ∨ oK T L (oIx T L n1) = 19
  · rw [if_pos g]
  · rw [if_neg g]
    exact oRu_e0 (oIx_le n1) (oRk_0 (by omega)) h23
end CO9
/-! the reference's words and signs -/
def oWd (M : SMem) : Prop := ∀ (w : Nat) (x : Int), oWt[w]? = some x → M 16 0 w = x
theorem oWt_lt {w : Nat} (h : w < 15) : ∃ x, oWt[w]? = some x := ⟨oWt[w]'h, List.getElem?_eq_getElem h⟩
theorem oSg_inj {x c : Int} (h : oSg c ≠ 25) (e : oSg x = oSg c) : x = c := by
  have h1 := oSg_iff.mp h
  have h2 := oSg_iff.mp (show oSg x ≠ 25 by rw [e]; exact h)
  rcases h1 with rfl | rfl | rfl | rfl | rfl | rfl | rfl | rfl <;> rcases h2 with rfl | rfl | rfl | rfl | rfl | rfl | rfl | rfl <;> first | rfl | exact absurd e (by decide)
theorem oSg_16 {c : Int} (h : oSg c ≠ 25) : 16 ≤ oSg c ∧ oSg c ≤ 23 := by
  rcases oSg_iff.mp h with rfl | rfl | rfl | rfl | rfl | rfl | rfl | rfl <;> decide
section CO9B
variable {T : Nat → Int} {L n s : Nat} {M : SMem}
theorem oMt_k (h : oMt T L M n s) : (M 13 0 n = 0 ↔ oK T L s = 24) ∧ (M 13 0 n = 2 ↔ oK T L s = 15) ∧ (oK T L s = 15 → M 15 0 n = oV T L s) ∧ (∀ w, w < 15 → oWd M → ((M 13 0 n = 1 ∧ M 15 0 n = M 16 0 w) ↔ oK T L s = w)) ∧ ∀ c, oSg c ≠ 25 → ((M 13 0 n = 3 ∧ M 15 0 n = c) ↔ oK T L s = oSg c) := by
  obtain ⟨h1, h2, h3⟩ := h
  rcases h3 with ⟨a1, a2⟩ | ⟨a1, a2, a3⟩ | ⟨a1, a2, a3, a4⟩ | ⟨a1, a2, a3, a4, a5⟩
  · have k : oK T L s = 24 := by unfold oK; rw [if_pos (by omega)]
    rw [a2, k]
    exact ⟨⟨fun _ => rfl, fun _ => rfl⟩, ⟨fun q => by omega, fun q => by omega⟩, fun q => by omega, fun w hw _ => ⟨fun q => by omega, fun q => by omega⟩, fun c hc => ⟨fun q => by omega, fun q => by have := oSg_16 hc; omega⟩⟩
  · have k : oK T L s = if oE T L s - s ≤ 8 then oFi (oWe T s (oE T L s - s)) 0 oWt else 25 := by unfold oK; rw [if_neg (by omega), if_pos a2]
    have hfi := oFi_lt (x := oWe T s (oE T L s - s)) (r := oWt) (k := 0) (by decide)
    rcases a3 with ⟨b1, b2, b3⟩ | ⟨b1, b2⟩
    · rw [if_pos b1] at k
      rw [b2, k, b3]
      refine ⟨⟨fun q => by omega, fun q => by omega⟩, ⟨fun q => by omega, fun q => by omega⟩, fun q => by omega, fun w hw hW => ?_, fun c hc => ⟨fun q => by omega, fun q => by have := oSg_16 hc; omega⟩⟩
      obtain ⟨x, hx⟩ := oWt_lt hw
      rw [oFi_iff hw, hx, hW w x hx]
      exact ⟨fun q => congrArg some q.2.symm, fun q => ⟨rfl, (Option.some.inj q).symm⟩⟩
    · rw [if_neg (by omega)] at k
      rw [b2, k]
      exact ⟨⟨fun q => by omega, fun q => by omega⟩, ⟨fun q => by omega, fun q => by omega⟩, fun q => by omega, fun w hw _ => ⟨fun q => by omega, fun q => by omega⟩, fun c hc => ⟨fun q => by omega, fun q => by have := oSg_16 hc; omega⟩⟩
  · have k : oK T L s = if oE T L s - s ≤ 4 then 15 else 25 := by unfold oK; rw [if_neg (by omega), a2, if_neg (by decide), if_pos a3]
    rcases a4 with ⟨b1, b2, b3⟩ | ⟨b1, b2⟩
    · rw [if_pos b1] at k
      rw [b2, k, b3]
      exact ⟨⟨fun q => by omega, fun q => by omega⟩, ⟨fun _ => rfl, fun _ => rfl⟩, fun _ => rfl, fun w hw _ => ⟨fun q => by omega, fun q => by omega⟩, fun c hc => ⟨fun q => by omega, fun q => by have := oSg_16 hc; omega⟩⟩
    · rw [if_neg (by omega)] at k
      rw [b2, k]
      exact ⟨⟨fun q => by omega, fun q => by omega⟩, ⟨fun q => by omega, fun q => by omega⟩, fun q => by omega, fun w hw _ => ⟨fun q => by omega, fun q => by omega⟩, fun c hc => ⟨fun q => by omega, fun q => by have := oSg_16 hc; omega⟩⟩
  · have k : oK T L s = oSg (T s) := by unfold oK; rw [if_neg (by omega), a2, if_neg (by decide), a3, if_neg (by decide)]
    rcases a5 with ⟨b1, b2⟩ | ⟨b1, b2⟩
    · have h16 := oSg_16 b1
      rw [b2, k, a4]
      refine ⟨⟨fun q => by omega, fun q => by omega⟩, ⟨fun q => by omega, fun q => by omega⟩, fun q => by omega, fun w hw _ => ⟨fun q => by omega, fun q => by omega⟩, fun c hc => ⟨fun q => by rw [q.2], fun q => ⟨rfl, oSg_inj hc q⟩⟩⟩
    · rw [b2, k, b1]
      exact ⟨⟨fun q => by omega, fun q => by omega⟩, ⟨fun q => by omega, fun q => by omega⟩, fun q => by omega, fun w hw _ => ⟨fun q => by omega, fun q => by omega⟩, fun c hc => ⟨fun q => by omega, fun q => by have := oSg_16 hc; omega⟩⟩
end CO9B
