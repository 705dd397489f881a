/-! what facts hang on: they live on where that is as it was -/
def sfdv (k : Nat) (ps : List Int) : List (Nat × Int × Int) := match k, ps with
  | 0, [a, b] => [(41, 6600 + a, 6600 + b), (42, 6600 + a, 6600 + b)]
  | 1, [c, n] => [(40, 72, 72 + n), (41, 6600, 6600 + c), (42, 6600, 6600 + c)]
  | 2, [_] => [(37, 0, 6), (40, 0, 72), (41, 0, 6600), (42, 0, 6600)]
  | 3, [r, k] => [(40, 12 * r, 12 * r + k), (40, 72, 72 + k)]
  | 4, [r, k] => [(41, 1100 * r, 1100 * r + k), (41, 6600, 6600 + k), (42, 1100 * r, 1100 * r + k), (42, 6600, 6600 + k)]
  | 5, [_, _] => [(41, 0, 7700), (42, 0, 7700)]
  | 6, [] => [(74, 0, 1), (99, 0, 12), (106, 0, 1)]
  | 7, [_, n] => [(104, 0, n)]
  | _, _ => []
def sfde (k : Nat) (ps : List SE) : List (Nat × SE × SE) := match k, ps with
  | 0, [a, b] => [(41, saddc a 6600, saddc b 6600), (42, saddc a 6600, saddc b 6600)]
  | 1, [c, n] => [(40, sc 72, saddc n 72), (41, sc 6600, saddc c 6600), (42, sc 6600, saddc c 6600)]
  | 2, [_] => [(37, sc 0, sc 6), (40, sc 0, sc 72), (41, sc 0, sc 6600), (42, sc 0, sc 6600)]
  | 3, [r, k] => [(40, smul 12 r, sadd (smul 12 r) k), (40, sc 72, saddc k 72)]
  | 4, [r, k] => [(41, smul 1100 r, sadd (smul 1100 r) k), (41, sc 6600, saddc k 6600), (42, smul 1100 r, sadd (smul 1100 r) k), (42, sc 6600, saddc k 6600)]
  | 5, [_, _] => [(41, sc 0, sc 7700), (42, sc 0, sc 7700)]
  | 6, [] => [(74, sc 0, sc 1), (99, sc 0, sc 12), (106, sc 0, sc 1)]
  | 7, [_, n] => [(104, sc 0, n)]
  | _, _ => []
theorem sfde_ev (ρ : Nat → Int) (k : Nat) (ps : List SE) : (sfde k ps).map (fun q => (q.1, sev ρ q.2.1, sev ρ q.2.2)) = sfdv k (ps.map (sev ρ)) := by
  unfold sfde
  split <;> simp only [sfdv, List.map, saddc_ev, sev_c, smul_ev, sadd_ev, Int.add_comm]
  rename_i h0 h1 h2 h3 h4 h5 h6 h7
  split
  · rename_i heq; match ps, heq, h0 with
    | [a, b], _, h0 => exact (h0 a b rfl rfl).elim
  · rename_i heq; match ps, heq, h1 with
    | [a, b], _, h1 => exact (h1 a b rfl rfl).elim
  · rename_i heq; match ps, heq, h2 with
    | [a], _, h2 => exact (h2 a rfl rfl).elim
  · rename_i heq; match ps, heq, h3 with
    | [a, b], _, h3 => exact (h3 a b rfl rfl).elim
  · rename_i heq; match ps, heq, h4 with
    | [a, b], _, h4 => exact (h4 a b rfl rfl).elim
  · rename_i heq; match ps, heq, h5 with
    | [a, b], _, h5 => exact (h5 a b rfl rfl).elim
  · rename_i heq; match ps, heq, h6 with
    | [], _, h6 => exact (h6 rfl rfl).elim
  · rename_i heq; match ps, heq, h7 with
    | [a, b], _, h7 => exact (h7 a b rfl rfl).elim
  · rfl
theorem sfI_congr {k : Nat} {ps : List Int} {M M' : SMem} (hd : ∀ q ∈ sfdv k ps, ∀ j i : Nat, q.2.1 ≤ (i : Int) → (i : Int) < q.2.2 → M' q.1 j i = M q.1 j i) (h : sfI k ps M) : sfI k ps M' := by
  match k, ps, h with
  | 0, [a, b], h =>
    obtain ⟨n, a', rfl, rfl, h3⟩ := (show sSeg M a b from h)
    refine (show sSeg M' _ _ from ⟨n, a', rfl, rfl, fun h => ?_⟩)
    rw [← h3 h]
    have d41 := hd (41, 6600 + (a' : Int), 6600 + ((a' : Int) + n)) (by simp [sfdv]) 0
    have d42 := hd (42, 6600 + (a' : Int), 6600 + ((a' : Int) + n)) (by simp [sfdv]) 0
    simp only at d41 d42
    exact crun_congr n _ _ h (fun j hj => ⟨d41 _ (by omega) (by omega), d42 _ (by omega) (by omega)⟩)
  | 1, [c, n], h =>
    refine (show sDr M' c n from fun k hk => ?_)
    obtain ⟨a, m, x, h1, h2, h3, h4⟩ := (show sDr M c n from h) k hk
    have d40 := hd (40, 72, 72 + n) (by simp [sfdv]) 0
    have d41 := hd (41, 6600, 6600 + c) (by simp [sfdv]) 0
    have d42 := hd (42, 6600, 6600 + c) (by simp [sfdv]) 0
    simp only at d40 d41 d42
    refine ⟨a, m, x, ?_, ?_, ?_, h4⟩
    · rw [d40 _ (by omega) (by omega)]; exact h1
    · rw [← h2]
      exact crun_congr m _ _ 0 (fun j hj => ⟨d41 _ (by omega) (by omega), d42 _ (by omega) (by omega)⟩)
    · rw [d41 _ (by omega) (by omega)]; exact h3
  | 2, [x], h =>
    have d37 := hd (37, 0, 6) (by simp [sfdv]) 0
    have d40 := hd (40, 0, 72) (by simp [sfdv]) 0
    have d41 := hd (41, 0, 6600) (by simp [sfdv]) 0
    have d42 := hd (42, 0, 6600) (by simp [sfdv]) 0
    simp only at d37 d40 d41 d42
    refine (show sGa M' x from fun r hr hx => ?_)
    obtain ⟨g1, g2⟩ := (show sGa M x from h) r hr hx
    unfold sG
    rw [d37 r (by omega) (by omega)]
    refine ⟨g1, fun k hk => ?_⟩
    obtain ⟨a, m, x, h1, h2, h3, h4⟩ := g2 k hk
    refine ⟨a, m, x, ?_, ?_, ?_, h4⟩
    · rw [d40 _ (by omega) (by omega)]; exact h1
    · rw [← h2]
      exact crun_congr m _ _ 0 (fun j hj => ⟨d41 _ (by omega) (by omega), d42 _ (by omega) (by omega)⟩)
    · rw [d41 _ (by omega) (by omega)]; exact h3
  | 3, [r, k], h =>
    have d1 := hd (40, 12 * r, 12 * r + k) (by simp [sfdv]) 0
    have d2 := hd (40, 72, 72 + k) (by simp [sfdv]) 0
    simp only at d1 d2
    refine (show sCpl M' r k from fun r' j hr hj => ?_)
    rw [d1 _ (by omega) (by omega), d2 _ (by omega) (by omega)]
    exact (show sCpl M r k from h) r' j hr hj
  | 4, [r, k], h =>
    have d1 := hd (41, 1100 * r, 1100 * r + k) (by simp [sfdv]) 0
    have d2 := hd (41, 6600, 6600 + k) (by simp [sfdv]) 0
    have d3 := hd (42, 1100 * r, 1100 * r + k) (by simp [sfdv]) 0
    have d4 := hd (42, 6600, 6600 + k) (by simp [sfdv]) 0
    simp only at d1 d2 d3 d4
    refine (show sCpc M' r k from fun r' j hr hj => ?_)
    rw [d1 _ (by omega) (by omega), d2 _ (by omega) (by omega), d3 _ (by omega) (by omega), d4 _ (by omega) (by omega)]
    exact (show sCpc M r k from h) r' j hr hj
  | 5, [i, h0], h =>
    have d1 := hd (41, 0, 7700) (by simp [sfdv]) 0
    have d2 := hd (42, 0, 7700) (by simp [sfdv]) 0
    simp only at d1 d2
    obtain ⟨i', h', n, x, e1, e2, h1, h2, h3, h4⟩ := (show sWft M i h0 from h)
    refine (show sWft M' i h0 from ⟨i', h', n, x, e1, e2, ?_, ?_, h3, h4⟩)
    · rw [← h1]
      exact crun_congr n _ _ h' (fun j hj => ⟨d1 _ (by omega) (by omega), d2 _ (by omega) (by omega)⟩)
    · rw [d1 _ (by omega) (by omega)]; exact h2
  | 6, [], h =>
    refine (show sEa M' from fun r l h12 hl => ?_)
    have d1 := hd (74, 0, 1) (by simp [sfdv]) r 0 (by decide) (by decide)
    have d3 := hd (106, 0, 1) (by simp [sfdv]) r 0 (by decide) (by decide)
    simp only at d1 d3
    have d2 := hd (99, 0, 12) (by simp [sfdv]) r l (by simp only; omega) (by simp only; omega)
    simp only at d2
    rw [d1] at hl
    rw [d3, d2]
    exact (show sEa M from h) r l h12 hl
  | 7, [c, n], h =>
    have d1 := hd (104, 0, n) (by simp [sfdv]) 0
    simp only at d1
    refine (show sEs M' c n from fun l hl => ?_)
    rw [d1 _ (by omega) (by omega)]
    exact (show sEs M c n from h) l hl
