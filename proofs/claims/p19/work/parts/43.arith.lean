/-! numbers and branches -/
theorem si32 (x : Int32) : -2147483648 ≤ x.toInt ∧ x.toInt ≤ 2147483647 := by
  have h1 := Int32.le_toInt x
  have h2 := Int32.toInt_lt x
  omega
theorem si64 (x : Int64) : -9223372036854775808 ≤ x.toInt ∧ x.toInt ≤ 9223372036854775807 := by
  have h1 := Int64.le_toInt x
  have h2 := Int64.toInt_lt x
  omega
theorem sbm32 {x : Int} (h1 : -2147483648 ≤ x) (h2 : x ≤ 2147483647) : x.bmod (2 ^ 32) = x := by
  rw [Int.bmod_def]
  split <;> omega
theorem sbm64 {x : Int} (h1 : -9223372036854775808 ≤ x) (h2 : x ≤ 9223372036854775807) : x.bmod (2 ^ 64) = x := by
  rw [Int.bmod_def]
  split <;> omega
theorem siadd {x y : Int32} {z : Int} (h : -2147483648 ≤ z ∧ z ≤ 2147483647) (e : x.toInt + y.toInt = z) : (x + y).toInt = z := by
  rw [Int32.toInt_add, e, sbm32 h.1 h.2]
theorem sisub {x y : Int32} {z : Int} (h : -2147483648 ≤ z ∧ z ≤ 2147483647) (e : x.toInt - y.toInt = z) : (x - y).toInt = z := by
  rw [Int32.toInt_sub, e, sbm32 h.1 h.2]
theorem simul {x y : Int32} {z : Int} (h : -2147483648 ≤ z ∧ z ≤ 2147483647) (e : x.toInt * y.toInt = z) : (x * y).toInt = z := by
  rw [Int32.toInt_mul, e, sbm32 h.1 h.2]
theorem sladd {x y : Int64} {z : Int} (h : -9223372036854775808 ≤ z ∧ z ≤ 9223372036854775807) (e : x.toInt + y.toInt = z) : (x + y).toInt = z := by
  rw [Int64.toInt_add, e, sbm64 h.1 h.2]
theorem slsub {x y : Int64} {z : Int} (h : -9223372036854775808 ≤ z ∧ z ≤ 9223372036854775807) (e : x.toInt - y.toInt = z) : (x - y).toInt = z := by
  rw [Int64.toInt_sub, e, sbm64 h.1 h.2]
theorem slmul {x y : Int64} {z : Int} (h : -9223372036854775808 ≤ z ∧ z ≤ 9223372036854775807) (e : x.toInt * y.toInt = z) : (x * y).toInt = z := by
  rw [Int64.toInt_mul, e, sbm64 h.1 h.2]
theorem siand {x y : Int32} {k : Nat} (h : y.toInt = (k : Int)) : 0 ≤ (x &&& y).toInt ∧ (x &&& y).toInt ≤ (k : Int) := by
  have hy : y.toBitVec.toInt = (k : Int) := h
  have h2 := y.toBitVec.toInt_eq_toNat_cond
  have hk : k < 2147483648 := by
    have := (si32 y).2
    omega
  have h3 : y.toBitVec.toNat = k := by
    rw [hy] at h2
    split at h2
    · omega
    · have := y.toBitVec.isLt
      omega
  have h4 : (x &&& y).toBitVec.toNat ≤ k := by
    rw [Int32.toBitVec_and, BitVec.toNat_and, h3]
    exact Nat.and_le_right
  have h5 : (x &&& y).toInt = ((x &&& y).toBitVec.toNat : Int) := by
    show (x &&& y).toBitVec.toInt = _
    rw [BitVec.toInt_eq_toNat_cond]
    split
    · rfl
    · omega
  omega
/-! branches: what is not possible has no way on -/
def sfK {α : Type} (K : SK) (k : SK → α) : α := match K with
  | (B, r) => (match B with
    | [] => k ([], r)
    | q :: B => sfi q.2.1 (fun a => sfi q.2.2 (fun b => k ((q.1, a, b) :: B, r))))
theorem sfK_eq {α : Type} (K : SK) (k : SK → α) : sfK K k = k K := by
  obtain ⟨B, r⟩ := K
  cases B with
  | nil => rfl
  | cons q B => simp [sfK, sfi_eq]
def sge (K : SK) (e : SE) (k : SK → SX) : SX := cond (sbad K e) (some []) (sfe e (fun e => sfK (sput K e) k))
theorem sge_ok {ρ : Nat → Int} {K : SK} {e : SE} {k : SK → SX} {xs : List SS} (hK : sK ρ K) (h : sub (sge K e k) xs) (he : 0 ≤ sev ρ e) : ∃ K', sK ρ K' ∧ sub (k K') xs := by
  unfold sge at h
  cases hb : sbad K e with
  | true => exact (sbad_ok hK hb he).elim
  | false =>
    rw [hb, cond_false, sfe_eq, sfK_eq] at h
    exact ⟨_, sput_ok hK he, h⟩
def seq0 (K : SK) (e : SE) (k : SK → SX) : SX := sge K e (fun K => sge K (sneg e) k)
theorem seq0_ok {ρ : Nat → Int} {K : SK} {e : SE} {k : SK → SX} {xs : List SS} (hK : sK ρ K) (h : sub (seq0 K e k) xs) (he : sev ρ e = 0) : ∃ K', sK ρ K' ∧ sub (k K') xs := by
  obtain ⟨K1, h1, h2⟩ := sge_ok hK h (by omega)
  exact sge_ok h1 h2 (by rw [sneg_ev]; omega)
/-- a number of which nothing is known is not 0: it is below or above -/
def snf (K : SK) (e : SE) : Bool := match e.2 with
  | [q] => (match sbd q.1 K.1 with
    | some b => decide (b.1 = -2147483648) && decide (b.2 = 2147483647)
    | none => false)
  | _ => false
def sne0 (K : SK) (e : SE) (k : SK → SX) : SX := cond (sent K e && sent K (sneg e)) (some []) (cond (snf K e) (sapp (sge K (saddc e (-1)) k) (sge K (saddc (sneg e) (-1)) k)) (sfK (sne K e) k))
theorem sne0_ok {ρ : Nat → Int} {K : SK} {e : SE} {k : SK → SX} {xs : List SS} (hK : sK ρ K) (h : sub (sne0 K e k) xs) (he : sev ρ e ≠ 0) : ∃ K', sK ρ K' ∧ sub (k K') xs := by
  unfold sne0 at h
  cases hb : (sent K e && sent K (sneg e)) with
  | true =>
    rw [Bool.and_eq_true] at hb
    have h1 := sent_ok hK hb.1
    have h2 := sent_ok hK hb.2
    rw [sneg_ev] at h2
    omega
  | false =>
    rw [hb, cond_false] at h
    cases hn : snf K e with
    | true =>
      rw [hn, cond_true] at h
      obtain ⟨h1, h2⟩ := sub_app h
      by_cases hp : 0 < sev ρ e
      · exact sge_ok hK h1 (by rw [saddc_ev]; omega)
      · exact sge_ok hK h2 (by rw [saddc_ev, sneg_ev]; omega)
    | false =>
      rw [hn, cond_false, sfK_eq] at h
      exact ⟨_, sne_ok hK he, h⟩
/-- by the kind of the test -/
def scn (op : ClassFile.Cond) (K : SK) (e : SE) (k : SK → SX) : SX := match op with
  | .eq => seq0 K e k
  | .ne => sne0 K e k
  | .lt => sge K (saddc (sneg e) (-1)) k
  | .ge => sge K e k
  | .gt => sge K (saddc e (-1)) k
  | .le => sge K (sneg e) k
def scnN (op : ClassFile.Cond) (K : SK) (e : SE) (k : SK → SX) : SX := match op with
  | .eq => sne0 K e k
  | .ne => seq0 K e k
  | .lt => sge K e k
  | .ge => sge K (saddc (sneg e) (-1)) k
  | .gt => sge K (sneg e) k
  | .le => sge K (saddc e (-1)) k
def sCmp (op : ClassFile.Cond) (x : Int) : Prop := match op with
  | .eq => x = 0
  | .ne => x ≠ 0
  | .lt => x < 0
  | .ge => 0 ≤ x
  | .gt => 0 < x
  | .le => x ≤ 0
theorem scn_ok {op : ClassFile.Cond} {ρ : Nat → Int} {K : SK} {e : SE} {k : SK → SX} {xs : List SS} (hK : sK ρ K) (h : sub (scn op K e k) xs) (he : sCmp op (sev ρ e)) : ∃ K', sK ρ K' ∧ sub (k K') xs := by
  cases op with
  | eq => exact seq0_ok hK h he
  | ne => exact sne0_ok hK h he
  | lt => exact sge_ok hK h (by have he : sev ρ e < 0 := he; rw [saddc_ev, sneg_ev]; omega)
  | ge => exact sge_ok hK h he
  | gt => exact sge_ok hK h (by have he : 0 < sev ρ e := he; rw [saddc_ev]; omega)
  | le => exact sge_ok hK h (by have he : sev ρ e ≤ 0 := he; rw [sneg_ev]; omega)
theorem scnN_ok {op : ClassFile.Cond} {ρ : Nat → Int} {K : SK} {e : SE} {k : SK → SX} {xs : List SS} (hK : sK ρ K) (h : sub (scnN op K e k) xs) (he : ¬ sCmp op (sev ρ e)) : ∃ K', sK ρ K' ∧ sub (k K') xs := by
  cases op with
  | eq => exact sne0_ok hK h he
  | ne => exact seq0_ok hK h (by have he : ¬ sev ρ e ≠ 0 := he; omega)
  | lt => exact sge_ok hK h (by have he : ¬ sev ρ e < 0 := he; omega)
  | ge => exact sge_ok hK h (by have he : ¬ 0 ≤ sev ρ e := he; rw [saddc_ev, sneg_ev]; omega)
  | gt => exact sge_ok hK h (by have he : ¬ 0 < sev ρ e := he; rw [sneg_ev]; omega)
  | le => exact sge_ok hK h (by have he : ¬ sev ρ e ≤ 0 := he; rw [saddc_ev]; omega)
