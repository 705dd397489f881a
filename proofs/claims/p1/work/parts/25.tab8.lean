/-! the law behind its case 8's first call: tables of their own -/
def zzm8 : List ZMe := [(RL, yL_law, cL_law, 7, (some .boolean), 600000, 7300000),
  (RX10, yX10_layer, cX10_layer, 5, (some .int), 0, 0),
  (RX10, yX10_isCut, cX10_isCut, 3, (some .boolean), 0, 0),
  (RX10, yX10_isPlace, cX10_isPlace, 2, (some .boolean), 0, 0),
  (RX10, yX10_within, cX10_within, 3, (some .boolean), 0, 0),
  (RX10, yX10_thrown, cX10_thrown, 1, (some .int), 0, 0)]
def zu0 : List ZI := [(23, .iload 4, 2, []), (25, .aload_n 0, 1, []), (26, .arraylength, 1, []), (27, .bipush 7, 2, []), (29, .isub, 1, []), (30, .if_icmp .gt 1475, 3, []), (681, .istore 5, 2, []), (683, .aload_n 2, 1, []), (684, .aload_n 0, 1, []), (685, .iload 4, 2, []), (687, .iconst 1, 1, []), (688, .iadd, 1, []), (689, .iaload, 1, []), (690, .aload_n 0, 1, []), (691, .iload 4, 2, []), (693, .iconst 2, 1, []), (694, .iadd, 1, []), (695, .iaload, 1, []), (696, .aload_n 0, 1, []), (697, .iload 4, 2, []), (699, .iconst 3, 1, []), (700, .iadd, 1, []), (701, .iaload, 1, []), (702, .invokevirtual 64, 3, [2, 1, 3, 9, 1558, 1559, 127, 1561, 1560]), (705, .istore 6, 2, []), (707, .aload_n 2, 1, []), (708, .invokevirtual 65, 3, [2, 5, 0, 9, 1260, 1261, 127, 1263, 1262]), (711, .iload 5, 2, []), (713, .if_icmp .eq 5, 3, []), (718, .iload 5, 2, []), (720, .ifCond .ne 15, 3, []), (735, .goto 764, 3, []), (1499, .iinc 4 7, 3, []), (1502, .goto (-1479), 3, []), (1505, .iconst 1, 1, []), (1506, .ireturn, 1, [])]
def zu1 : List ZI := [(0, .aload_n 0, 1, []), (1, .aload_n 0, 1, []), (2, .iload_n 1, 1, []), (3, .iload_n 2, 1, []), (4, .invokevirtual 283, 3, [2, 2, 2, 9, 1554, 1556, 127, 1557, 77]), (7, .ifCond .eq 16, 3, []), (23, .iconst 1, 1, []), (24, .putfield 1, 3, [9, 0, 0, 0, 1294]), (27, .aload_n 0, 1, []), (28, .getfield 1, 3, [9, 0, 1294]), (31, .ifCond .le 5, 3, []), (34, .iconst 0, 1, []), (35, .ireturn, 1, [])]
def zu2 : List ZI := [(0, .aload_n 0, 1, []), (1, .iload_n 1, 1, []), (2, .invokevirtual 277, 3, [2, 3, 1, 9, 1531, 1533, 127, 1534, 74]), (5, .ifCond .eq 21, 3, []), (26, .iconst 0, 1, []), (27, .ireturn, 1, [])]
def zu3 : List ZI := [(0, .iload_n 1, 1, []), (1, .iconst 0, 1, []), (2, .bipush 11, 2, []), (4, .invokestatic 244, 3, [0, 4, 3, 0, 1482, 1483, 127, 1484]), (7, .ifCond .eq 16, 3, []), (10, .aload_n 0, 1, []), (11, .getfield 83, 3, [9, 17, 1311]), (14, .iload_n 1, 1, []), (15, .baload, 1, []), (16, .ifCond .eq 7, 3, []), (23, .iconst 0, 1, []), (24, .ireturn, 1, [])]
def zu4 : List ZI := [(0, .iload_n 0, 1, []), (1, .iload_n 1, 1, []), (2, .if_icmp .lt 12, 3, []), (5, .iload_n 0, 1, []), (6, .iload_n 2, 1, []), (7, .if_icmp .gt 7, 3, []), (10, .iconst 1, 1, []), (11, .goto 4, 3, []), (14, .iconst 0, 1, []), (15, .ireturn, 1, [])]
def zu5 : List ZI := [(0, .aload_n 0, 1, []), (1, .getfield 1, 3, [9, 0, 1294]), (4, .ireturn, 1, [])]
def zzc8 : List (List ZI) := [zu0, zu1, zu2, zu3, zu4, zu5]
theorem zv0_ok : ∀ q ∈ zu0, zok zzm8 (RL, yL_law, cL_law, 7, (some .boolean), 600000, 7300000) q = true := List.all_eq_true.mp (by decide +kernel)
theorem zv1_ok : ∀ q ∈ zu1, zok zzm8 (RX10, yX10_layer, cX10_layer, 5, (some .int), 0, 0) q = true := List.all_eq_true.mp (by decide +kernel)
theorem zv2_ok : ∀ q ∈ zu2, zok zzm8 (RX10, yX10_isCut, cX10_isCut, 3, (some .boolean), 0, 0) q = true := List.all_eq_true.mp (by decide +kernel)
theorem zv3_ok : ∀ q ∈ zu3, zok zzm8 (RX10, yX10_isPlace, cX10_isPlace, 2, (some .boolean), 0, 0) q = true := List.all_eq_true.mp (by decide +kernel)
theorem zv4_ok : ∀ q ∈ zu4, zok zzm8 (RX10, yX10_within, cX10_within, 3, (some .boolean), 0, 0) q = true := List.all_eq_true.mp (by decide +kernel)
theorem zv5_ok : ∀ q ∈ zu5, zok zzm8 (RX10, yX10_thrown, cX10_thrown, 1, (some .int), 0, 0) q = true := List.all_eq_true.mp (by decide +kernel)
theorem zztab8 : zTab zzm8 zzc8 := by
  intro k me tb h1 h2
  match k, h1, h2 with
  | 0, h1, h2 => cases h1; cases h2; exact zv0_ok
  | 1, h1, h2 => cases h1; cases h2; exact zv1_ok
  | 2, h1, h2 => cases h1; cases h2; exact zv2_ok
  | 3, h1, h2 => cases h1; cases h2; exact zv3_ok
  | 4, h1, h2 => cases h1; cases h2; exact zv4_ok
  | 5, h1, h2 => cases h1; cases h2; exact zv5_ok
  | n + 6, h1, h2 => cases h1
noncomputable def zdrive8 (N : Nat) (n : Nat) : ZN → Bool := Nat.rec (motive := fun _ => ZN → Bool) (fun _ => false) (fun _ ih box => match zgo zzm8 zzc8 zzd box 7 99999 N 0 20 681 zzl [.int 1] zzh (zzn + 1) (zzs + 6) with
  | .ok r => zfin1 r
  | .error q => (match zget box q.1 with
    | some b => cond (decide (b.1 < q.2) && decide (q.2 ≤ b.2)) (zsk box (b.1, q.2 - 1) q.1 (fun b1 => cond (ih b1) (zsk box (q.2, b.2) q.1 ih) false)) false
    | none => false)) n
theorem zq8 : zdrive8 10000 200 (zbox 8) = true := by decide +kernel
def zOK8 (box : ZN) : Prop := ∀ (p : Program) (l : Launch) (e : Env) (s : State) (m : MethodId) (args : Array Value) (below : List Frame) (meth : Method) (c : Code) (Q : State → Prop) (dC : Nat → ClassId) (dI : Nat → Nat → Nat) (cA : Nat → ClassId) (g : ZG) (A : Nat → Prop), zen box g → (∀ E, zen E g → zF E 7 0 20 zme0 p room_1 s m args meth c dC dI cA g A) → (∀ (lv : ZL) (hp : List ZE) (nc ns : Nat), nc ≤ 600002 → ns ≤ 7302232 → zW p l e room_1 s m args below meth c Q dC dI cA g A 7 1506 lv [.int 1] hp nc ns) → zW p l e room_1 s m args below meth c Q dC dI cA g A 7 681 zzl [.int 1] zzh (zzn + 1) (zzs + 6)
theorem zOK8_split {box b1 b2 : ZN} (t : Nat) {lo hi : Int} (c : Int) (hb : box[t]? = some (lo, hi)) (e1 : box.set t (lo, c - 1) = b1) (e2 : box.set t (c, hi) = b2) (h1 : zOK8 b1) (h2 : zOK8 b2) : zOK8 box := by
  intro p l e s m args below meth cc Q dC dI cA g A hE F Hf
  have hq := hE t _ hb
  by_cases hc : (g.1 t).toInt < c
  · exact h1 p l e s m args below meth cc Q dC dI cA g A (by rw [← e1]; exact zen_set hE hq.1 (by omega)) F Hf
  · exact h2 p l e s m args below meth cc Q dC dI cA g A (by rw [← e2]; exact zen_set hE (by omega) hq.2) F Hf
theorem zOK8_drive (hcl : zCl zzd) (htab : zTab zzm8 zzc8) {N : Nat} : ∀ (n : Nat) (box : ZN), zdrive8 N n box = true → zOK8 box := by
  intro n
  induction n with
  | zero =>
    intro box h
    cases h
  | succ n ih =>
    intro box h
    have h : (match zgo zzm8 zzc8 zzd box 7 99999 N 0 20 681 zzl [.int 1] zzh (zzn + 1) (zzs + 6) with
      | .ok r => zfin1 r
      | .error q => (match zget box q.1 with
        | some b => cond (decide (b.1 < q.2) && decide (q.2 ≤ b.2)) (zsk box (b.1, q.2 - 1) q.1 (fun b1 => cond (zdrive8 N n b1) (zsk box (q.2, b.2) q.1 (zdrive8 N n)) false)) false
        | none => false)) = true := h
    cases hg : zgo zzm8 zzc8 zzd box 7 99999 N 0 20 681 zzl [.int 1] zzh (zzn + 1) (zzs + 6) with
    | ok r =>
      rw [hg] at h
      simp only [zfin1, Bool.and_eq_true] at h
      obtain ⟨h1, ⟨h2, h3⟩, h4⟩ := h
      intro p l e s m args below meth c Q dC dI cA g A hE F Hf
      refine zgo_sound hcl htab N 0 20 681 zzl [.int 1] zzh (zzn + 1) (zzs + 6) r hg zme0 rfl p l e room_1 s m args below meth c Q dC dI cA g A (F box hE) ?_
      obtain ⟨pc, lv, st, hp, nc, ns⟩ := r
      have e1 : pc = 1506 := Nat.beq_eq.mp h1
      subst e1
      match st, h4 with
      | [.int x], h4 =>
        have e2 : x = 1 := of_decide_eq_true h4
        subst e2
        exact Hf lv hp nc ns (Nat.le_of_ble_eq_true h2) (Nat.le_of_ble_eq_true h3)
    | error q =>
      rw [hg] at h
      simp only [zget_eq] at h
      cases hb : box[q.1]? with
      | none => rw [hb] at h; cases h
      | some b =>
        rw [hb] at h
        simp only [zsk_eq] at h
        cases hd : (decide (b.1 < q.2) && decide (q.2 ≤ b.2)) with
        | false => rw [hd] at h; cases h
        | true =>
          rw [hd, cond_true] at h
          cases h1 : zdrive8 N n (box.set q.1 (b.1, q.2 - 1)) with
          | false => rw [h1] at h; cases h
          | true =>
            rw [h1, cond_true] at h
            exact zOK8_split q.1 (lo := b.1) (hi := b.2) q.2 hb rfl rfl (ih _ h1) (ih _ h)
theorem zo8b : zOK8 (zbox 8) := zOK8_drive zzcl zztab8 200 _ zq8
