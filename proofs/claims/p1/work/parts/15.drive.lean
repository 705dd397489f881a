/-! the law from its loop's head, every script of 7 ints by boxes: where the machine of known values asks, a box is cut in two -/
noncomputable def zfin1 (r : ZS) : Bool := Nat.beq r.1 1506 && ((Nat.ble r.2.2.2.2.1 600002 && Nat.ble r.2.2.2.2.2 7302232) && (match r.2.2.1 with
  | [.int x] => decide (x = 1)
  | _ => false))
noncomputable def zdrive (N : Nat) (n : Nat) : ZN → Bool := Nat.rec (motive := fun _ => ZN → Bool) (fun _ => false) (fun _ ih box => match zgo zzm zzc zzd box 7 99999 N 0 20 23 zzl [] zzh zzn zzs with
  | .ok r => zfin1 r
  | .error q => (match zget box q.1 with
    | some b => cond (decide (b.1 < q.2) && decide (q.2 ≤ b.2)) (zsk box (b.1, q.2 - 1) q.1 (fun b1 => cond (ih b1) (zsk box (q.2, b.2) q.1 ih) false)) false
    | none => false)) n
def zbox (k : Int) : ZN := [(-2147483648, 2147483647), (-2147483648, 2147483647), (-2147483648, 2147483647), (-2147483648, 2147483647), (-2147483648, 2147483647), (-2147483648, 2147483647), (-2147483648, 2147483647), (k, k)]
abbrev zme0 : ZMe := (RL, yL_law, cL_law, 7, (some .boolean), 600000, 7300000)
/-- from the loop's head, for every script in the box -/
def zOK (box : ZN) : Prop := ∀ (p : Program) (l : Launch) (e : Env) (s : State) (m : MethodId) (args : Array Value) (below : List Frame) (meth : Method) (c : Code) (Q : State → Prop) (dC : Nat → ClassId) (dI : Nat → Nat → Nat) (cA : Nat → ClassId) (g : ZG) (A : Nat → Prop), zen box g → (∀ E, zen E g → zF E 7 0 20 zme0 p room_1 s m args meth c dC dI cA g A) → (∀ (lv : ZL) (hp : List ZE) (nc ns : Nat), nc ≤ 600002 → ns ≤ 7302232 → zW p l e room_1 s m args below meth c Q dC dI cA g A 7 1506 lv [.int 1] hp nc ns) → zW p l e room_1 s m args below meth c Q dC dI cA g A 7 23 zzl [] zzh zzn zzs
theorem zen_set {E : ZN} {g : ZG} {t : Nat} {lo hi : Int} (h : zen E g) (h1 : lo ≤ (g.1 t).toInt) (h2 : (g.1 t).toInt ≤ hi) : zen (E.set t (lo, hi)) g := by
  intro j q hq
  rw [List.getElem?_set] at hq
  by_cases hj : t = j
  · subst hj
    rw [if_pos rfl] at hq
    split at hq
    · cases hq
      exact ⟨h1, h2⟩
    · cases hq
  · rw [if_neg hj] at hq
    exact h j q hq
theorem zOK_split {box b1 b2 : ZN} (t : Nat) {lo hi : Int} (c : Int) (hb : box[t]? = some (lo, hi)) (e1 : box.set t (lo, c - 1) = b1) (e2 : box.set t (c, hi) = b2) (h1 : zOK b1) (h2 : zOK b2) : zOK box := by
  intro p l e s m args below meth cc Q dC dI cA g A hE F Hf
  have hq := hE t _ hb
  by_cases hc : (g.1 t).toInt < c
  · exact h1 p l e s m args below meth cc Q dC dI cA g A (by rw [← e1]; exact zen_set hE hq.1 (by omega)) F Hf
  · exact h2 p l e s m args below meth cc Q dC dI cA g A (by rw [← e2]; exact zen_set hE (by omega) hq.2) F Hf
theorem zOK_drive (hcl : zCl zzd) (htab : zTab zzm zzc) {N : Nat} : ∀ (n : Nat) (box : ZN), zdrive N n box = true → zOK box := by
  intro n
  induction n with
  | zero =>
    intro box h
    cases h
  | succ n ih =>
    intro box h
    have h : (match zgo zzm zzc zzd box 7 99999 N 0 20 23 zzl [] zzh zzn zzs with
      | .ok r => zfin1 r
      | .error q => (match zget box q.1 with
        | some b => cond (decide (b.1 < q.2) && decide (q.2 ≤ b.2)) (zsk box (b.1, q.2 - 1) q.1 (fun b1 => cond (zdrive N n b1) (zsk box (q.2, b.2) q.1 (zdrive N n)) false)) false
        | none => false)) = true := h
    cases hg : zgo zzm zzc zzd box 7 99999 N 0 20 23 zzl [] zzh zzn zzs with
    | ok r =>
      rw [hg] at h
      simp only [zfin1, Bool.and_eq_true] at h
      obtain ⟨h1, ⟨h2, h3⟩, h4⟩ := h
      intro p l e s m args below meth c Q dC dI cA g A hE F Hf
      refine zgo_sound hcl htab N 0 20 23 zzl [] zzh zzn zzs r hg zme0 rfl p l e room_1 s m args below meth c Q dC dI cA g A (F box hE) ?_
      obtain ⟨pc, lv, st, hp, nc, ns⟩ := r
      have e1 : pc = 1506 := Nat.beq_eq.mp h1
      subst e1
      match st, h4 with
      | [.int x], h4 =>
        have e2 : x = 1 := of_decide_eq_true h4
        subst e2
        exact Hf lv hp nc ns (Nat.le_of_ble_eq_true h2) (Nat.le_of_ble_eq_true h3)
    | error q =>
      rw [hg] at h
      simp only [zget_eq] at h
      cases hb : box[q.1]? with
      | none => rw [hb] at h; cases h
      | some b =>
        rw [hb] at h
        simp only [zsk_eq] at h
        cases hd : (decide (b.1 < q.2) && decide (q.2 ≤ b.2)) with
        | false => rw [hd] at h; cases h
        | true =>
          rw [hd, cond_true] at h
          cases h1 : zdrive N n (box.set q.1 (b.1, q.2 - 1)) with
          | false => rw [h1] at h; cases h
          | true =>
            rw [h1, cond_true] at h
            exact zOK_split q.1 (lo := b.1) (hi := b.2) q.2 hb rfl rfl (ih _ h1) (ih _ h)
