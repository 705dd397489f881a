/-! Order.copy -/
theorem dY0 : decode cX3_copy 0 = .ok (.aload_n 0, 1) := by decide +kernel
theorem dY1 : decode cX3_copy 1 = .ok (.aload_n 1, 1) := by decide +kernel
theorem dY2 : decode cX3_copy 2 = .ok (.getfield 7, 3) := by decide +kernel
theorem dY5 : decode cX3_copy 5 = .ok (.putfield 7, 3) := by decide +kernel
theorem dY8 : decode cX3_copy 8 = .ok (.aload_n 0, 1) := by decide +kernel
theorem dY9 : decode cX3_copy 9 = .ok (.aload_n 1, 1) := by decide +kernel
theorem dY10 : decode cX3_copy 10 = .ok (.getfield 13, 3) := by decide +kernel
theorem dY13 : decode cX3_copy 13 = .ok (.putfield 13, 3) := by decide +kernel
theorem dY16 : decode cX3_copy 16 = .ok (.aload_n 0, 1) := by decide +kernel
theorem dY17 : decode cX3_copy 17 = .ok (.getfield 35, 3) := by decide +kernel
theorem dY20 : decode cX3_copy 20 = .ok (.arraylength, 1) := by decide +kernel
theorem dY21 : decode cX3_copy 21 = .ok (.aload_n 0, 1) := by decide +kernel
theorem dY22 : decode cX3_copy 22 = .ok (.getfield 13, 3) := by decide +kernel
theorem dY25 : decode cX3_copy 25 = .ok (.if_icmp .ge 13, 3) := by decide +kernel
theorem dY28 : decode cX3_copy 28 = .ok (.aload_n 0, 1) := by decide +kernel
theorem dY29 : decode cX3_copy 29 = .ok (.aload_n 0, 1) := by decide +kernel
theorem dY30 : decode cX3_copy 30 = .ok (.getfield 13, 3) := by decide +kernel
theorem dY33 : decode cX3_copy 33 = .ok (.newarray .int, 2) := by decide +kernel
theorem dY35 : decode cX3_copy 35 = .ok (.putfield 35, 3) := by decide +kernel
theorem dY38 : decode cX3_copy 38 = .ok (.aload_n 1, 1) := by decide +kernel
theorem dY39 : decode cX3_copy 39 = .ok (.getfield 35, 3) := by decide +kernel
theorem dY42 : decode cX3_copy 42 = .ok (.iconst 0, 1) := by decide +kernel
theorem dY43 : decode cX3_copy 43 = .ok (.aload_n 0, 1) := by decide +kernel
theorem dY44 : decode cX3_copy 44 = .ok (.getfield 35, 3) := by decide +kernel
theorem dY47 : decode cX3_copy 47 = .ok (.iconst 0, 1) := by decide +kernel
theorem dY48 : decode cX3_copy 48 = .ok (.aload_n 0, 1) := by decide +kernel
theorem dY49 : decode cX3_copy 49 = .ok (.getfield 13, 3) := by decide +kernel
theorem dY52 : decode cX3_copy 52 = .ok (.invokestatic 38, 3) := by decide +kernel
theorem dY55 : decode cX3_copy 55 = .ok (.aload_n 1, 1) := by decide +kernel
theorem dY56 : decode cX3_copy 56 = .ok (.getfield 16, 3) := by decide +kernel
theorem dY59 : decode cX3_copy 59 = .ok (.iconst 0, 1) := by decide +kernel
theorem dY60 : decode cX3_copy 60 = .ok (.aload_n 0, 1) := by decide +kernel
theorem dY61 : decode cX3_copy 61 = .ok (.getfield 16, 3) := by decide +kernel
theorem dY64 : decode cX3_copy 64 = .ok (.iconst 0, 1) := by decide +kernel
theorem dY65 : decode cX3_copy 65 = .ok (.bipush 12, 2) := by decide +kernel
theorem dY67 : decode cX3_copy 67 = .ok (.invokestatic 38, 3) := by decide +kernel
theorem dY70 : decode cX3_copy 70 = .ok (.aload_n 1, 1) := by decide +kernel
theorem dY71 : decode cX3_copy 71 = .ok (.getfield 20, 3) := by decide +kernel
theorem dY74 : decode cX3_copy 74 = .ok (.iconst 0, 1) := by decide +kernel
theorem dY75 : decode cX3_copy 75 = .ok (.aload_n 0, 1) := by decide +kernel
theorem dY76 : decode cX3_copy 76 = .ok (.getfield 20, 3) := by decide +kernel
theorem dY79 : decode cX3_copy 79 = .ok (.iconst 0, 1) := by decide +kernel
theorem dY80 : decode cX3_copy 80 = .ok (.bipush 12, 2) := by decide +kernel
theorem dY82 : decode cX3_copy 82 = .ok (.invokestatic 38, 3) := by decide +kernel
theorem dY85 : decode cX3_copy 85 = .ok (.aload_n 1, 1) := by decide +kernel
theorem dY86 : decode cX3_copy 86 = .ok (.getfield 23, 3) := by decide +kernel
theorem dY89 : decode cX3_copy 89 = .ok (.iconst 0, 1) := by decide +kernel
theorem dY90 : decode cX3_copy 90 = .ok (.aload_n 0, 1) := by decide +kernel
theorem dY91 : decode cX3_copy 91 = .ok (.getfield 23, 3) := by decide +kernel
theorem dY94 : decode cX3_copy 94 = .ok (.iconst 0, 1) := by decide +kernel
theorem dY95 : decode cX3_copy 95 = .ok (.bipush 12, 2) := by decide +kernel
theorem dY97 : decode cX3_copy 97 = .ok (.invokestatic 38, 3) := by decide +kernel
theorem dY100 : decode cX3_copy 100 = .ok (.aload_n 1, 1) := by decide +kernel
theorem dY101 : decode cX3_copy 101 = .ok (.getfield 26, 3) := by decide +kernel
theorem dY104 : decode cX3_copy 104 = .ok (.iconst 0, 1) := by decide +kernel
theorem dY105 : decode cX3_copy 105 = .ok (.aload_n 0, 1) := by decide +kernel
theorem dY106 : decode cX3_copy 106 = .ok (.getfield 26, 3) := by decide +kernel
theorem dY109 : decode cX3_copy 109 = .ok (.iconst 0, 1) := by decide +kernel
theorem dY110 : decode cX3_copy 110 = .ok (.bipush 12, 2) := by decide +kernel
theorem dY112 : decode cX3_copy 112 = .ok (.invokestatic 38, 3) := by decide +kernel
theorem dY115 : decode cX3_copy 115 = .ok (.return_, 1) := by decide +kernel
theorem cw0 : Cond.fieldLink RX3 7 (TX3 0).1 (TX3 0).2.1 (TX3 0).2.2.1 ∈ zT := zchk_ok (ws := [_]) (is := [351]) (by decide +kernel) _ (List.Mem.head _)
theorem cw1 : Cond.fieldLink RX3 13 (TX3 1).1 (TX3 1).2.1 (TX3 1).2.2.1 ∈ zT := zchk_ok (ws := [_]) (is := [355]) (by decide +kernel) _ (List.Mem.head _)
theorem cw2 : Cond.fieldLink RX3 16 (TX3 2).1 (TX3 2).2.1 (TX3 2).2.2.1 ∈ zT := zchk_ok (ws := [_]) (is := [357]) (by decide +kernel) _ (List.Mem.head _)
theorem cw3 : Cond.fieldLink RX3 20 (TX3 3).1 (TX3 3).2.1 (TX3 3).2.2.1 ∈ zT := zchk_ok (ws := [_]) (is := [360]) (by decide +kernel) _ (List.Mem.head _)
theorem cw4 : Cond.fieldLink RX3 23 (TX3 4).1 (TX3 4).2.1 (TX3 4).2.2.1 ∈ zT := zchk_ok (ws := [_]) (is := [363]) (by decide +kernel) _ (List.Mem.head _)
theorem cw5 : Cond.fieldLink RX3 26 (TX3 5).1 (TX3 5).2.1 (TX3 5).2.2.1 ∈ zT := zchk_ok (ws := [_]) (is := [366]) (by decide +kernel) _ (List.Mem.head _)
theorem cw6 : Cond.fieldLink RX3 35 (TX3 6).1 (TX3 6).2.1 (TX3 6).2.2.1 ∈ zT := zchk_ok (ws := [_]) (is := [369]) (by decide +kernel) _ (List.Mem.head _)
theorem cwa : ∀ w ∈ [Cond.methodLink RX3 38 arraycopyName, .native arraycopyName, .static arraycopyName, .initialized "java/lang/System", .arrayClass .int], w ∈ zT := zchk_ok (is := [1010, 771, 770, 132, 207]) (by decide +kernel)
section SCN
variable {p : Program} {l : Launch} {e : Env} {R : Room} {s : State} {m : MethodId} {args : Array Value} {below : List Frame} {meth : Method} {c : Code} {Q : State → Prop} {dC : Nat → ClassId} {dI : Nat → Nat → Nat} {cA : Nat → ClassId} {A : Nat → Prop} {nc ns : Nat} {ad : SAd} {M : SMem} {ws : va_W} {H : Heap} {locs : List Loc} {ls : Array Slot}
set_option maxHeartbeats 1000000 in
theorem cnew (hx : p.tables.exec = Jvm.exec) (hb : c.code = cX3_copy) (hown : s.vm.findClass RX3 = some m.cls) (hts : ∀ w ∈ zT, w.before args s = true) (hKv : va_K (dC, dI) vwCl (ztys cA) s) (hA : ∀ q, s.heap.size ≤ q → A q) (hH : sH tf ad M cA ws) (hP : va_P (dC, dI) vwCl ws H) (hD : va_D A ws) (hS : va_S A s.heap H locs) {j : Nat} (hj : j < 6) {n : Int32} (n0 : 0 ≤ n.toInt) (n1 : n.toInt ≤ 1000) (hc1 : nc + 1 ≤ R.cells) (hs1 : ns + 1000 ≤ R.slots)
    (kk : ∀ (ws' : va_W) (H1 : Heap) (locs1 : List Loc) (q : Nat), sH tf (cad ad j q) (cM M j n.toInt) cA ws' → va_P (dC, dI) vwCl ws' H1 → va_D A ws' → va_S A s.heap H1 locs1 → W p l e R s m args below meth c H1 locs1 (nc + 1) (ns + 1000) Q (F0 m 38 ls [])) : W p l e R s m args below meth c H locs nc ns Q (F0 m 33 ls [.int n, .ref (ad 74 j)]) := by
  have kn := sclamp (x := n) n0
  have hn : ¬ n < 0 := fun q => by
    have := Int32.lt_iff_toInt_lt.mp q
    have e0 : (0 : Int32).toInt = 0 := rfl
    omega
  have e0 : ∀ c1 : ClassId, vp_cell c1 (n.toNatClampNeg, .inl (fun _ => 0)) = arrV c1 n.toNatClampNeg (fun _ => defaultValue .int) := fun c1 => rfl
  refine va_newa (ty := .int) (atype := .int) hx hb (hts _ (cwa (.arrayClass .int) (List.Mem.tail _ (List.Mem.tail _ (List.Mem.tail _ (List.Mem.tail _ (List.Mem.head _))))))) rfl hKv hP hD hS hA e0 hn rfl (Nat.le_trans (Nat.mul_le_mul (show n.toNatClampNeg ≤ 1000 by omega) (show componentBytes .int ≤ 8 by decide)) (by decide)) hc1 (by omega) dY33 (fun q c1 H1 k1 p1 p2 p3 => ?_)
  have e2 : c1 = cA 0 := by
    have w1 := (k1.2 6 (c1, zty 0) rfl).2
    have w2 := (hKv.2 0 (cA 0, zty 0) (ztys_at cA (by omega))).2
    exact zra_eq w1 w2
  subst e2
  obtain ⟨wv, hwv, hse⟩ := hH 74 cE74 cE74_at j hj
  obtain ⟨gs, rfl, hgl, hg⟩ := hse
  obtain ⟨wc, hwc, -⟩ := hH 100 cE100 cE100_at j hj
  have hl74 : spos cE74 j < ws.length := (List.getElem?_eq_some_iff.mp hwv).1
  have hl100 : spos cE100 j < ws.length := (List.getElem?_eq_some_iff.mp hwc).1
  have hne : spos cE74 j ≠ spos cE100 j := fun z => by
    have := (tInj 74 100 cE74 cE100 cE74_at cE100_at j j hj hj z).1
    omega
  have hwv2 : (ws ++ [(q, Sum.inl (cA 0, n.toNatClampNeg, Sum.inl fun _ => (0 : Int32)))])[spos cE74 j]? = some (ad 74 j, .inr (2, gs)) := by
    rw [List.getElem?_append_left hl74]
    exact hwv
  have hlen : 6 < gs.length := by rw [hgl]; decide
  refine W.widen (Nat.le_refl _) (Nat.add_le_add_left (show n.toNatClampNeg ≤ 1000 by omega) _) ?_
  refine va_put hx hb hts zin2 tyX3 tyX3_ok nmX3 hown hKv p1 p2 p3 _ hwv2 (C := RX3) (T := TX3) (N := 7) rfl 6 (by decide) (hts _ cw6) (fun _ z => z) rfl (ty := .array .int) (by decide +kernel) rfl rfl hlen dY35 (fun H2 locs2 r1 r2 r3 => ?_)
  generalize hz : (q, (Sum.inl (cA 0, n.toNatClampNeg, Sum.inl fun _ => (0 : Int32)) : va_E)) = z9 at r1 r2 hwv2
  have hg9 : ∀ (k : Nat) (x : Nat × va_E), ((ws.set (spos cE74 j) (ad 74 j, .inr (2, gs.set 6 (.ref q)))).set (spos cE100 j) z9)[k]? = some x → ((ws ++ [z9]).set (spos cE74 j) (ad 74 j, .inr (2, gs.set 6 (.ref q))))[if k = spos cE100 j then ws.length else k]? = some x := by
    intro k x hk
    by_cases h1 : k = spos cE100 j
    · subst h1
      rw [List.getElem?_set_self (by rw [List.length_set]; exact hl100)] at hk
      cases hk
      rw [if_pos rfl, List.getElem?_set_ne (by omega), List.getElem?_append_right (Nat.le_refl _), Nat.sub_self]
      rfl
    · rw [if_neg h1]
      rw [List.getElem?_set_ne (fun z => h1 z.symm)] at hk
      have hkl : k < ws.length := by
        have := (List.getElem?_eq_some_iff.mp hk).1
        rw [List.length_set] at this
        exact this
      by_cases h2 : k = spos cE74 j
      · subst h2
        rw [List.getElem?_set_self hl74] at hk
        rw [List.getElem?_set_self (by rw [List.length_append]; omega)]
        exact hk
      · rw [List.getElem?_set_ne (fun z => h2 z.symm)] at hk ⊢
        rw [List.getElem?_append_left hkl]
        exact hk
  refine kk ((ws.set (spos cE74 j) (ad 74 j, .inr (2, gs.set 6 (.ref q)))).set (spos cE100 j) z9) H2 locs2 q ?_ (r1.by _ hg9) (r2.by _ hg9 (fun a b ha hb hab => ?_)) r3
  · intro f' en' hen' j' hj'
    by_cases h100 : f' = 100 ∧ j' = j
    · obtain ⟨rfl, rfl⟩ := h100
      cases cE100_at.symm.trans hen'
      refine ⟨z9.2, ?_, ?_⟩
      · rw [List.getElem?_set_self (by rw [List.length_set]; exact hl100)]
        rw [← hz]
        unfold cad
        rw [if_pos ⟨rfl, rfl⟩]
      · rw [← hz]
        have hsl : slen (cM M j' n.toInt) j' (0, 1, 106, 0) = n.toNatClampNeg := by
          show (cM M j' n.toInt 106 j' 0).toNat = _
          unfold cM
          rw [if_neg (fun z => absurd z.1 (by decide)), if_pos ⟨rfl, rfl, rfl⟩]
          rfl
        refine ⟨fun _ => ⟨fun _ => 0, ?_, fun i => ?_⟩, fun z => (by cases z), fun z => by cases z⟩
        · rw [hsl]
        · unfold cM
          rw [if_pos ⟨rfl, rfl⟩]
          rfl
    · by_cases h74 : f' = 74 ∧ j' = j
      · obtain ⟨rfl, rfl⟩ := h74
        cases cE74_at.symm.trans hen'
        refine ⟨.inr (2, gs.set 6 (.ref q)), ?_, ?_⟩
        · rw [List.getElem?_set_ne (fun z => hne z.symm), List.getElem?_set_self hl74]
          unfold cad
          rw [if_neg (fun z => by cases z.1)]
        · refine ⟨_, rfl, by rw [List.length_set]; exact hgl, fun i sp hs => ?_⟩
          have hM : ∀ i, cM M j' n.toInt 74 j' i = M 74 j' i := fun i => by
            unfold cM
            rw [if_neg (fun z => by cases z.1), if_neg (fun z => by cases z.1)]
          have hcad : ∀ f'' j'', f'' ≠ 100 → cad ad j' q f'' j'' = ad f'' j'' := fun f'' j'' h => if_neg (fun z => h z.1)
          obtain ⟨g0, g1⟩ := hg i sp hs
          match i, hs with
          | 0, hs =>
            cases hs
            exact ⟨fun _ => by rw [List.getElem?_set_ne (by decide), hM]; exact g0 rfl, fun z => by cases z⟩
          | 1, hs =>
            cases hs
            exact ⟨fun _ => by rw [List.getElem?_set_ne (by decide), hM]; exact g0 rfl, fun z => by cases z⟩
          | 2, hs =>
            cases hs
            exact ⟨fun z => (by cases z), fun _ => by rw [List.getElem?_set_ne (by decide), hcad _ _ (by decide)]; exact g1 rfl⟩
          | 3, hs =>
            cases hs
            exact ⟨fun z => (by cases z), fun _ => by rw [List.getElem?_set_ne (by decide), hcad _ _ (by decide)]; exact g1 rfl⟩
          | 4, hs =>
            cases hs
            exact ⟨fun z => (by cases z), fun _ => by rw [List.getElem?_set_ne (by decide), hcad _ _ (by decide)]; exact g1 rfl⟩
          | 5, hs =>
            cases hs
            exact ⟨fun z => (by cases z), fun _ => by rw [List.getElem?_set_ne (by decide), hcad _ _ (by decide)]; exact g1 rfl⟩
          | 6, hs =>
            cases hs
            refine ⟨fun z => (by cases z), fun _ => ?_⟩
            rw [List.getElem?_set_self hlen]
            show some (Value.ref q) = some (.ref (cad ad j' q 100 j'))
            unfold cad
            rw [if_pos ⟨rfl, rfl⟩]
          | n + 7, hs => cases hs
      · obtain ⟨w, h1, h2⟩ := hH f' en' hen' j' hj'
        refine ⟨w, ?_, cHe_o hen' h74 h100 h2⟩
        have k1 : spos en' j' ≠ spos cE100 j := fun z => h100 (tInj f' 100 en' cE100 hen' cE100_at j' j hj' hj z)
        have k2 : spos en' j' ≠ spos cE74 j := fun z => h74 (tInj f' 74 en' cE74 hen' cE74_at j' j hj' hj z)
        rw [List.getElem?_set_ne (fun z => k1 z.symm), List.getElem?_set_ne (fun z => k2 z.symm), h1]
        unfold cad
        rw [if_neg h100]
  · rw [List.length_set, List.length_set] at ha hb
    split at hab <;> split at hab <;> omega
end SCN
/-- what is the same while an order is copied, and the bounds -/
def cInv (M0 : SMem) (j : Nat) (M : SMem) : Prop := (∀ f j' i', f ∉ [74, 96, 97, 98, 99, 100, 106] → M f j' i' = M0 f j' i') ∧ (∀ f j' i', j' ≠ j → M f j' i' = M0 f j' i') ∧ (∀ j' i', 2 ≤ i' → M 74 j' i' = M0 74 j' i') ∧ sI tg M
theorem tsI {M : SMem} (h : ∀ f i q, srg tg f i = some q → ∀ j, q.1 ≤ M f j i ∧ M f j i ≤ q.2) : sI tg M := ⟨h, fun q hq => by cases hq⟩
theorem cInv_put {M0 M : SMem} {j fi : Nat} {v : Int} (h : cInv M0 j M) (hf : fi < 2) (hv : ∀ q, srg tg 74 fi = some q → q.1 ≤ v ∧ v ≤ q.2) : cInv M0 j (supd M 74 j fi v) := by
  obtain ⟨h1, h2, h3, h4⟩ := h
  refine ⟨fun f j' i' hn => ?_, fun f j' i' hn => ?_, fun j' i' hn => ?_, sI_put h4 hv (fun q hq => by cases hq)⟩
  · rw [supd_f (fun z => hn (by rw [z]; simp)), h1 f j' i' hn]
  · rw [supd_j hn, h2 f j' i' hn]
  · rw [supd_i (by omega), h3 j' i' hn]
theorem cInv_cpy {M0 M : SMem} {j f0 f1 N : Nat} (h : cInv M0 j M) (hf : f1 ∈ [96, 97, 98, 99, 100]) (hr : ∀ i q, srg tg f1 i = some q → ∃ b, srg tg f0 i = some b ∧ q.1 ≤ b.1 ∧ b.2 ≤ q.2) : cInv M0 j (sMcp M f0 0 f1 j N) := by
  obtain ⟨h1, h2, h3, h4⟩ := h
  have hf74 : (74 : Nat) ≠ f1 := fun z => by rw [← z] at hf; simp at hf
  refine ⟨fun f j' i' hn => ?_, fun f j' i' hn => ?_, fun j' i' hn => ?_, tsI (fun f i q hq j' => ?_)⟩
  · rw [smcp_f (fun z => hn (by rw [z]; simp only [List.mem_cons, List.not_mem_nil, or_false] at hf ⊢; omega)), h1 f j' i' hn]
  · rw [smcp_j hn, h2 f j' i' hn]
  · rw [smcp_f hf74, h3 j' i' hn]
  · unfold sMcp
    by_cases hc : f = f1 ∧ j' = j ∧ i < N
    · rw [if_pos hc]
      obtain ⟨rfl, -, -⟩ := hc
      obtain ⟨b, e1, e2, e3⟩ := hr i q hq
      have := h4.1 f0 i b e1 0
      omega
    · rw [if_neg hc]
      exact h4.1 f i q hq j'
theorem cInv_new {M0 M : SMem} {j : Nat} {v : Int} (h : cInv M0 j M) (h0 : 0 ≤ v) (h1 : v ≤ 1000) : cInv M0 j (cM M j v) := by
  obtain ⟨k1, k2, k3, k4⟩ := h
  refine ⟨fun f j' i' hn => ?_, fun f j' i' hn => ?_, fun j' i' hn => ?_, tsI (fun f i q hq j' => ?_)⟩
  · unfold cM
    rw [if_neg (fun z => hn (by rw [z.1]; simp)), if_neg (fun z => hn (by rw [z.1]; simp)), k1 f j' i' hn]
  · unfold cM
    rw [if_neg (fun z => hn z.2), if_neg (fun z => hn z.2.1), k2 f j' i' hn]
  · unfold cM
    rw [if_neg (fun z => by cases z.1), if_neg (fun z => by cases z.1), k3 j' i' hn]
  · unfold cM
    by_cases c1 : f = 100 ∧ j' = j
    · rw [if_pos c1]
      obtain ⟨rfl, -⟩ := c1
      cases (show srg tg 100 i = some (-2147483648, 2147483647) from rfl).symm.trans hq
      exact ⟨by decide, by decide⟩
    · rw [if_neg c1]
      by_cases c2 : f = 106 ∧ j' = j ∧ i = 0
      · rw [if_pos c2]
        obtain ⟨rfl, -, -⟩ := c2
        cases (show srg tg 106 i = some (0, 1000) from rfl).symm.trans hq
        exact ⟨h0, h1⟩
      · rw [if_neg c2]
        exact k4.1 f i q hq j'
theorem cInv_end {M0 M : SMem} {ad0 ad : SAd} {j : Nat} (h : cInv M0 j M) (ha : ∀ f j', f ≠ 100 → ad f j' = ad0 f j') : sfr tg M0 M ad0 ad ([(74, 0), (74, 1), (96, 0), (97, 0), (98, 0), (99, 0), (100, 0), (100, 999999), (106, 0)], []) := by
  obtain ⟨h1, h2, h3, h4⟩ := h
  refine ⟨fun f j' i' hn => ?_, fun f j' hn => ha f j' (fun z => hn (by rw [z]; simp)), fun q hq => by cases hq⟩
  by_cases hf : f ∈ [74, 96, 97, 98, 99, 100, 106]
  · simp only [List.mem_cons, List.not_mem_nil, or_false] at hf
    rcases hf with rfl | rfl | rfl | rfl | rfl | rfl | rfl
    · have e : scl tg 74 i' = i' := rfl
      rw [e] at hn
      refine h3 j' i' ?_
      match i', hn with
      | 0, hn => exact absurd (by simp) hn
      | 1, hn => exact absurd (by simp) hn
      | n + 2, _ => omega
    · exact absurd (by simp) (show (96, 0) ∉ [(74, 0), (74, 1), (96, 0), (97, 0), (98, 0), (99, 0), (100, 0), (100, 999999), (106, 0)] from hn)
    · exact absurd (by simp) (show (97, 0) ∉ [(74, 0), (74, 1), (96, 0), (97, 0), (98, 0), (99, 0), (100, 0), (100, 999999), (106, 0)] from hn)
    · exact absurd (by simp) (show (98, 0) ∉ [(74, 0), (74, 1), (96, 0), (97, 0), (98, 0), (99, 0), (100, 0), (100, 999999), (106, 0)] from hn)
    · exact absurd (by simp) (show (99, 0) ∉ [(74, 0), (74, 1), (96, 0), (97, 0), (98, 0), (99, 0), (100, 0), (100, 999999), (106, 0)] from hn)
    · exact absurd (by simp) (show (100, 0) ∉ [(74, 0), (74, 1), (96, 0), (97, 0), (98, 0), (99, 0), (100, 0), (100, 999999), (106, 0)] from hn)
    · exact absurd (by simp) (show (106, 0) ∉ [(74, 0), (74, 1), (96, 0), (97, 0), (98, 0), (99, 0), (100, 0), (100, 999999), (106, 0)] from hn)
  · exact h1 f j' i' hf
theorem cInv_X {M0 M : SMem} {j : Nat} (h : cInv M0 j M) (hX : sX M0) : sX M := by
  have e27 : ∀ p, M 27 0 p = M0 27 0 p := fun p => h.1 27 0 p (by decide)
  have e29 : ∀ p, M 29 0 p = M0 29 0 p := fun p => h.1 29 0 p (by decide)
  have e50 : ∀ p, M 50 0 p = M0 50 0 p := fun p => h.1 50 0 p (by decide)
  refine ⟨fun i => by rw [e29]; exact hX.1 i, fun p q h1 h2 h3 => by rw [e29]; rw [e27] at h3; exact hX.2.1 p q h1 h2 h3, fun p => by rw [e50]; exact hX.2.2 p⟩
set_option maxHeartbeats 4000000 in
theorem tC1_ok {EX : SEx} {l : Launch} {dC : Nat → ClassId} {dI : Nat → Nat → Nat} {cA : Nat → ClassId} {scrS : Nat} : sCok tm tf tg EX l dC dI cA scrS tC1 := by
  intro me hme ρ0 M0 ad0 ws cas i1 i2 i3 i4 i5 i6 p e R s m args below meth c Q A ls F hP hD hl hend
  have hme : me = (RX3, yX3_copy, cX3_copy, 2, none, 1, 1000) := (Option.some.inj ((show tm[234]? = some _ from rfl).symm.trans hme)).symm
  subst hme
  obtain ⟨hx, hb, hml, hown, hts, hK, hA, hRd, hRb, hE9⟩ := F
  have hb : c.code = cX3_copy := hb
  have hml : c.maxLocals = 2 := hml
  have hown : s.vm.findClass RX3 = some m.cls := hown
  have hRc : 1 ≤ R.cells := hRb.1
  have hRs : 1000 ≤ R.slots := hRb.2
  have hRf : 1 ≤ R.frames := hRd.1
  have hRl : 40 ≤ R.locals := hRd.2
  obtain ⟨c0, r0, rfl, a1, a2⟩ := svs_cons i6
  obtain ⟨c1, r1, rfl, a3, a4⟩ := svs_cons a2
  cases svs_nil a4
  have k0 : ∃ j : Nat, j < 6 ∧ c0 = .ref (ad0 74 j) := by
    rcases a1 with ⟨q, -⟩ | ⟨q, -⟩ | ⟨-, j, en, hj, hen, hjn, rfl⟩ | ⟨q, -⟩
    · cases q
    · cases q
    · cases cE74_at.symm.trans hen
      exact ⟨j, hjn, rfl⟩
    · cases q
  have k1 : c1 = .ref (ad0 75 0) := by
    rcases a3 with ⟨q, -⟩ | ⟨q, -⟩ | ⟨-, j, en, hj, hen, hjn, rfl⟩ | ⟨q, -⟩
    · cases q
    · cases q
    · cases cE75_at.symm.trans hen
      have : j = 0 := Nat.lt_one_iff.mp hjn
      rw [this]
    · cases q
  obtain ⟨j, hj, rfl⟩ := k0
  subst k1
  have b1 : 0 ≤ ρ0 1 ∧ ρ0 1 ≤ 1000 := i1.1 (1, 0, 1000) (List.Mem.tail _ (List.Mem.head _))
  have b2 : 0 ≤ ρ0 2 ∧ ρ0 2 ≤ 12 := i1.1 (2, 0, 12) (List.Mem.tail _ (List.Mem.tail _ (List.Mem.head _)))
  have m1 : M0 75 0 1 = ρ0 1 := by
    obtain ⟨jj, ii, e1, e2, e3⟩ := i5.1 (75, (0, []), (1, []), (0, [(1, 1)])) (List.Mem.head _)
    simp only [sev, svl] at e1 e2 e3
    have w1 : jj = 0 := by omega
    have w2 : ii = 1 := by omega
    subst w1 w2
    omega
  have m0 : M0 75 0 0 = ρ0 2 := by
    obtain ⟨jj, ii, e1, e2, e3⟩ := i5.1 (75, (0, []), (0, []), (0, [(2, 1)])) (List.Mem.tail _ (List.Mem.head _))
    simp only [sev, svl] at e1 e2 e3
    have w1 : jj = 0 := by omega
    have w2 : ii = 0 := by omega
    subst w1 w2
    omega
  have f7 : sEs M0 (ρ0 1) (ρ0 2) := by
    have h := i5.2 (7, [(0, [(1, 1)]), (0, [(2, 1)])]) (List.Mem.head _)
    have e1 : sev ρ0 (0, [(1, 1)]) = ρ0 1 := by simp only [sev, svl]; omega
    have e2 : sev ρ0 (0, [(2, 1)]) = ρ0 2 := by simp only [sev, svl]; omega
    simp only [List.map_cons, List.map_nil, e1, e2] at h
    exact h
  have f6 : sEa M0 := i5.2 (6, []) (List.Mem.tail _ (List.Mem.head _))
  have hl : lv_has ls 2 [(0, .ref (ad0 74 j)), (1, .ref (ad0 75 0))] := hl
  have hml' : c.maxLocals = ls.size := hml.trans hl.1.symm
  have v0 : cInv M0 j M0 := ⟨fun _ _ _ _ => rfl, fun _ _ _ _ => rfl, fun _ _ _ => rfl, i3⟩
  refine lv_aload_n hx hb dY0 rfl (lv_at hl 0 rfl) ?_
  refine lv_aload_n hx hb dY1 rfl (lv_at hl 1 rfl) ?_
  refine cgetI (C := RX3) (T := TX3) (N := 7) hx hb hown hts hK zin2 rfl i2 hP cE75_at rfl (Nat.zero_lt_one) (by decide) rfl cw0 dY2 (fun x0 e0 => ?_)
  refine cputI (C := RX3) (T := TX3) (N := 7) tInj tfmok hx hb hown hts hK zin2 tyX3_ok nmX3 rfl i2 hP hD va_S.rf cE74_at rfl hj (by decide) rfl cw0 rfl (by decide +kernel) dY5 (fun ws1 H1 locs1 h1 p1 d1 s1 => ?_)
  have v1 : cInv M0 j (supd M0 74 j 0 x0.toInt) := cInv_put v0 (by decide) (fun q hq => by
    cases (show srg tg 74 0 = some (0, 12) from rfl).symm.trans hq
    rw [e0, m0]
    exact b2)
  have u0 : supd M0 74 j 0 x0.toInt 74 j 0 = ρ0 2 := by rw [supd_at, e0, m0]
  generalize supd M0 74 j 0 x0.toInt = M1 at h1 v1 u0
  refine lv_aload_n hx hb dY8 rfl (lv_at hl 0 rfl) ?_
  refine lv_aload_n hx hb dY9 rfl (lv_at hl 1 rfl) ?_
  refine cgetI (C := RX3) (T := TX3) (N := 7) hx hb hown hts hK zin2 rfl h1 p1 cE75_at rfl (Nat.zero_lt_one) (by decide) rfl cw1 dY10 (fun x1 e1 => ?_)
  rw [v1.1 75 0 1 (by decide), m1] at e1
  refine cputI (C := RX3) (T := TX3) (N := 7) tInj tfmok hx hb hown hts hK zin2 tyX3_ok nmX3 rfl h1 p1 d1 s1 cE74_at rfl hj (by decide) rfl cw1 rfl (by decide +kernel) dY13 (fun ws2 H2 locs2 h2 p2 d2 s2 => ?_)
  have v2 : cInv M0 j (supd M1 74 j 1 x1.toInt) := cInv_put v1 (by decide) (fun q hq => by
    cases (show srg tg 74 1 = some (0, 1000) from rfl).symm.trans hq
    rw [e1]
    exact b1)
  have u1 : supd M1 74 j 1 x1.toInt 74 j 1 = ρ0 1 := by rw [supd_at, e1]
  have u0 : supd M1 74 j 1 x1.toInt 74 j 0 = ρ0 2 := by rw [supd_i (by decide), u0]
  generalize supd M1 74 j 1 x1.toInt = M2 at h2 v2 u0 u1
  have hI2 := v2.2.2.2
  have hL2 : 0 ≤ M2 106 j 0 ∧ M2 106 j 0 ≤ 1000 := hI2.1 106 0 (0, 1000) rfl j
  -- from 38 on
  have fin : ∀ (M : SMem) (ad : SAd) (ws : va_W) (H : Heap) (locs : List Loc) (nc ns : Nat), nc ≤ 1 → ns ≤ 1000 → sH tf ad M cA ws → va_P (dC, dI) vwCl ws H → va_D A ws → va_S A s.heap H locs → cInv M0 j M → M 74 j 0 = ρ0 2 → M 74 j 1 = ρ0 1 → ρ0 1 ≤ M 106 j 0 → (∀ f j', f ≠ 100 → ad f j' = ad0 f j') → W p l e R s m args below meth c H locs nc ns Q (F0 m 38 ls []) := by
    intro M3 ad ws3 H3 locs3 nc ns hnc hns h3 p3 d3 s3 v3 u0 u1 hL ha
    have ea : ad 75 0 = ad0 75 0 := ha 75 0 (by decide)
    have eb : ad 74 j = ad0 74 j := ha 74 j (by decide)
    rw [← ea, ← eb] at hl
    refine lv_aload_n hx hb dY38 rfl (lv_at hl 1 rfl) ?_
    refine cgetR (C := RX3) (T := TX3) (N := 7) hx hb hown hts hK zin2 rfl h3 p3 cE75_at rfl (Nat.zero_lt_one) (by decide) rfl cw6 dY39 ?_
    refine lv_iconst (v := 0) hx hb dY42 (by decide) ?_
    refine lv_aload_n hx hb dY43 rfl (lv_at hl 0 rfl) ?_
    refine cgetR (C := RX3) (T := TX3) (N := 7) hx hb hown hts hK zin2 rfl h3 p3 cE74_at rfl hj (by decide) rfl cw6 dY44 ?_
    refine lv_iconst (v := 0) hx hb dY47 (by decide) ?_
    refine lv_aload_n hx hb dY48 rfl (lv_at hl 0 rfl) ?_
    refine cgetI (C := RX3) (T := TX3) (N := 7) hx hb hown hts hK zin2 rfl h3 p3 cE74_at rfl hj (by decide) rfl cw1 dY49 (fun x e9 => ?_)
    rw [u1] at e9
    have kx := sclamp (x := x) (by omega)
    refine scpyW (f0 := 105) (f1 := 100) (j0 := 0) (j1 := j) tInj tfmok hx hb hml' hown hts hK (cwa _ (List.Mem.head _)) (cwa _ (List.Mem.tail _ (List.Mem.head _))) (cwa _ (List.Mem.tail _ (List.Mem.tail _ (List.Mem.head _)))) (cwa _ (List.Mem.tail _ (List.Mem.tail _ (List.Mem.tail _ (List.Mem.head _))))) h3 p3 d3 s3 rfl rfl cE100_at rfl rfl rfl (Nat.zero_lt_one) hj (by omega) (show x.toNatClampNeg ≤ 1000 by omega) (show x.toNatClampNeg ≤ (M3 106 j 0).toNat by omega) (Nat.zero_le _) hRf hRl dY52 (fun ws4 H4 locs4 h4 p4 d4 s4 => ?_)
    have v4 : cInv M0 j (sMcp M3 105 0 100 j x.toNatClampNeg) := cInv_cpy v3 (by decide) (fun i q hq => ⟨(-2147483648, 2147483647), rfl, by cases (show srg tg 100 i = some (-2147483648, 2147483647) from rfl).symm.trans hq; exact ⟨by decide, by decide⟩⟩)
    have u0 : sMcp M3 105 0 100 j x.toNatClampNeg 74 j 0 = ρ0 2 := by rw [smcp_f (by decide), u0]
    have hL : ρ0 1 ≤ sMcp M3 105 0 100 j x.toNatClampNeg 106 j 0 := by rw [smcp_f (by decide)]; exact hL
    generalize sMcp M3 105 0 100 j x.toNatClampNeg = M4 at h4 v4 u0 hL
    refine lv_aload_n hx hb dY55 rfl (lv_at hl 1 rfl) ?_
    refine cgetR (C := RX3) (T := TX3) (N := 7) hx hb hown hts hK zin2 rfl h4 p4 cE75_at rfl (Nat.zero_lt_one) (by decide) rfl cw2 dY56 ?_
    refine lv_iconst (v := 0) hx hb dY59 (by decide) ?_
    refine lv_aload_n hx hb dY60 rfl (lv_at hl 0 rfl) ?_
    refine cgetR (C := RX3) (T := TX3) (N := 7) hx hb hown hts hK zin2 rfl h4 p4 cE74_at rfl hj (by decide) rfl cw2 dY61 ?_
    refine lv_iconst (v := 0) hx hb dY64 (by decide) ?_
    refine lv_bipush (v := 12) hx hb dY65 (by decide) ?_
    refine scpyW (f0 := 101) (f1 := 96) (j0 := 0) (j1 := j) tInj tfmok hx hb hml' hown hts hK (cwa _ (List.Mem.head _)) (cwa _ (List.Mem.tail _ (List.Mem.head _))) (cwa _ (List.Mem.tail _ (List.Mem.tail _ (List.Mem.head _)))) (cwa _ (List.Mem.tail _ (List.Mem.tail _ (List.Mem.tail _ (List.Mem.head _))))) h4 p4 d4 s4 rfl rfl rfl rfl rfl rfl (Nat.zero_lt_one) hj (by decide) (Nat.le_refl 12) (Nat.le_refl 12) (Nat.zero_le _) hRf hRl dY67 (fun ws5 H5 locs5 h5 p5 d5 s5 => ?_)
    have v5 : cInv M0 j (sMcp M4 101 0 96 j (12 : Int32).toNatClampNeg) := cInv_cpy v4 (by decide) (fun i q hq => ⟨(0, 4), rfl, by cases (show srg tg 96 i = some (0, 4) from rfl).symm.trans hq; exact ⟨by decide, by decide⟩⟩)
    have u0 : sMcp M4 101 0 96 j (12 : Int32).toNatClampNeg 74 j 0 = ρ0 2 := by rw [smcp_f (by decide), u0]
    have hL : ρ0 1 ≤ sMcp M4 101 0 96 j (12 : Int32).toNatClampNeg 106 j 0 := by rw [smcp_f (by decide)]; exact hL
    generalize sMcp M4 101 0 96 j (12 : Int32).toNatClampNeg = M5 at h5 v5 u0 hL
    refine lv_aload_n hx hb dY70 rfl (lv_at hl 1 rfl) ?_
    refine cgetR (C := RX3) (T := TX3) (N := 7) hx hb hown hts hK zin2 rfl h5 p5 cE75_at rfl (Nat.zero_lt_one) (by decide) rfl cw3 dY71 ?_
    refine lv_iconst (v := 0) hx hb dY74 (by decide) ?_
    refine lv_aload_n hx hb dY75 rfl (lv_at hl 0 rfl) ?_
    refine cgetR (C := RX3) (T := TX3) (N := 7) hx hb hown hts hK zin2 rfl h5 p5 cE74_at rfl hj (by decide) rfl cw3 dY76 ?_
    refine lv_iconst (v := 0) hx hb dY79 (by decide) ?_
    refine lv_bipush (v := 12) hx hb dY80 (by decide) ?_
    refine scpyW (f0 := 102) (f1 := 97) (j0 := 0) (j1 := j) tInj tfmok hx hb hml' hown hts hK (cwa _ (List.Mem.head _)) (cwa _ (List.Mem.tail _ (List.Mem.head _))) (cwa _ (List.Mem.tail _ (List.Mem.tail _ (List.Mem.head _)))) (cwa _ (List.Mem.tail _ (List.Mem.tail _ (List.Mem.tail _ (List.Mem.head _))))) h5 p5 d5 s5 rfl rfl rfl rfl rfl rfl (Nat.zero_lt_one) hj (by decide) (Nat.le_refl 12) (Nat.le_refl 12) (Nat.zero_le _) hRf hRl dY82 (fun ws6 H6 locs6 h6 p6 d6 s6 => ?_)
    have v6 : cInv M0 j (sMcp M5 102 0 97 j (12 : Int32).toNatClampNeg) := cInv_cpy v5 (by decide) (fun i q hq => ⟨(0, 7), rfl, by cases (show srg tg 97 i = some (0, 7) from rfl).symm.trans hq; exact ⟨by decide, by decide⟩⟩)
    have u0 : sMcp M5 102 0 97 j (12 : Int32).toNatClampNeg 74 j 0 = ρ0 2 := by rw [smcp_f (by decide), u0]
    have hL : ρ0 1 ≤ sMcp M5 102 0 97 j (12 : Int32).toNatClampNeg 106 j 0 := by rw [smcp_f (by decide)]; exact hL
    generalize sMcp M5 102 0 97 j (12 : Int32).toNatClampNeg = M6 at h6 v6 u0 hL
    refine lv_aload_n hx hb dY85 rfl (lv_at hl 1 rfl) ?_
    refine cgetR (C := RX3) (T := TX3) (N := 7) hx hb hown hts hK zin2 rfl h6 p6 cE75_at rfl (Nat.zero_lt_one) (by decide) rfl cw4 dY86 ?_
    refine lv_iconst (v := 0) hx hb dY89 (by decide) ?_
    refine lv_aload_n hx hb dY90 rfl (lv_at hl 0 rfl) ?_
    refine cgetR (C := RX3) (T := TX3) (N := 7) hx hb hown hts hK zin2 rfl h6 p6 cE74_at rfl hj (by decide) rfl cw4 dY91 ?_
    refine lv_iconst (v := 0) hx hb dY94 (by decide) ?_
    refine lv_bipush (v := 12) hx hb dY95 (by decide) ?_
    refine scpyW (f0 := 103) (f1 := 98) (j0 := 0) (j1 := j) tInj tfmok hx hb hml' hown hts hK (cwa _ (List.Mem.head _)) (cwa _ (List.Mem.tail _ (List.Mem.head _))) (cwa _ (List.Mem.tail _ (List.Mem.tail _ (List.Mem.head _)))) (cwa _ (List.Mem.tail _ (List.Mem.tail _ (List.Mem.tail _ (List.Mem.head _))))) h6 p6 d6 s6 rfl rfl rfl rfl rfl rfl (Nat.zero_lt_one) hj (by decide) (Nat.le_refl 12) (Nat.le_refl 12) (Nat.zero_le _) hRf hRl dY97 (fun ws7 H7 locs7 h7 p7 d7 s7 => ?_)
    have v7 : cInv M0 j (sMcp M6 103 0 98 j (12 : Int32).toNatClampNeg) := cInv_cpy v6 (by decide) (fun i q hq => ⟨(0, 1000), rfl, by cases (show srg tg 98 i = some (0, 1000) from rfl).symm.trans hq; exact ⟨by decide, by decide⟩⟩)
    have u0 : sMcp M6 103 0 98 j (12 : Int32).toNatClampNeg 74 j 0 = ρ0 2 := by rw [smcp_f (by decide), u0]
    have hL : ρ0 1 ≤ sMcp M6 103 0 98 j (12 : Int32).toNatClampNeg 106 j 0 := by rw [smcp_f (by decide)]; exact hL
    generalize sMcp M6 103 0 98 j (12 : Int32).toNatClampNeg = M7 at h7 v7 u0 hL
    refine lv_aload_n hx hb dY100 rfl (lv_at hl 1 rfl) ?_
    refine cgetR (C := RX3) (T := TX3) (N := 7) hx hb hown hts hK zin2 rfl h7 p7 cE75_at rfl (Nat.zero_lt_one) (by decide) rfl cw5 dY101 ?_
    refine lv_iconst (v := 0) hx hb dY104 (by decide) ?_
    refine lv_aload_n hx hb dY105 rfl (lv_at hl 0 rfl) ?_
    refine cgetR (C := RX3) (T := TX3) (N := 7) hx hb hown hts hK zin2 rfl h7 p7 cE74_at rfl hj (by decide) rfl cw5 dY106 ?_
    refine lv_iconst (v := 0) hx hb dY109 (by decide) ?_
    refine lv_bipush (v := 12) hx hb dY110 (by decide) ?_
    refine scpyW (f0 := 104) (f1 := 99) (j0 := 0) (j1 := j) tInj tfmok hx hb hml' hown hts hK (cwa _ (List.Mem.head _)) (cwa _ (List.Mem.tail _ (List.Mem.head _))) (cwa _ (List.Mem.tail _ (List.Mem.tail _ (List.Mem.head _)))) (cwa _ (List.Mem.tail _ (List.Mem.tail _ (List.Mem.tail _ (List.Mem.head _))))) h7 p7 d7 s7 rfl rfl rfl rfl rfl rfl (Nat.zero_lt_one) hj (by decide) (Nat.le_refl 12) (Nat.le_refl 12) (Nat.zero_le _) hRf hRl dY112 (fun ws8 H8 locs8 h8 p8 d8 s8 => ?_)
    have v8 : cInv M0 j (sMcp M7 104 0 99 j (12 : Int32).toNatClampNeg) := cInv_cpy v7 (by decide) (fun i q hq => ⟨(0, 1000), rfl, by cases (show srg tg 99 i = some (0, 1000) from rfl).symm.trans hq; exact ⟨by decide, by decide⟩⟩)
    have u0 : sMcp M7 104 0 99 j (12 : Int32).toNatClampNeg 74 j 0 = ρ0 2 := by rw [smcp_f (by decide), u0]
    have hL : ρ0 1 ≤ sMcp M7 104 0 99 j (12 : Int32).toNatClampNeg 106 j 0 := by rw [smcp_f (by decide)]; exact hL
    refine hend 115 ls [] ws8 H8 locs8 nc ns ⟨dY115, rfl⟩ ⟨_, List.Mem.head _, ρ0, _, ad, fun _ _ => rfl, ⟨fun q hq => (by cases hq), fun q hq => by cases hq⟩, ⟨h8, ⟨v8.2.2.2, cInv_X v8 i4⟩, ⟨fun q hq => (by cases hq), fun q hq => ?_⟩, cInv_end v8 ha⟩, trivial⟩ p8 d8 s8 hnc hns
    rcases List.mem_cons.mp hq with rfl | hq
    · intro r l9 h12 hl9
      by_cases hr : r = j
      · subst hr
        rw [u0] at hl9
        have e8 : sMcp M7 104 0 99 r (12 : Int32).toNatClampNeg 99 r l9 = M7 104 0 l9 := if_pos ⟨rfl, rfl, h12⟩
        rw [e8, v7.1 104 0 l9 (by decide)]
        exact Int.le_trans (f7 l9 hl9) hL
      · rw [v8.2.1 74 r 0 hr] at hl9
        rw [v8.2.1 99 r l9 hr, v8.2.1 106 r 0 hr]
        exact f6 r l9 h12 hl9
    · cases hq
  refine lv_aload_n hx hb dY16 rfl (lv_at hl 0 rfl) ?_
  refine cgetR (C := RX3) (T := TX3) (N := 7) hx hb hown hts hK zin2 rfl h2 p2 cE74_at rfl hj (by decide) rfl cw6 dY17 ?_
  obtain ⟨wc, hwc, hsc⟩ := h2 100 cE100 cE100_at j hj
  obtain ⟨gc, rfl, -⟩ := hsc.1 (by decide)
  refine va_alen hx hb hK p2 _ 0 hwc rfl rfl dY20 ?_
  refine lv_aload_n hx hb dY21 rfl (lv_at hl 0 rfl) ?_
  refine cgetI (C := RX3) (T := TX3) (N := 7) hx hb hown hts hK zin2 rfl h2 p2 cE74_at rfl hj (by decide) rfl cw1 dY22 (fun x e9 => ?_)
  rw [u1] at e9
  have eL : (Int32.ofNat (slen M2 j (0, 1, 106, 0))).toInt = M2 106 j 0 := by
    have e1 : slen M2 j (0, 1, 106, 0) = (M2 106 j 0).toNat := rfl
    rw [e1, sofn (by omega)]
    omega
  refine zw_icmp hx hb dY25 (tgt := 38) rfl (fun q => ?_) (fun q => ?_)
  · have := szro.mp q
    simp only [sCmp] at this
    exact fin M2 ad0 ws2 H2 locs2 0 0 (Nat.zero_le _) (Nat.zero_le _) h2 p2 d2 s2 v2 u0 u1 (by omega) (fun _ _ _ => rfl)
  · refine lv_aload_n hx hb dY28 rfl (lv_at hl 0 rfl) ?_
    refine lv_aload_n hx hb dY29 rfl (lv_at hl 0 rfl) ?_
    refine cgetI (C := RX3) (T := TX3) (N := 7) hx hb hown hts hK zin2 rfl h2 p2 cE74_at rfl hj (by decide) rfl cw1 dY30 (fun x e9 => ?_)
    rw [u1] at e9
    refine cnew hx hb hown hts hK hA h2 p2 d2 s2 hj (by omega) (by omega) (by omega) (by omega) (fun ws' H' locs' q9 h3 p3 d3 s3 => ?_)
    refine fin _ _ ws' H' locs' (0 + 1) (0 + 1000) (by omega) (by omega) h3 p3 d3 s3 (cInv_new v2 (by omega) (by omega)) ?_ ?_ ?_ (fun f j' hf => if_neg (fun z => hf z.1))
    · unfold cM
      rw [if_neg (fun z => by cases z.1), if_neg (fun z => by cases z.1), u0]
    · unfold cM
      rw [if_neg (fun z => by cases z.1), if_neg (fun z => by cases z.1), u1]
    · unfold cM
      rw [if_neg (fun z => by cases z.1), if_pos ⟨rfl, rfl, rfl⟩]
      omega
