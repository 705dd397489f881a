/-! the law's case 8 -/
theorem zr40_8 : zgo zzm zzc zzd (zbox 8) 7 40 100 0 20 23 zzl [] zzh zzn zzs = .ok (40, zzl, [.retAddr 7], zzh, zzn, zzs) := zeq_ok (by decide +kernel)
set_option maxHeartbeats 4000000 in
theorem zo8 : zOK0 (zbox 8) := by
  intro p l e s m args below meth c Q dC dI cA g A hg0 hL8 hE F Hf
  obtain ⟨hst, sa, hY⟩ := hL8
  refine zgo_sound zzcl zztab 100 0 20 23 zzl [] zzh zzn zzs _ zr40_8 zme0 rfl p l e room_1 s m args below meth c Q dC dI cA g A (F _ hE) ?_
  obtain ⟨hx, hb, hml, hown, hts, hK, hA, hE9, hg7, hRd, hRb, hI, hz9, hscr⟩ := F _ hE
  obtain ⟨xs, hX, hbl, hbA, hxs, hL⟩ := hscr rfl
  have hb : c.code = cL_law := hb
  have hml : c.maxLocals = 7 := hml
  have hown : s.vm.findClass RL = some m.cls := hown
  intro ws H locs ls clv cst ⟨r1, r2, r3, r4, r5, r6, r7⟩
  obtain ⟨c7, r8, rfl, hc7, r7⟩ := zvs_cons r7
  cases zvs_nil r7
  cases (show c7 = _ from hc7)
  have r6' := r6
  obtain ⟨a3, a2, a1, rfl, w3, w2, w1⟩ := zlaw_lv r6
  have hl := r5
  have hz0 := hE 7 (8, 8) rfl
  have hz1 : (g.1 7).toInt = 8 := by have := hz0.1; have := hz0.2; simp only at *; omega
  refine lv_tableIn (off := 618) (tgt := 658) hx hb dL_law_40 (by rw [hz1]; decide) (by rw [hz1]; decide) (by rw [hz1]; rfl) (by decide) ?_
  refine lv_aload_n hx hb dL_law_658 rfl (lv_at hl 3 rfl) ?_
  refine lv_aload_n hx hb dL_law_659 rfl (lv_at hl 4 rfl) ?_
  refine lv_iload hx hb dL_law_660 (lv_at hl 0 rfl) ?_
  refine lv_iconst (v := 1) hx hb dL_law_662 (by decide) ?_
  refine lv_iadd hx hb dL_law_663 ?_
  refine va_sld hx hb hX hbl hbA r4 zvi1 dL_law_664 ?_
  refine lv_aload_n hx hb dL_law_665 rfl (lv_at hl 4 rfl) ?_
  refine lv_iload hx hb dL_law_666 (lv_at hl 0 rfl) ?_
  refine lv_iconst (v := 2) hx hb dL_law_668 (by decide) ?_
  refine lv_iadd hx hb dL_law_669 ?_
  refine va_sld hx hb hX hbl hbA r4 zvi2 dL_law_670 ?_
  refine lv_aload_n hx hb dL_law_671 rfl (lv_at hl 4 rfl) ?_
  refine lv_iload hx hb dL_law_672 (lv_at hl 0 rfl) ?_
  refine lv_iconst (v := 3) hx hb dL_law_674 (by decide) ?_
  refine lv_iadd hx hb dL_law_675 ?_
  refine va_sld hx hb hX hbl hbA r4 zvi3 dL_law_676 ?_
  refine lv_aload_n hx hb dL_law_677 rfl (lv_at hl 1 rfl) ?_
  have hM := zc_llay l hst dC dI cA g ws H.size sa a1 a3 (xs ((0 : Int32) + 1).toNatClampNeg) (xs ((0 : Int32) + 2).toNatClampNeg) (xs ((0 : Int32) + 3).toNatClampNeg) hg7 hE r1 w1 (hxs 1 (by decide)).symm (hxs 2 (by decide)).symm
  have hF := zfree r3 r4 hA
  have hroom := lv_room (m := m) (pc := 678) (ls := ls) (rest := [Value.ref a3, .int (xs ((0 : Int32) + 3).toNatClampNeg), .int (xs ((0 : Int32) + 2).toNatClampNeg), .int (xs ((0 : Int32) + 1).toNatClampNeg), .ref a1]) (st := []) (Nat.le_of_ble_eq_true rfl)
  have hG : GoodIn zT (va_wsS RL 59 yL_layer (.codeWith yL_layer cL_layer 6 (some .int) [(0, 12, 15, 13)] :: zT)) := by
    intro w hw
    unfold va_wsS at hw
    rcases List.mem_append.mp hw with h | h
    · exact zT_good w (zw_nse w (by simp at h; rcases h with rfl | rfl | rfl <;> simp [yL_layer]))
    · exact zT_good1 (zw_nse _ (by simp)) w h
  have hR9 := vx_runSW (p := p) (e := e) (below := below) (meth := meth) (locs := locs) (cells := zzn) (slots := zzs) (Ts := zT) (own := RL) (R := room_1) (hh := [(0, 12, 15, 13)]) (As := [.ref a1, .int (xs ((0 : Int32) + 1).toNatClampNeg), .int (xs ((0 : Int32) + 2).toNatClampNeg), .int (xs ((0 : Int32) + 3).toNatClampNeg), .ref a3]) (rest := []) (g := F0 m 678 ls [.ref a3, .int (xs ((0 : Int32) + 3).toNatClampNeg), .int (xs ((0 : Int32) + 2).toNatClampNeg), .int (xs ((0 : Int32) + 1).toNatClampNeg), .ref a1]) ⟨hx, hb, hml, hown, hts⟩ hM (vx_cwSW 5 hts hG rfl rfl rfl (by decide +kernel) (by decide)) ⟨zBY_blind, fun U hU hW => ⟨rfl, ⟨by rw [hU], by rw [hU]; exact r2, va_K.moved hW.alike hK, r3.weaken (fun _ _ _ _ => trivial), hz9.warm hW⟩, zY_call hY r4 hF hU hW⟩⟩ rfl rfl hl.1 rfl hroom dL_law_678 (by decide)
  refine va_calli hR9 r4 (fun q _ h => hF q h) hF (fun x1 u t9 H1 locs1 ht hvm hw hB hz1 hk1 hS1 => ?_)
  obtain ⟨rfl, hw1, hw2⟩ := hw
  obtain ⟨hP1, hK1, hD1⟩ := hB
  rw [ht] at hP1
  exact zo8b p l e s m args below meth c Q dC dI cA g A hE F Hf u H1 locs1 ls _ _ ⟨zh_g (g := zga g (zad ws)) rfl rfl (fun k a z => by rw [hg0] at z; simp at z) hw1, hP1, hD1.weaken (fun _ q _ z => hF q.1 z), hS1, r5, zls_mono hw2 r6', rfl, trivial⟩
