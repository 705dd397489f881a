/-! the law's case 0: feed against feed -/
theorem zvi1 : vp_in ((0 : Int32) + 1) 7 := by unfold vp_in; decide
theorem zvi2 : vp_in ((0 : Int32) + 2) 7 := by unfold vp_in; decide
theorem zvi3 : vp_in ((0 : Int32) + 3) 7 := by unfold vp_in; decide
theorem zvi4 : vp_in ((0 : Int32) + 4) 7 := by unfold vp_in; decide
theorem zvi5 : vp_in ((0 : Int32) + 5) 7 := by unfold vp_in; decide
theorem zvi6 : vp_in ((0 : Int32) + 6) 7 := by unfold vp_in; decide
theorem zr40 : zgo zzm zzc zzd (zbox 0) 7 40 100 0 20 23 zzl [] zzh zzn zzs = .ok (40, zzl, [.retAddr 7], zzh, zzn, zzs) := zeq_ok (by decide +kernel)
theorem zr1499 : zgo zzm zzc zzd (zbox 0) 7 99999 50 0 20 1499 [(4, .int 0), (0, .float 0)] [] [] zzn zzs = .ok (1506, [(4, .int 7), (0, .float 0)], [.int 1], [], zzn, zzs) := zeq_ok (by decide +kernel)
theorem zlaw_lv {ad : List Nat} {g : ZG} {clv : ZL} (h : zls ad g zzl clv) : ∃ a3 a2 a1 : Nat, clv = [(4, .int 0), (3, .ref a3), (2, .ref a2), (1, .ref a1), (0, .ref g.2.1)] ∧ ad[201]? = some a3 ∧ ad[155]? = some a2 ∧ ad[0]? = some a1 := by
  unfold zzl at h
  obtain ⟨⟨i4, c4⟩, q4, rfl, e4, f4, h⟩ := zls_cons h
  obtain ⟨⟨i3, c3⟩, q3, rfl, e3, f3, h⟩ := zls_cons h
  obtain ⟨⟨i2, c2⟩, q2, rfl, e2, f2, h⟩ := zls_cons h
  obtain ⟨⟨i1, c1⟩, q1, rfl, e1, f1, h⟩ := zls_cons h
  obtain ⟨⟨i0, c0⟩, q0, rfl, e0, f0, h⟩ := zls_cons h
  cases zls_nil h
  obtain ⟨a3, w3, rfl⟩ := f3
  obtain ⟨a2, w2, rfl⟩ := f2
  obtain ⟨a1, w1, rfl⟩ := f1
  cases e4; cases e3; cases e2; cases e1; cases e0
  cases (show c4 = _ from f4)
  cases (show c0 = _ from f0)
  exact ⟨a3, a2, a1, rfl, w3, w2, w1⟩
set_option maxRecDepth 20000 in
/-- the cells of the class's tape, and of the reference's -/
theorem zlaw_x {g : ZG} {cA : Nat → ClassId} {ws : va_W} {a1 : Nat} (r1 : zh g cA zzh ws) (h : (zad ws)[0]? = some a1) : ∃ (t sg : Nat) (gx gs : List Value) (f : Nat → Int32), ws[0]? = some (a1, .inr (8, gx)) ∧ ws[1]? = some (t, .inr (6, gs)) ∧ ws[2]? = some (sg, .inl (cA 2, 1000, .inl f)) ∧ gx[0]? = some (.ref t) ∧ zgt sg 0 gs := by
  obtain ⟨w0, k0, z0⟩ := zh_at r1 (k := 0) rfl h
  obtain ⟨gx, rfl, y0⟩ := zobj z0
  obtain ⟨c1, x1, x2⟩ := zvs_get y0 (k := 0) rfl
  obtain ⟨t, h1, rfl⟩ := x2
  obtain ⟨w1, k1, z1⟩ := zh_at r1 (k := 1) rfl h1
  obtain ⟨gs, rfl, y1⟩ := zobj z1
  obtain ⟨c2, x3, x4⟩ := zvs_get y1 (k := 0) rfl
  obtain ⟨sg, h2, rfl⟩ := x4
  obtain ⟨c3, x5, x6⟩ := zvs_get y1 (k := 1) rfl
  cases (show c3 = _ from x6)
  obtain ⟨w2, k2, z2⟩ := zh_at r1 (k := 2) rfl h2
  obtain ⟨arr, rfl, y2⟩ := zarr z2
  obtain ⟨f, rfl, -⟩ := y2.1 z23
  exact ⟨t, sg, gx, gs, f, k0, k1, k2, x1, x3, x5, zvs_len y1⟩
set_option maxRecDepth 20000 in
theorem zlaw_m {g : ZG} {cA : Nat → ClassId} {ws : va_W} {a2 : Nat} (r1 : zh g cA zzh ws) (h : (zad ws)[155]? = some a2) : ∃ (tp : Nat) (gs : List Value) (f : Nat → Int32), ws[155]? = some (a2, .inr (9, gs)) ∧ ws[156]? = some (tp, .inl (cA 0, 1000, .inl f)) ∧ zgm tp 0 gs := by
  obtain ⟨w0, k0, z0⟩ := zh_at r1 (k := 155) rfl h
  obtain ⟨gs, rfl, y0⟩ := zobj z0
  obtain ⟨c1, x1, x2⟩ := zvs_get y0 (k := 1) rfl
  obtain ⟨tp, h1, rfl⟩ := x2
  obtain ⟨c2, x3, x4⟩ := zvs_get y0 (k := 2) rfl
  cases (show c2 = _ from x4)
  obtain ⟨w1, k1, z1⟩ := zh_at r1 (k := 156) rfl h1
  obtain ⟨arr, rfl, y1⟩ := zarr z1
  obtain ⟨f, rfl, -⟩ := y1.1 (Nat.succ_pos 2)
  exact ⟨tp, gs, f, k0, k1, x1, x3, zvs_len y0⟩
set_option maxHeartbeats 4000000 in
theorem zo0 : zOK0 (zbox 0) := by
  intro p l e s m args below meth c Q dC dI cA g A hg0 _ hE F Hf
  refine zgo_sound zzcl zztab 100 0 20 23 zzl [] zzh zzn zzs _ zr40 zme0 rfl p l e room_1 s m args below meth c Q dC dI cA g A (F _ hE) ?_
  obtain ⟨hx, hb, hml, hown, hts, hK, hA, hE9, hg7, hRd, hRb, hI, hz9, hscr⟩ := F _ hE
  obtain ⟨xs, hX, hbl, hbA, hxs, hL⟩ := hscr rfl
  have hb : c.code = cL_law := hb
  have hml : c.maxLocals = 7 := hml
  have hown : s.vm.findClass RL = some m.cls := hown
  intro ws H locs ls clv cst ⟨r1, r2, r3, r4, r5, r6, r7⟩
  obtain ⟨c7, r8, rfl, hc7, r7⟩ := zvs_cons r7
  cases zvs_nil r7
  cases (show c7 = _ from hc7)
  obtain ⟨a3, a2, a1, rfl, w3, w2, w1⟩ := zlaw_lv r6
  obtain ⟨t, sg, gx, gs, f, k0, k1, k2, hgx, hgt⟩ := zlaw_x r1 w1
  obtain ⟨tp, gm, fm, k3, k4, hgm⟩ := zlaw_m r1 w2
  have hl := r5
  have hPx : va_P (dC, dI) vwCl (zwx cA a1 t sg gx gs f) H := r2.sub [0, 1, 2] (by simp [k0, k1, k2])
  have hDx : va_D A (zwx cA a1 t sg gx gs f) := r3.sub [0, 1, 2] (by decide) (by simp [k0, k1, k2])
  have hz0 := hE 7 (0, 0) rfl
  have hz1 : (g.1 7).toInt = 0 := by have := hz0.1; have := hz0.2; simp only at *; omega
  refine lv_tableIn (off := 136) (tgt := 176) hx hb dL_law_40 (by rw [hz1]; decide) (by rw [hz1]; decide) (by rw [hz1]; rfl) (by decide) ?_
  refine lv_aload_n hx hb dL_law_176 rfl (lv_at hl 3 rfl) ?_
  refine lv_aload_n hx hb dL_law_177 rfl (lv_at hl 4 rfl) ?_
  refine lv_iload hx hb dL_law_178 (lv_at hl 0 rfl) ?_
  refine lv_iconst (v := 1) hx hb dL_law_180 (by decide) ?_
  refine lv_iadd hx hb dL_law_181 ?_
  refine va_sld hx hb hX hbl hbA r4 zvi1 dL_law_182 ?_
  refine lv_i2l hx hb dL_law_183 rfl ?_
  refine lv_bipush (v := 32) hx hb dL_law_184 (by decide) ?_
  refine lv_lshl hx hb dL_law_186 rfl ?_
  refine lv_aload_n hx hb dL_law_187 rfl (lv_at hl 4 rfl) ?_
  refine lv_iload hx hb dL_law_188 (lv_at hl 0 rfl) ?_
  refine lv_iconst (v := 2) hx hb dL_law_190 (by decide) ?_
  refine lv_iadd hx hb dL_law_191 ?_
  refine va_sld hx hb hX hbl hbA r4 zvi2 dL_law_192 ?_
  refine lv_i2l hx hb dL_law_193 rfl ?_
  refine lv_ldc2 hx hb hown (hts _ zf_msk) dL_law_194 ?_
  refine lv_land hx hb dL_law_197 ?_
  refine lv_lor hx hb dL_law_198 ?_
  refine lv_topl (fun v1 ev1 => ?_)
  refine lv_aload_n hx hb dL_law_199 rfl (lv_at hl 4 rfl) ?_
  refine lv_iload hx hb dL_law_200 (lv_at hl 0 rfl) ?_
  refine lv_iconst (v := 3) hx hb dL_law_202 (by decide) ?_
  refine lv_iadd hx hb dL_law_203 ?_
  refine va_sld hx hb hX hbl hbA r4 zvi3 dL_law_204 ?_
  refine lv_i2l hx hb dL_law_205 rfl ?_
  refine lv_bipush (v := 32) hx hb dL_law_206 (by decide) ?_
  refine lv_lshl hx hb dL_law_208 rfl ?_
  refine lv_aload_n hx hb dL_law_209 rfl (lv_at hl 4 rfl) ?_
  refine lv_iload hx hb dL_law_210 (lv_at hl 0 rfl) ?_
  refine lv_iconst (v := 4) hx hb dL_law_212 (by decide) ?_
  refine lv_iadd hx hb dL_law_213 ?_
  refine va_sld hx hb hX hbl hbA r4 zvi4 dL_law_214 ?_
  refine lv_i2l hx hb dL_law_215 rfl ?_
  refine lv_ldc2 hx hb hown (hts _ zf_msk) dL_law_216 ?_
  refine lv_land hx hb dL_law_219 ?_
  refine lv_lor hx hb dL_law_220 ?_
  refine lv_topl (fun v2 ev2 => ?_)
  refine lv_aload_n hx hb dL_law_221 rfl (lv_at hl 4 rfl) ?_
  refine lv_iload hx hb dL_law_222 (lv_at hl 0 rfl) ?_
  refine lv_iconst (v := 5) hx hb dL_law_224 (by decide) ?_
  refine lv_iadd hx hb dL_law_225 ?_
  refine va_sld hx hb hX hbl hbA r4 zvi5 dL_law_226 ?_
  refine lv_i2l hx hb dL_law_227 rfl ?_
  refine lv_bipush (v := 32) hx hb dL_law_228 (by decide) ?_
  refine lv_lshl hx hb dL_law_230 rfl ?_
  refine lv_aload_n hx hb dL_law_231 rfl (lv_at hl 4 rfl) ?_
  refine lv_iload hx hb dL_law_232 (lv_at hl 0 rfl) ?_
  refine lv_bipush (v := 6) hx hb dL_law_234 (by decide) ?_
  refine lv_iadd hx hb dL_law_236 ?_
  refine va_sld hx hb hX hbl hbA r4 zvi6 dL_law_237 ?_
  refine lv_i2l hx hb dL_law_238 rfl ?_
  refine lv_ldc2 hx hb hown (hts _ zf_msk) dL_law_239 ?_
  refine lv_land hx hb dL_law_242 ?_
  refine lv_lor hx hb dL_law_243 ?_
  refine lv_topl (fun v3 ev3 => ?_)
  have hM := zc_feed l dC dI cA 0 a1 t sg gx gs f v1 v2 v3 H.size hgx hgt
  have hR9 := zrun (e := e) (below := below) (meth := meth) (locs := locs) (nc := zzn) (ns := zzs) (own := RL) (idx := 21) (kd := 2) (n := 3) (R := room_1) (cst := [.long v3, .long v2, .long v1, .ref a1]) (crest := []) (ls := ls) hx hb hml hown hts hK hPx hDx hl.1 hM hz9 zw_feed (fun q => by omega) (by decide +kernel) (by decide) (fun q => by omega) (by decide) (by decide) rfl (by decide) rfl (fun _ => ⟨a1, _, rfl, fun _ => va_recv hK hPx (ci := 8) (q0 := 0) rfl rfl⟩) (Or.inr (Or.inl ⟨rfl, rfl⟩)) dL_law_244
  have hF := zfree hDx r4 hA
  refine va_calli hR9 r4 (fun q _ h => hF q h) hF (fun x1 u t9 H1 locs1 ht hvm hw hB hz1 hk1 hS1 => ?_)
  obtain ⟨hPm, hDm⟩ := va_join (wr := zwm cA a2 tp gm fm) (w1 := []) r2 r3 [0, 1, 2] [155, 156] (by simp [k0, k1, k2]) (by simp [k3, k4]) (by decide) (by decide) hk1 hF (fun k q h => by simp at h) ⟨fun i j p q h => by simp at h, fun k q h => by simp at h⟩
  have hPm : va_P (dC, dI) vwCl (zwm cA a2 tp gm fm) H1 := hPm
  have hDm : va_D A (zwm cA a2 tp gm fm) := hDm
  refine lv_aload_n hx hb dL_law_247 rfl (lv_at hl 2 rfl) ?_
  refine lv_aload_n hx hb dL_law_248 rfl (lv_at hl 4 rfl) ?_
  refine lv_iload hx hb dL_law_249 (lv_at hl 0 rfl) ?_
  refine lv_iconst (v := 1) hx hb dL_law_251 (by decide) ?_
  refine lv_iadd hx hb dL_law_252 ?_
  refine va_sld hx hb hX hbl hbA hS1 zvi1 dL_law_253 ?_
  refine lv_i2l hx hb dL_law_254 rfl ?_
  refine lv_bipush (v := 32) hx hb dL_law_255 (by decide) ?_
  refine lv_lshl hx hb dL_law_257 rfl ?_
  refine lv_aload_n hx hb dL_law_258 rfl (lv_at hl 4 rfl) ?_
  refine lv_iload hx hb dL_law_259 (lv_at hl 0 rfl) ?_
  refine lv_iconst (v := 2) hx hb dL_law_261 (by decide) ?_
  refine lv_iadd hx hb dL_law_262 ?_
  refine va_sld hx hb hX hbl hbA hS1 zvi2 dL_law_263 ?_
  refine lv_i2l hx hb dL_law_264 rfl ?_
  refine lv_ldc2 hx hb hown (hts _ zf_msk) dL_law_265 ?_
  refine lv_land hx hb dL_law_268 ?_
  refine lv_lor hx hb dL_law_269 ?_
  refine lv_topl (fun y1 ey1 => ?_)
  refine lv_aload_n hx hb dL_law_270 rfl (lv_at hl 4 rfl) ?_
  refine lv_iload hx hb dL_law_271 (lv_at hl 0 rfl) ?_
  refine lv_iconst (v := 3) hx hb dL_law_273 (by decide) ?_
  refine lv_iadd hx hb dL_law_274 ?_
  refine va_sld hx hb hX hbl hbA hS1 zvi3 dL_law_275 ?_
  refine lv_i2l hx hb dL_law_276 rfl ?_
  refine lv_bipush (v := 32) hx hb dL_law_277 (by decide) ?_
  refine lv_lshl hx hb dL_law_279 rfl ?_
  refine lv_aload_n hx hb dL_law_280 rfl (lv_at hl 4 rfl) ?_
  refine lv_iload hx hb dL_law_281 (lv_at hl 0 rfl) ?_
  refine lv_iconst (v := 4) hx hb dL_law_283 (by decide) ?_
  refine lv_iadd hx hb dL_law_284 ?_
  refine va_sld hx hb hX hbl hbA hS1 zvi4 dL_law_285 ?_
  refine lv_i2l hx hb dL_law_286 rfl ?_
  refine lv_ldc2 hx hb hown (hts _ zf_msk) dL_law_287 ?_
  refine lv_land hx hb dL_law_290 ?_
  refine lv_lor hx hb dL_law_291 ?_
  refine lv_topl (fun y2 ey2 => ?_)
  refine lv_aload_n hx hb dL_law_292 rfl (lv_at hl 4 rfl) ?_
  refine lv_iload hx hb dL_law_293 (lv_at hl 0 rfl) ?_
  refine lv_iconst (v := 5) hx hb dL_law_295 (by decide) ?_
  refine lv_iadd hx hb dL_law_296 ?_
  refine va_sld hx hb hX hbl hbA hS1 zvi5 dL_law_297 ?_
  refine lv_i2l hx hb dL_law_298 rfl ?_
  refine lv_bipush (v := 32) hx hb dL_law_299 (by decide) ?_
  refine lv_lshl hx hb dL_law_301 rfl ?_
  refine lv_aload_n hx hb dL_law_302 rfl (lv_at hl 4 rfl) ?_
  refine lv_iload hx hb dL_law_303 (lv_at hl 0 rfl) ?_
  refine lv_bipush (v := 6) hx hb dL_law_305 (by decide) ?_
  refine lv_iadd hx hb dL_law_307 ?_
  refine va_sld hx hb hX hbl hbA hS1 zvi6 dL_law_308 ?_
  refine lv_i2l hx hb dL_law_309 rfl ?_
  refine lv_ldc2 hx hb hown (hts _ zf_msk) dL_law_310 ?_
  refine lv_land hx hb dL_law_313 ?_
  refine lv_lor hx hb dL_law_314 ?_
  refine lv_topl (fun y3 ey3 => ?_)
  have hM2 := zc_mfeed l dC dI cA 0 a2 tp gm fm y1 y2 y3 H1.size hgm
  have hR8 := zrun (e := e) (below := below) (meth := meth) (locs := locs1) (nc := zzn + 0) (ns := zzs + 0) (own := RL) (idx := 25) (kd := 2) (n := 3) (R := room_1) (cst := [.long y3, .long y2, .long y1, .ref a2, .int x1]) (crest := [.int x1]) (ls := ls) hx hb hml hown hts hK hPm hDm hl.1 hM2 hz9 zw_mfeed (fun q => by omega) (by decide +kernel) (by decide) (fun q => by omega) (by decide) (by decide) rfl (Nat.le_of_ble_eq_true rfl) rfl (fun _ => ⟨a2, _, rfl, fun _ => va_recv hK hPm (ci := 9) (q0 := 0) rfl rfl⟩) (Or.inr (Or.inl ⟨rfl, rfl⟩)) dL_law_315
  have hF2 := zfree hDm hS1 hA
  refine va_calli hR8 hS1 (fun q _ h => hF2 q h) hF2 (fun x2 u2 t8 H2 locs2 ht2 hvm2 hw2 hB2 hz2 hk2 hS2 => ?_)
  have hEq : x1 = x2 := by
    rw [hw, hw2]
    have e1 : v1 = y1 := ev1.trans ey1.symm
    have e2 : v2 = y2 := ev2.trans ey2.symm
    have e3 : v3 = y3 := ev3.trans ey3.symm
    subst e1
    subst e2
    subst e3
    rw [zcn_eq 8 (zbyte v1), zcn_eq 8 (zbyte v2), zcn_eq 8 (zbyte v3)]
  refine lv_icmp_eq (tgt := 1499) hx hb dL_law_318 (by decide) (fun _ => ?_) (fun c9 => absurd hEq c9)
  have hW := zgo_sound zzcl zztab 50 0 20 1499 [(4, .int 0), (0, .float 0)] [] [] zzn zzs _ zr1499 zme0 rfl p l e room_1 s m args below meth c Q dC dI cA g A (F _ hE) (Hf _ _ _ _ (by decide) (by decide))
  exact hW [] H2 locs2 ls _ [] ⟨⟨rfl, fun k e w q => by simp at q, fun k a q => by rw [hg0] at q; simp at q⟩, fun k q h => by simp at h, ⟨fun i j p q h => by simp at h, fun k q h => by simp at h⟩, hS2, lv_sub hl [0, 4] rfl, ⟨rfl, rfl, rfl, rfl, trivial⟩, trivial⟩
