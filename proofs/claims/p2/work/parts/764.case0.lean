/-! the law's case 0: feed against feed -/
theorem dL0_176 : decode cL_law 176 = .ok (.aload_n 1, 1) := by decide +kernel
theorem dL0_177 : decode cL_law 177 = .ok (.aload_n 0, 1) := by decide +kernel
theorem dL0_178 : decode cL_law 178 = .ok (.iload 4, 2) := by decide +kernel
theorem dL0_180 : decode cL_law 180 = .ok (.iconst 1, 1) := by decide +kernel
theorem dL0_181 : decode cL_law 181 = .ok (.iadd, 1) := by decide +kernel
theorem dL0_182 : decode cL_law 182 = .ok (.iaload, 1) := by decide +kernel
theorem dL0_183 : decode cL_law 183 = .ok (.i2l, 1) := by decide +kernel
theorem dL0_184 : decode cL_law 184 = .ok (.bipush 32, 2) := by decide +kernel
theorem dL0_186 : decode cL_law 186 = .ok (.lshl, 1) := by decide +kernel
theorem dL0_187 : decode cL_law 187 = .ok (.aload_n 0, 1) := by decide +kernel
theorem dL0_188 : decode cL_law 188 = .ok (.iload 4, 2) := by decide +kernel
theorem dL0_190 : decode cL_law 190 = .ok (.iconst 2, 1) := by decide +kernel
theorem dL0_191 : decode cL_law 191 = .ok (.iadd, 1) := by decide +kernel
theorem dL0_192 : decode cL_law 192 = .ok (.iaload, 1) := by decide +kernel
theorem dL0_193 : decode cL_law 193 = .ok (.i2l, 1) := by decide +kernel
theorem dL0_194 : decode cL_law 194 = .ok (.ldc2_w 19, 3) := by decide +kernel
theorem dL0_197 : decode cL_law 197 = .ok (.land, 1) := by decide +kernel
theorem dL0_198 : decode cL_law 198 = .ok (.lor, 1) := by decide +kernel
theorem dL0_199 : decode cL_law 199 = .ok (.aload_n 0, 1) := by decide +kernel
theorem dL0_200 : decode cL_law 200 = .ok (.iload 4, 2) := by decide +kernel
theorem dL0_202 : decode cL_law 202 = .ok (.iconst 3, 1) := by decide +kernel
theorem dL0_203 : decode cL_law 203 = .ok (.iadd, 1) := by decide +kernel
theorem dL0_204 : decode cL_law 204 = .ok (.iaload, 1) := by decide +kernel
theorem dL0_205 : decode cL_law 205 = .ok (.i2l, 1) := by decide +kernel
theorem dL0_206 : decode cL_law 206 = .ok (.bipush 32, 2) := by decide +kernel
theorem dL0_208 : decode cL_law 208 = .ok (.lshl, 1) := by decide +kernel
theorem dL0_209 : decode cL_law 209 = .ok (.aload_n 0, 1) := by decide +kernel
theorem dL0_210 : decode cL_law 210 = .ok (.iload 4, 2) := by decide +kernel
theorem dL0_212 : decode cL_law 212 = .ok (.iconst 4, 1) := by decide +kernel
theorem dL0_213 : decode cL_law 213 = .ok (.iadd, 1) := by decide +kernel
theorem dL0_214 : decode cL_law 214 = .ok (.iaload, 1) := by decide +kernel
theorem dL0_215 : decode cL_law 215 = .ok (.i2l, 1) := by decide +kernel
theorem dL0_216 : decode cL_law 216 = .ok (.ldc2_w 19, 3) := by decide +kernel
theorem dL0_219 : decode cL_law 219 = .ok (.land, 1) := by decide +kernel
theorem dL0_220 : decode cL_law 220 = .ok (.lor, 1) := by decide +kernel
theorem dL0_221 : decode cL_law 221 = .ok (.aload_n 0, 1) := by decide +kernel
theorem dL0_222 : decode cL_law 222 = .ok (.iload 4, 2) := by decide +kernel
theorem dL0_224 : decode cL_law 224 = .ok (.iconst 5, 1) := by decide +kernel
theorem dL0_225 : decode cL_law 225 = .ok (.iadd, 1) := by decide +kernel
theorem dL0_226 : decode cL_law 226 = .ok (.iaload, 1) := by decide +kernel
theorem dL0_227 : decode cL_law 227 = .ok (.i2l, 1) := by decide +kernel
theorem dL0_228 : decode cL_law 228 = .ok (.bipush 32, 2) := by decide +kernel
theorem dL0_230 : decode cL_law 230 = .ok (.lshl, 1) := by decide +kernel
theorem dL0_231 : decode cL_law 231 = .ok (.aload_n 0, 1) := by decide +kernel
theorem dL0_232 : decode cL_law 232 = .ok (.iload 4, 2) := by decide +kernel
theorem dL0_234 : decode cL_law 234 = .ok (.bipush 6, 2) := by decide +kernel
theorem dL0_236 : decode cL_law 236 = .ok (.iadd, 1) := by decide +kernel
theorem dL0_237 : decode cL_law 237 = .ok (.iaload, 1) := by decide +kernel
theorem dL0_238 : decode cL_law 238 = .ok (.i2l, 1) := by decide +kernel
theorem dL0_239 : decode cL_law 239 = .ok (.ldc2_w 19, 3) := by decide +kernel
theorem dL0_242 : decode cL_law 242 = .ok (.land, 1) := by decide +kernel
theorem dL0_243 : decode cL_law 243 = .ok (.lor, 1) := by decide +kernel
theorem dL0_244 : decode cL_law 244 = .ok (.invokevirtual 21, 3) := by decide +kernel
theorem dL0_247 : decode cL_law 247 = .ok (.aload_n 2, 1) := by decide +kernel
theorem dL0_248 : decode cL_law 248 = .ok (.aload_n 0, 1) := by decide +kernel
theorem dL0_249 : decode cL_law 249 = .ok (.iload 4, 2) := by decide +kernel
theorem dL0_251 : decode cL_law 251 = .ok (.iconst 1, 1) := by decide +kernel
theorem dL0_252 : decode cL_law 252 = .ok (.iadd, 1) := by decide +kernel
theorem dL0_253 : decode cL_law 253 = .ok (.iaload, 1) := by decide +kernel
theorem dL0_254 : decode cL_law 254 = .ok (.i2l, 1) := by decide +kernel
theorem dL0_255 : decode cL_law 255 = .ok (.bipush 32, 2) := by decide +kernel
theorem dL0_257 : decode cL_law 257 = .ok (.lshl, 1) := by decide +kernel
theorem dL0_258 : decode cL_law 258 = .ok (.aload_n 0, 1) := by decide +kernel
theorem dL0_259 : decode cL_law 259 = .ok (.iload 4, 2) := by decide +kernel
theorem dL0_261 : decode cL_law 261 = .ok (.iconst 2, 1) := by decide +kernel
theorem dL0_262 : decode cL_law 262 = .ok (.iadd, 1) := by decide +kernel
theorem dL0_263 : decode cL_law 263 = .ok (.iaload, 1) := by decide +kernel
theorem dL0_264 : decode cL_law 264 = .ok (.i2l, 1) := by decide +kernel
theorem dL0_265 : decode cL_law 265 = .ok (.ldc2_w 19, 3) := by decide +kernel
theorem dL0_268 : decode cL_law 268 = .ok (.land, 1) := by decide +kernel
theorem dL0_269 : decode cL_law 269 = .ok (.lor, 1) := by decide +kernel
theorem dL0_270 : decode cL_law 270 = .ok (.aload_n 0, 1) := by decide +kernel
theorem dL0_271 : decode cL_law 271 = .ok (.iload 4, 2) := by decide +kernel
theorem dL0_273 : decode cL_law 273 = .ok (.iconst 3, 1) := by decide +kernel
theorem dL0_274 : decode cL_law 274 = .ok (.iadd, 1) := by decide +kernel
theorem dL0_275 : decode cL_law 275 = .ok (.iaload, 1) := by decide +kernel
theorem dL0_276 : decode cL_law 276 = .ok (.i2l, 1) := by decide +kernel
theorem dL0_277 : decode cL_law 277 = .ok (.bipush 32, 2) := by decide +kernel
theorem dL0_279 : decode cL_law 279 = .ok (.lshl, 1) := by decide +kernel
theorem dL0_280 : decode cL_law 280 = .ok (.aload_n 0, 1) := by decide +kernel
theorem dL0_281 : decode cL_law 281 = .ok (.iload 4, 2) := by decide +kernel
theorem dL0_283 : decode cL_law 283 = .ok (.iconst 4, 1) := by decide +kernel
theorem dL0_284 : decode cL_law 284 = .ok (.iadd, 1) := by decide +kernel
theorem dL0_285 : decode cL_law 285 = .ok (.iaload, 1) := by decide +kernel
theorem dL0_286 : decode cL_law 286 = .ok (.i2l, 1) := by decide +kernel
theorem dL0_287 : decode cL_law 287 = .ok (.ldc2_w 19, 3) := by decide +kernel
theorem dL0_290 : decode cL_law 290 = .ok (.land, 1) := by decide +kernel
theorem dL0_291 : decode cL_law 291 = .ok (.lor, 1) := by decide +kernel
theorem dL0_292 : decode cL_law 292 = .ok (.aload_n 0, 1) := by decide +kernel
theorem dL0_293 : decode cL_law 293 = .ok (.iload 4, 2) := by decide +kernel
theorem dL0_295 : decode cL_law 295 = .ok (.iconst 5, 1) := by decide +kernel
theorem dL0_296 : decode cL_law 296 = .ok (.iadd, 1) := by decide +kernel
theorem dL0_297 : decode cL_law 297 = .ok (.iaload, 1) := by decide +kernel
theorem dL0_298 : decode cL_law 298 = .ok (.i2l, 1) := by decide +kernel
theorem dL0_299 : decode cL_law 299 = .ok (.bipush 32, 2) := by decide +kernel
theorem dL0_301 : decode cL_law 301 = .ok (.lshl, 1) := by decide +kernel
theorem dL0_302 : decode cL_law 302 = .ok (.aload_n 0, 1) := by decide +kernel
theorem dL0_303 : decode cL_law 303 = .ok (.iload 4, 2) := by decide +kernel
theorem dL0_305 : decode cL_law 305 = .ok (.bipush 6, 2) := by decide +kernel
theorem dL0_307 : decode cL_law 307 = .ok (.iadd, 1) := by decide +kernel
theorem dL0_308 : decode cL_law 308 = .ok (.iaload, 1) := by decide +kernel
theorem dL0_309 : decode cL_law 309 = .ok (.i2l, 1) := by decide +kernel
theorem dL0_310 : decode cL_law 310 = .ok (.ldc2_w 19, 3) := by decide +kernel
theorem dL0_313 : decode cL_law 313 = .ok (.land, 1) := by decide +kernel
theorem dL0_314 : decode cL_law 314 = .ok (.lor, 1) := by decide +kernel
theorem dL0_315 : decode cL_law 315 = .ok (.invokevirtual 25, 3) := by decide +kernel
theorem dL0_318 : decode cL_law 318 = .ok (.if_icmp .eq 1153, 3) := by decide +kernel
theorem dL0_1471 : decode cL_law 1471 = .ok (.iinc 4 7, 3) := by decide +kernel
theorem dL0_1474 : decode cL_law 1474 = .ok (.goto (-1451), 3) := by decide +kernel
theorem zf_msk : Cond.constantLong RL 19 4294967295 ∈ zT := zchk_ok (ws := [_]) (is := [1810]) (by decide +kernel) _ (List.Mem.head _)
theorem zw_feed : ∀ w ∈ zcw RL 21 2 yX9_feed cX9_feed 7 (some .int), w ∈ zT := zchk_ok (is := [549, 550, 117, 552, 551]) (by decide +kernel)
theorem zw_mfeed : ∀ w ∈ zcw RL 25 2 yX10_feed cX10_feed 7 (some .int), w ∈ zT := zchk_ok (is := [1260, 1261, 127, 1263, 1262]) (by decide +kernel)
theorem ffeed (a b c : Int64) (n : Nat) : zfd (zby c) (zfd (zby b) (zfd (zby a) n 8) 8) 8 = zfd (zbm c) (zfd (zbm b) (zfd (zbm a) n 8) 8) 8 := by
  rw [zfd_eq (f := zby a) (g := zbm a) 8 (zbyte a), zfd_eq (f := zby b) (g := zbm b) 8 (zbyte b), zfd_eq (f := zby c) (g := zbm c) 8 (zbyte c)]
theorem fmid {M M1 : SMem} {n n1 : Nat} (h : M 1 0 2 = (n : Int) ∧ n ≤ 1000) (hv : xInv M n1 M1) : mInv M1 n M1 := ⟨fun _ _ _ _ _ => rfl, hv.2.1, by rw [hv.1 1 0 2 (fun z => by cases z.1) (by decide)]; exact h.1, h.2⟩
/-- what is the same behind both feeds, and that both tapes are alike long -/
def fS (M M2 : SMem) : Prop := (∀ f j i, ¬ (f = 3 ∧ i = 1) → f ≠ 57 → ¬ (f = 1 ∧ (i = 0 ∨ i = 2)) → f ≠ 12 → M2 f j i = M f j i) ∧ sI tg M2 ∧ M2 3 0 1 = M2 1 0 2
theorem fsum {M M1 M2 : SMem} {b c : Nat} (h1 : xInv M b M1) (h2 : mInv M1 c M2) (e : b = c) : fS M M2 := by
  refine ⟨fun f j i q1 q2 q3 q4 => by rw [h2.1 f j i q3 q4, h1.1 f j i q1 q2], h2.2.1, ?_⟩
  rw [h2.1 3 0 1 (fun z => by cases z.1) (by decide), h1.2.2.1, h2.2.2.1, e]
section SC0
variable {EX : SEx} {l : Launch} {dC : Nat → ClassId} {dI : Nat → Nat → Nat} {cA : Nat → ClassId} {p : Program} {e : Env} {R : Room} {s : State} {m : MethodId} {args : Array Value} {below : List Frame} {meth : Method} {c : Code} {Q : State → Prop} {A : Nat → Prop} {scr : Nat} {ad : SAd} {M : SMem} {ws : va_W} {H : Heap} {locs : List Loc} {ls : Array Slot} {iv : Int32} {nc ns nn L : Nat} {xs : Nat → Int32}
set_option maxHeartbeats 4000000 in
theorem lcase0 (hEX : sEXok EX) (F : sF 33 (RL, yL_law, cL_law, 7, some .boolean, 50, 5000) EX p R s m args c dC dI cA A) (hX : va_X scr L xs s s.heap) (hbl : scr < s.heap.size) (hbA : ¬ A scr) (m1 : sH tf ad M cA ws) (m2 : sI tg M) (q1 : va_P (dC, dI) vwCl ws H) (q2 : va_D A ws) (q3 : va_S A s.heap H locs) (hl : lv_has ls 7 [(0, .ref scr), (1, .ref (ad 0 0)), (2, .ref (ad 1 0)), (3, .ref (ad 2 0)), (4, .int iv)]) (i0 : 0 ≤ iv.toInt) (i1 : iv.toInt + 7 ≤ (L : Int)) (hL : L ≤ 3584) (n1 : M 3 0 1 = (nn : Int)) (n2 : M 1 0 2 = (nn : Int)) (n3 : nn ≤ 1000) (hnc : nc ≤ R.cells) (hns : ns ≤ R.slots)
    (kk : ∀ (ls2 : Array Slot) (ws2 : va_W) (H2 : Heap) (locs2 : List Loc) (M2 : SMem), sH tf ad M2 cA ws2 → va_P (dC, dI) vwCl ws2 H2 → va_D A ws2 → va_S A s.heap H2 locs2 → lv_has ls2 7 [(0, .ref scr), (1, .ref (ad 0 0)), (2, .ref (ad 1 0)), (3, .ref (ad 2 0)), (4, .int (iv + 7))] → fS M M2 → W p l e R s m args below meth c H2 locs2 nc ns Q (F0 m 23 ls2 [])) : W p l e R s m args below meth c H locs nc ns Q (F0 m 176 ls []) := by
  have F' := F
  obtain ⟨hx, hb, hml, hown, hts, hK, hA, hRd, hRb, hE9⟩ := F
  have hb : c.code = cL_law := hb
  have hown : s.vm.findClass RL = some m.cls := hown
  have hSS := q3
  have hxi : xInv M nn M := ⟨fun _ _ _ _ _ => rfl, m2, n1, n3⟩
  have hmi : M 1 0 2 = (nn : Int) ∧ nn ≤ 1000 := ⟨n2, n3⟩
  have hin : ∀ k : Int32, 0 ≤ k.toInt → k.toInt ≤ 6 → vp_in (iv + k) L := fun k k0 k1 => by
    have := siadd (x := iv) (y := k) (z := iv.toInt + k.toInt) ⟨by omega, by omega⟩ rfl
    exact vp_in_iff.mpr ⟨by omega, by omega⟩
  refine lv_aload_n hx hb dL0_176 rfl (lv_at hl 1 rfl) ?_
  refine lv_aload_n hx hb dL0_177 rfl (lv_at hl 0 rfl) ?_
  refine lv_iload hx hb dL0_178 (lv_at hl 4 rfl) ?_
  refine lv_iconst (v := 1) hx hb dL0_180 (by decide) ?_
  refine lv_iadd hx hb dL0_181 ?_
  refine va_sld hx hb hX hbl hbA hSS (hin 1 (by decide) (by decide)) dL0_182 ?_
  refine lv_i2l hx hb dL0_183 rfl ?_
  refine lv_bipush (v := 32) hx hb dL0_184 (by decide) ?_
  refine lv_lshl hx hb dL0_186 rfl ?_
  refine lv_aload_n hx hb dL0_187 rfl (lv_at hl 0 rfl) ?_
  refine lv_iload hx hb dL0_188 (lv_at hl 4 rfl) ?_
  refine lv_iconst (v := 2) hx hb dL0_190 (by decide) ?_
  refine lv_iadd hx hb dL0_191 ?_
  refine va_sld hx hb hX hbl hbA hSS (hin 2 (by decide) (by decide)) dL0_192 ?_
  refine lv_i2l hx hb dL0_193 rfl ?_
  refine lv_ldc2 hx hb hown (hts _ zf_msk) dL0_194 ?_
  refine lv_land hx hb dL0_197 ?_
  refine lv_lor hx hb dL0_198 ?_
  refine lv_topl (fun v1 ev1 => ?_)
  refine lv_aload_n hx hb dL0_199 rfl (lv_at hl 0 rfl) ?_
  refine lv_iload hx hb dL0_200 (lv_at hl 4 rfl) ?_
  refine lv_iconst (v := 3) hx hb dL0_202 (by decide) ?_
  refine lv_iadd hx hb dL0_203 ?_
  refine va_sld hx hb hX hbl hbA hSS (hin 3 (by decide) (by decide)) dL0_204 ?_
  refine lv_i2l hx hb dL0_205 rfl ?_
  refine lv_bipush (v := 32) hx hb dL0_206 (by decide) ?_
  refine lv_lshl hx hb dL0_208 rfl ?_
  refine lv_aload_n hx hb dL0_209 rfl (lv_at hl 0 rfl) ?_
  refine lv_iload hx hb dL0_210 (lv_at hl 4 rfl) ?_
  refine lv_iconst (v := 4) hx hb dL0_212 (by decide) ?_
  refine lv_iadd hx hb dL0_213 ?_
  refine va_sld hx hb hX hbl hbA hSS (hin 4 (by decide) (by decide)) dL0_214 ?_
  refine lv_i2l hx hb dL0_215 rfl ?_
  refine lv_ldc2 hx hb hown (hts _ zf_msk) dL0_216 ?_
  refine lv_land hx hb dL0_219 ?_
  refine lv_lor hx hb dL0_220 ?_
  refine lv_topl (fun v2 ev2 => ?_)
  refine lv_aload_n hx hb dL0_221 rfl (lv_at hl 0 rfl) ?_
  refine lv_iload hx hb dL0_222 (lv_at hl 4 rfl) ?_
  refine lv_iconst (v := 5) hx hb dL0_224 (by decide) ?_
  refine lv_iadd hx hb dL0_225 ?_
  refine va_sld hx hb hX hbl hbA hSS (hin 5 (by decide) (by decide)) dL0_226 ?_
  refine lv_i2l hx hb dL0_227 rfl ?_
  refine lv_bipush (v := 32) hx hb dL0_228 (by decide) ?_
  refine lv_lshl hx hb dL0_230 rfl ?_
  refine lv_aload_n hx hb dL0_231 rfl (lv_at hl 0 rfl) ?_
  refine lv_iload hx hb dL0_232 (lv_at hl 4 rfl) ?_
  refine lv_bipush (v := 6) hx hb dL0_234 (by decide) ?_
  refine lv_iadd hx hb dL0_236 ?_
  refine va_sld hx hb hX hbl hbA hSS (hin 6 (by decide) (by decide)) dL0_237 ?_
  refine lv_i2l hx hb dL0_238 rfl ?_
  refine lv_ldc2 hx hb hown (hts _ zf_msk) dL0_239 ?_
  refine lv_land hx hb dL0_242 ?_
  refine lv_lor hx hb dL0_243 ?_
  refine lv_topl (fun v3 ev3 => ?_)
  obtain ⟨w0, k0, z0⟩ := m1 0 _ rfl 0 Nat.zero_lt_one
  obtain ⟨g0, rfl, -, -⟩ := z0
  refine scallX (d' := 32) (me2 := meFx) (cas := [.ref (ad 0 0), .long v1, .long v2, .long v3]) (crest := []) (clv := [(0, .ref scr), (1, .ref (ad 0 0)), (2, .ref (ad 1 0)), (3, .ref (ad 2 0)), (4, .int iv)]) hEX F' zw_feed (Or.inr rfl) (n := 3) (by decide +kernel) (by decide) (by decide) rfl (sRun_mono (by decide) (fr_feed hEX (va := v1) (vb := v2) (vc := v3) m1 hxi)) q1 q2 q3 hl rfl (by decide) (Nat.le_of_ble_eq_true rfl) rfl (fun _ => ⟨ad 0 0, _, rfl, fun _ => va_recv hK q1 (ci := 8) (q0 := 0) rfl k0⟩) ⟨by show nc + 0 ≤ _; omega, by show ns + 0 ≤ _; omega⟩ (Or.inr ⟨rfl, rfl⟩) dL0_244 (fun r ws1 H1 locs1 hr1 p1 d1 s1 => ?_)
  obtain ⟨x1, M1, rfl, ex1, hH1, hv1⟩ := hr1
  have hSS := s1
  have hmi := fmid hmi hv1
  refine lv_aload_n hx hb dL0_247 rfl (lv_at hl 2 rfl) ?_
  refine lv_aload_n hx hb dL0_248 rfl (lv_at hl 0 rfl) ?_
  refine lv_iload hx hb dL0_249 (lv_at hl 4 rfl) ?_
  refine lv_iconst (v := 1) hx hb dL0_251 (by decide) ?_
  refine lv_iadd hx hb dL0_252 ?_
  refine va_sld hx hb hX hbl hbA hSS (hin 1 (by decide) (by decide)) dL0_253 ?_
  refine lv_i2l hx hb dL0_254 rfl ?_
  refine lv_bipush (v := 32) hx hb dL0_255 (by decide) ?_
  refine lv_lshl hx hb dL0_257 rfl ?_
  refine lv_aload_n hx hb dL0_258 rfl (lv_at hl 0 rfl) ?_
  refine lv_iload hx hb dL0_259 (lv_at hl 4 rfl) ?_
  refine lv_iconst (v := 2) hx hb dL0_261 (by decide) ?_
  refine lv_iadd hx hb dL0_262 ?_
  refine va_sld hx hb hX hbl hbA hSS (hin 2 (by decide) (by decide)) dL0_263 ?_
  refine lv_i2l hx hb dL0_264 rfl ?_
  refine lv_ldc2 hx hb hown (hts _ zf_msk) dL0_265 ?_
  refine lv_land hx hb dL0_268 ?_
  refine lv_lor hx hb dL0_269 ?_
  refine lv_topl (fun v4 ev4 => ?_)
  refine lv_aload_n hx hb dL0_270 rfl (lv_at hl 0 rfl) ?_
  refine lv_iload hx hb dL0_271 (lv_at hl 4 rfl) ?_
  refine lv_iconst (v := 3) hx hb dL0_273 (by decide) ?_
  refine lv_iadd hx hb dL0_274 ?_
  refine va_sld hx hb hX hbl hbA hSS (hin 3 (by decide) (by decide)) dL0_275 ?_
  refine lv_i2l hx hb dL0_276 rfl ?_
  refine lv_bipush (v := 32) hx hb dL0_277 (by decide) ?_
  refine lv_lshl hx hb dL0_279 rfl ?_
  refine lv_aload_n hx hb dL0_280 rfl (lv_at hl 0 rfl) ?_
  refine lv_iload hx hb dL0_281 (lv_at hl 4 rfl) ?_
  refine lv_iconst (v := 4) hx hb dL0_283 (by decide) ?_
  refine lv_iadd hx hb dL0_284 ?_
  refine va_sld hx hb hX hbl hbA hSS (hin 4 (by decide) (by decide)) dL0_285 ?_
  refine lv_i2l hx hb dL0_286 rfl ?_
  refine lv_ldc2 hx hb hown (hts _ zf_msk) dL0_287 ?_
  refine lv_land hx hb dL0_290 ?_
  refine lv_lor hx hb dL0_291 ?_
  refine lv_topl (fun v5 ev5 => ?_)
  refine lv_aload_n hx hb dL0_292 rfl (lv_at hl 0 rfl) ?_
  refine lv_iload hx hb dL0_293 (lv_at hl 4 rfl) ?_
  refine lv_iconst (v := 5) hx hb dL0_295 (by decide) ?_
  refine lv_iadd hx hb dL0_296 ?_
  refine va_sld hx hb hX hbl hbA hSS (hin 5 (by decide) (by decide)) dL0_297 ?_
  refine lv_i2l hx hb dL0_298 rfl ?_
  refine lv_bipush (v := 32) hx hb dL0_299 (by decide) ?_
  refine lv_lshl hx hb dL0_301 rfl ?_
  refine lv_aload_n hx hb dL0_302 rfl (lv_at hl 0 rfl) ?_
  refine lv_iload hx hb dL0_303 (lv_at hl 4 rfl) ?_
  refine lv_bipush (v := 6) hx hb dL0_305 (by decide) ?_
  refine lv_iadd hx hb dL0_307 ?_
  refine va_sld hx hb hX hbl hbA hSS (hin 6 (by decide) (by decide)) dL0_308 ?_
  refine lv_i2l hx hb dL0_309 rfl ?_
  refine lv_ldc2 hx hb hown (hts _ zf_msk) dL0_310 ?_
  refine lv_land hx hb dL0_313 ?_
  refine lv_lor hx hb dL0_314 ?_
  refine lv_topl (fun v6 ev6 => ?_)
  obtain ⟨wm, km, zm⟩ := hH1 1 _ rfl 0 Nat.zero_lt_one
  obtain ⟨gm, rfl, -, -⟩ := zm
  have e4 : v4 = v1 := ev4.trans ev1.symm
  have e5 : v5 = v2 := ev5.trans ev2.symm
  have e6 : v6 = v3 := ev6.trans ev3.symm
  subst e4 e5 e6
  refine scallX (d' := 32) (me2 := meFm) (cas := [.ref (ad 1 0), .long v4, .long v5, .long v6]) (crest := [.int x1]) (clv := [(0, .ref scr), (1, .ref (ad 0 0)), (2, .ref (ad 1 0)), (3, .ref (ad 2 0)), (4, .int iv)]) hEX F' zw_mfeed (Or.inr rfl) (n := 3) (by decide +kernel) (by decide) (by decide) rfl (sRun_mono (by decide) (fr_mfeed hEX (va := v4) (vb := v5) (vc := v6) hH1 hmi)) p1 d1 s1 hl rfl (Nat.le_of_ble_eq_true rfl) (Nat.le_of_ble_eq_true rfl) rfl (fun _ => ⟨ad 1 0, _, rfl, fun _ => va_recv hK p1 (ci := 9) (q0 := 155) rfl km⟩) ⟨by show nc + 0 + 0 ≤ _; omega, by show ns + 0 + 0 ≤ _; omega⟩ (Or.inr ⟨rfl, rfl⟩) dL0_315 (fun r ws2 H2 locs2 hr2 p2 d2 s2 => ?_)
  obtain ⟨x2, M2, rfl, ex2, hH2, hv2⟩ := hr2
  have e9 := ffeed v4 v5 v6 nn
  have exx : x1 = x2 := Int32.toInt_inj.mp (by rw [ex1, ex2, e9])
  refine lv_icmp_eq (tgt := 1471) hx hb dL0_318 (by decide) (fun _ => ?_) (fun c9 => absurd exx c9)
  refine lv_iinc (v := iv + 7) (lv' := [(4, .int (iv + 7)), (0, .ref scr), (1, .ref (ad 0 0)), (2, .ref (ad 1 0)), (3, .ref (ad 2 0))]) hx hb dL0_1471 hl (k := 4) rfl (congrArg (fun z => iv + z) (show Int32.ofInt 7 = 7 by decide)) (by decide) rfl (fun ls2 hl2 => ?_)
  refine lv_goto (tgt := 23) hx hb dL0_1474 (by decide) ?_
  exact kk ls2 ws2 H2 locs2 M2 hH2 p2 d2 s2 (lv_sub hl2 [1, 2, 3, 4, 0] rfl) (fsum hv1 hv2 e9)
end SC0

