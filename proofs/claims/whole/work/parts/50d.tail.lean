def LX9_initTail_343 : Nat → Int32 → Mm → Option (Mm)
  | 0, _, _ => none
  | fu + 1, v18, w19 =>
    if 8 ≤ v18 then
      some (w19)
    else
      bd1 (wr w19 11 16 v18 (-4)) fun w22 =>
      bd1 (wr w22 16 16 v18 0) fun w23 =>
      bd1 (wr w23 14 16 v18 0) fun w24 =>
      LX9_initTail_343 fu (v18 + 1) w24
def fX9_initTail (w : Mm) : Option (Mm) :=
  bd1 (wr w 2 2 0 6) fun w1 =>
  bd1 (fX9_firstBeast w1 0 3 1 1 0) fun w2 =>
  bd1 (fX9_firstBeast w2 1 5 8 0 2) fun w3 =>
  bd1 (fX9_firstBeast w3 2 7 6 2 0) fun w4 =>
  bd1 (fX9_firstBeast w4 3 4 3 3 0) fun w5 =>
  bd1 (fX9_firstBeast w5 4 6 4 0 1) fun w6 =>
  bd1 (fX9_firstBeast w6 5 2 2 0 0) fun w7 =>
  bd1 (wr w7 7 2 0 40) fun w8 =>
  bd1 (wr w8 8 2 0 2) fun w9 =>
  bd1 (wr w9 9 8 0 0) fun w10 =>
  bd1 (wr w10 10 8 0 1) fun w11 =>
  bd1 (wr w11 9 8 1 8) fun w12 =>
  bd1 (wr w12 10 8 1 2) fun w13 =>
  bd1 (wr w13 12 2 0 1) fun w14 =>
  bd1 (wr w14 13 12 0 3) fun w15 =>
  bd1 (wr w15 13 12 1 4) fun w16 =>
  bd1 (wr w16 13 12 2 5) fun w17 =>
  bd1 (LX9_initTail_343 1000 0 w17) fun (w21 : Mm) =>
  bd1 (wr w21 11 16 0 1) fun w25 =>
  bd1 (wr w25 14 16 5 1) fun w26 =>
  bd1 (wr w26 14 16 0 2) fun w27 =>
  bd1 (wr w27 15 2 0 2) fun w28 =>
  bd1 (wr w28 16 16 0 1) fun w29 =>
  bd1 (wr w29 16 16 2 1) fun w30 =>
  bd1 (wr w30 16 16 1 3) fun w31 =>
  bd1 (wr w31 17 16 0 12) fun w32 =>
  bd1 (wr w32 17 16 1 30) fun w33 =>
  bd1 (wr w33 17 16 2 7) fun w34 =>
  bd1 (fX9_anew w34) fun w35 =>
  some w35
set_option maxHeartbeats 4000000 in
set_option maxRecDepth 100000 in
theorem tX9_initTail {l : Launch} {κ : Kp} {N : Nat} {ad : Nat → Nat} {w w' : Mm} {p : Program} {e : Env} {s : State} {m : MethodId} {args : Array Value} {below : List Frame} {meth : Method} {c : Code} {Q : State → Prop} {A : Nat → Prop} {H : Heap} {locs : List Loc} {ls : Array Slot} (hN : 26 ≤ N) (hf : fX9_initTail w = some w') (hC : Cx κ RX9 cX9_init 2 p s m args c) (hD : Apt ad N) (hA : ∀ k, k < N → A (ad k)) (hP : Ho κ (wM κ) N ad w H) (hS : va_S A s.heap H locs)
    (hret : ∀ (pc : Nat) (H : Heap) (locs : List Loc) (ls : Array Slot), decode cX9_init pc = .ok (.return_, 1) → Ho κ (wM κ) N ad w' H → va_S A s.heap H locs → W p l e (rmC 1 25 1106 25) s m args below meth c H locs 25 1106 Q (F0 m pc ls []))
    (hl : lv_has ls 2 [(0, .ref (ad 0))]) : W p l e (rmC 1 25 1106 25) s m args below meth c H locs 25 1106 Q (F0 m 203 ls []) := by
  obtain ⟨hx, hb, hml, hown, hts, hE⟩ := hC
  have hAA : ∀ z, Aof ad N z → A z := fun z ⟨k, h1, h2⟩ => by rw [h2]; exact hA k h1
  have hRf : 1 ≤ (rmC 1 25 1106 25).frames := Nat.le_refl _
  have hRl : 25 ≤ (rmC 1 25 1106 25).locals := Nat.le_refl _
  unfold fX9_initTail at hf
  refine lv_aload_n hx hb dX9_init_203 rfl (lv_at hl 0 rfl) ?_
  refine x_get hx hb hts hown hE hP fl_X9_13 (nm0 hN) gM_0_2 dX9_init_204 ?_
  refine lv_iconst (v := 0) hx hb dX9_init_207 nc_0 ?_
  refine lv_bipush (v := 6) hx hb dX9_init_208 nb_6 ?_
  obtain ⟨w1, hv, hf⟩ := bs1 hf
  refine x_iast hx hb hE hD hA hP hS (nm2 hN) aM_2 hv dX9_init_210 (fun H locs hP hS => ?_)
  refine lv_aload_n hx hb dX9_init_211 rfl (lv_at hl 0 rfl) ?_
  refine lv_iconst (v := 0) hx hb dX9_init_212 nc_0 ?_
  refine lv_iconst (v := 3) hx hb dX9_init_213 nc_3 ?_
  refine lv_iconst (v := 1) hx hb dX9_init_214 nc_1 ?_
  refine lv_iconst (v := 1) hx hb dX9_init_215 nc_1 ?_
  refine lv_iconst (v := 0) hx hb dX9_init_216 nc_0 ?_
  obtain ⟨w2, hv, hf⟩ := bs1 hf
  refine x_cVv (As := [.int 0, .int 3, .int 1, .int 1, .int 0]) (rest := []) hx hb hml hts hown hE hP hS hAA (kX9_firstBeast hN hD hv) cl_X9_86 (nm0 hN) oM_0 vc_9 (Nat.le_trans (by decide) hRf) (Nat.le_trans (by decide) hRl) (Nat.le_of_ble_eq_true rfl) (Nat.le_of_ble_eq_true rfl) rfl hl.1 rfl (Nat.le_of_ble_eq_true rfl) dX9_init_217 (fun H locs hP hS => ?_)
  refine lv_aload_n hx hb dX9_init_220 rfl (lv_at hl 0 rfl) ?_
  refine lv_iconst (v := 1) hx hb dX9_init_221 nc_1 ?_
  refine lv_iconst (v := 5) hx hb dX9_init_222 nc_5 ?_
  refine lv_bipush (v := 8) hx hb dX9_init_223 nb_8 ?_
  refine lv_iconst (v := 0) hx hb dX9_init_225 nc_0 ?_
  refine lv_iconst (v := 2) hx hb dX9_init_226 nc_2 ?_
  obtain ⟨w3, hv, hf⟩ := bs1 hf
  refine x_cVv (As := [.int 1, .int 5, .int 8, .int 0, .int 2]) (rest := []) hx hb hml hts hown hE hP hS hAA (kX9_firstBeast hN hD hv) cl_X9_86 (nm0 hN) oM_0 vc_9 (Nat.le_trans (by decide) hRf) (Nat.le_trans (by decide) hRl) (Nat.le_of_ble_eq_true rfl) (Nat.le_of_ble_eq_true rfl) rfl hl.1 rfl (Nat.le_of_ble_eq_true rfl) dX9_init_227 (fun H locs hP hS => ?_)
  refine lv_aload_n hx hb dX9_init_230 rfl (lv_at hl 0 rfl) ?_
  refine lv_iconst (v := 2) hx hb dX9_init_231 nc_2 ?_
  refine lv_bipush (v := 7) hx hb dX9_init_232 nb_7 ?_
  refine lv_bipush (v := 6) hx hb dX9_init_234 nb_6 ?_
  refine lv_iconst (v := 2) hx hb dX9_init_236 nc_2 ?_
  refine lv_iconst (v := 0) hx hb dX9_init_237 nc_0 ?_
  obtain ⟨w4, hv, hf⟩ := bs1 hf
  refine x_cVv (As := [.int 2, .int 7, .int 6, .int 2, .int 0]) (rest := []) hx hb hml hts hown hE hP hS hAA (kX9_firstBeast hN hD hv) cl_X9_86 (nm0 hN) oM_0 vc_9 (Nat.le_trans (by decide) hRf) (Nat.le_trans (by decide) hRl) (Nat.le_of_ble_eq_true rfl) (Nat.le_of_ble_eq_true rfl) rfl hl.1 rfl (Nat.le_of_ble_eq_true rfl) dX9_init_238 (fun H locs hP hS => ?_)
  refine lv_aload_n hx hb dX9_init_241 rfl (lv_at hl 0 rfl) ?_
  refine lv_iconst (v := 3) hx hb dX9_init_242 nc_3 ?_
  refine lv_iconst (v := 4) hx hb dX9_init_243 nc_4 ?_
  refine lv_iconst (v := 3) hx hb dX9_init_244 nc_3 ?_
  refine lv_iconst (v := 3) hx hb dX9_init_245 nc_3 ?_
  refine lv_iconst (v := 0) hx hb dX9_init_246 nc_0 ?_
  obtain ⟨w5, hv, hf⟩ := bs1 hf
  refine x_cVv (As := [.int 3, .int 4, .int 3, .int 3, .int 0]) (rest := []) hx hb hml hts hown hE hP hS hAA (kX9_firstBeast hN hD hv) cl_X9_86 (nm0 hN) oM_0 vc_9 (Nat.le_trans (by decide) hRf) (Nat.le_trans (by decide) hRl) (Nat.le_of_ble_eq_true rfl) (Nat.le_of_ble_eq_true rfl) rfl hl.1 rfl (Nat.le_of_ble_eq_true rfl) dX9_init_247 (fun H locs hP hS => ?_)
  refine lv_aload_n hx hb dX9_init_250 rfl (lv_at hl 0 rfl) ?_
  refine lv_iconst (v := 4) hx hb dX9_init_251 nc_4 ?_
  refine lv_bipush (v := 6) hx hb dX9_init_252 nb_6 ?_
  refine lv_iconst (v := 4) hx hb dX9_init_254 nc_4 ?_
  refine lv_iconst (v := 0) hx hb dX9_init_255 nc_0 ?_
  refine lv_iconst (v := 1) hx hb dX9_init_256 nc_1 ?_
  obtain ⟨w6, hv, hf⟩ := bs1 hf
  refine x_cVv (As := [.int 4, .int 6, .int 4, .int 0, .int 1]) (rest := []) hx hb hml hts hown hE hP hS hAA (kX9_firstBeast hN hD hv) cl_X9_86 (nm0 hN) oM_0 vc_9 (Nat.le_trans (by decide) hRf) (Nat.le_trans (by decide) hRl) (Nat.le_of_ble_eq_true rfl) (Nat.le_of_ble_eq_true rfl) rfl hl.1 rfl (Nat.le_of_ble_eq_true rfl) dX9_init_257 (fun H locs hP hS => ?_)
  refine lv_aload_n hx hb dX9_init_260 rfl (lv_at hl 0 rfl) ?_
  refine lv_iconst (v := 5) hx hb dX9_init_261 nc_5 ?_
  refine lv_iconst (v := 2) hx hb dX9_init_262 nc_2 ?_
  refine lv_iconst (v := 2) hx hb dX9_init_263 nc_2 ?_
  refine lv_iconst (v := 0) hx hb dX9_init_264 nc_0 ?_
  refine lv_iconst (v := 0) hx hb dX9_init_265 nc_0 ?_
  obtain ⟨w7, hv, hf⟩ := bs1 hf
  refine x_cVv (As := [.int 5, .int 2, .int 2, .int 0, .int 0]) (rest := []) hx hb hml hts hown hE hP hS hAA (kX9_firstBeast hN hD hv) cl_X9_86 (nm0 hN) oM_0 vc_9 (Nat.le_trans (by decide) hRf) (Nat.le_trans (by decide) hRl) (Nat.le_of_ble_eq_true rfl) (Nat.le_of_ble_eq_true rfl) rfl hl.1 rfl (Nat.le_of_ble_eq_true rfl) dX9_init_266 (fun H locs hP hS => ?_)
  refine lv_aload_n hx hb dX9_init_269 rfl (lv_at hl 0 rfl) ?_
  refine x_get hx hb hts hown hE hP fl_X9_29 (nm0 hN) gM_0_7 dX9_init_270 ?_
  refine lv_iconst (v := 0) hx hb dX9_init_273 nc_0 ?_
  refine lv_bipush (v := 40) hx hb dX9_init_274 nb_40 ?_
  obtain ⟨w8, hv, hf⟩ := bs1 hf
  refine x_iast hx hb hE hD hA hP hS (nm7 hN) aM_7 hv dX9_init_276 (fun H locs hP hS => ?_)
  refine lv_aload_n hx hb dX9_init_277 rfl (lv_at hl 0 rfl) ?_
  refine x_get hx hb hts hown hE hP fl_X9_32 (nm0 hN) gM_0_8 dX9_init_278 ?_
  refine lv_iconst (v := 0) hx hb dX9_init_281 nc_0 ?_
  refine lv_iconst (v := 2) hx hb dX9_init_282 nc_2 ?_
  obtain ⟨w9, hv, hf⟩ := bs1 hf
  refine x_iast hx hb hE hD hA hP hS (nm8 hN) aM_8 hv dX9_init_283 (fun H locs hP hS => ?_)
  refine lv_aload_n hx hb dX9_init_284 rfl (lv_at hl 0 rfl) ?_
  refine x_get hx hb hts hown hE hP fl_X9_35 (nm0 hN) gM_0_9 dX9_init_285 ?_
  refine lv_iconst (v := 0) hx hb dX9_init_288 nc_0 ?_
  refine lv_iconst (v := 0) hx hb dX9_init_289 nc_0 ?_
  obtain ⟨w10, hv, hf⟩ := bs1 hf
  refine x_iast hx hb hE hD hA hP hS (nm9 hN) aM_9 hv dX9_init_290 (fun H locs hP hS => ?_)
  refine lv_aload_n hx hb dX9_init_291 rfl (lv_at hl 0 rfl) ?_
  refine x_get hx hb hts hown hE hP fl_X9_38 (nm0 hN) gM_0_10 dX9_init_292 ?_
  refine lv_iconst (v := 0) hx hb dX9_init_295 nc_0 ?_
  refine lv_iconst (v := 1) hx hb dX9_init_296 nc_1 ?_
  obtain ⟨w11, hv, hf⟩ := bs1 hf
  refine x_iast hx hb hE hD hA hP hS (nm10 hN) aM_10 hv dX9_init_297 (fun H locs hP hS => ?_)
  refine lv_aload_n hx hb dX9_init_298 rfl (lv_at hl 0 rfl) ?_
  refine x_get hx hb hts hown hE hP fl_X9_35 (nm0 hN) gM_0_9 dX9_init_299 ?_
  refine lv_iconst (v := 1) hx hb dX9_init_302 nc_1 ?_
  refine lv_bipush (v := 8) hx hb dX9_init_303 nb_8 ?_
  obtain ⟨w12, hv, hf⟩ := bs1 hf
  refine x_iast hx hb hE hD hA hP hS (nm9 hN) aM_9 hv dX9_init_305 (fun H locs hP hS => ?_)
  refine lv_aload_n hx hb dX9_init_306 rfl (lv_at hl 0 rfl) ?_
  refine x_get hx hb hts hown hE hP fl_X9_38 (nm0 hN) gM_0_10 dX9_init_307 ?_
  refine lv_iconst (v := 1) hx hb dX9_init_310 nc_1 ?_
  refine lv_iconst (v := 2) hx hb dX9_init_311 nc_2 ?_
  obtain ⟨w13, hv, hf⟩ := bs1 hf
  refine x_iast hx hb hE hD hA hP hS (nm10 hN) aM_10 hv dX9_init_312 (fun H locs hP hS => ?_)
  refine lv_aload_n hx hb dX9_init_313 rfl (lv_at hl 0 rfl) ?_
  refine x_get hx hb hts hown hE hP fl_X9_44 (nm0 hN) gM_0_12 dX9_init_314 ?_
  refine lv_iconst (v := 0) hx hb dX9_init_317 nc_0 ?_
  refine lv_iconst (v := 1) hx hb dX9_init_318 nc_1 ?_
  obtain ⟨w14, hv, hf⟩ := bs1 hf
  refine x_iast hx hb hE hD hA hP hS (nm12 hN) aM_12 hv dX9_init_319 (fun H locs hP hS => ?_)
  refine lv_aload_n hx hb dX9_init_320 rfl (lv_at hl 0 rfl) ?_
  refine x_get hx hb hts hown hE hP fl_X9_47 (nm0 hN) gM_0_13 dX9_init_321 ?_
  refine lv_iconst (v := 0) hx hb dX9_init_324 nc_0 ?_
  refine lv_iconst (v := 3) hx hb dX9_init_325 nc_3 ?_
  obtain ⟨w15, hv, hf⟩ := bs1 hf
  refine x_iast hx hb hE hD hA hP hS (nm13 hN) aM_13 hv dX9_init_326 (fun H locs hP hS => ?_)
  refine lv_aload_n hx hb dX9_init_327 rfl (lv_at hl 0 rfl) ?_
  refine x_get hx hb hts hown hE hP fl_X9_47 (nm0 hN) gM_0_13 dX9_init_328 ?_
  refine lv_iconst (v := 1) hx hb dX9_init_331 nc_1 ?_
  refine lv_iconst (v := 4) hx hb dX9_init_332 nc_4 ?_
  obtain ⟨w16, hv, hf⟩ := bs1 hf
  refine x_iast hx hb hE hD hA hP hS (nm13 hN) aM_13 hv dX9_init_333 (fun H locs hP hS => ?_)
  refine lv_aload_n hx hb dX9_init_334 rfl (lv_at hl 0 rfl) ?_
  refine x_get hx hb hts hown hE hP fl_X9_47 (nm0 hN) gM_0_13 dX9_init_335 ?_
  refine lv_iconst (v := 2) hx hb dX9_init_338 nc_2 ?_
  refine lv_iconst (v := 5) hx hb dX9_init_339 nc_5 ?_
  obtain ⟨w17, hv, hf⟩ := bs1 hf
  refine x_iast hx hb hE hD hA hP hS (nm13 hN) aM_13 hv dX9_init_340 (fun H locs hP hS => ?_)
  refine lv_iconst (v := 0) hx hb dX9_init_341 nc_0 ?_
  refine lv_istore_n (lv' := [(1, .int 0), (0, .ref (ad 0))]) hx hb dX9_init_342 rfl hl (by decide) rfl (fun ls hl => ?_)
  obtain ⟨w21, hq20, hf⟩ := bs1 hf
  have hJ20 : ∀ (H : Heap) (locs : List Loc) (ls : Array Slot), Ho κ (wM κ) N ad w21 H → va_S A s.heap H locs → lv_has ls 2 [(0, .ref (ad 0))] → W p l e (rmC 1 25 1106 25) s m args below meth c H locs 25 1106 Q (F0 m 377 ls []) := by
    intro H locs ls hP hS hl
    refine lv_aload_n hx hb dX9_init_377 rfl (lv_at hl 0 rfl) ?_
    refine x_get hx hb hts hown hE hP fl_X9_41 (nm0 hN) gM_0_11 dX9_init_378 ?_
    refine lv_iconst (v := 0) hx hb dX9_init_381 nc_0 ?_
    refine lv_iconst (v := 1) hx hb dX9_init_382 nc_1 ?_
    obtain ⟨w25, hv, hf⟩ := bs1 hf
    refine x_iast hx hb hE hD hA hP hS (nm11 hN) aM_11 hv dX9_init_383 (fun H locs hP hS => ?_)
    refine lv_aload_n hx hb dX9_init_384 rfl (lv_at hl 0 rfl) ?_
    refine x_get hx hb hts hown hE hP fl_X9_50 (nm0 hN) gM_0_14 dX9_init_385 ?_
    refine lv_iconst (v := 5) hx hb dX9_init_388 nc_5 ?_
    refine lv_iconst (v := 1) hx hb dX9_init_389 nc_1 ?_
    obtain ⟨w26, hv, hf⟩ := bs1 hf
    refine x_iast hx hb hE hD hA hP hS (nm14 hN) aM_14 hv dX9_init_390 (fun H locs hP hS => ?_)
    refine lv_aload_n hx hb dX9_init_391 rfl (lv_at hl 0 rfl) ?_
    refine x_get hx hb hts hown hE hP fl_X9_50 (nm0 hN) gM_0_14 dX9_init_392 ?_
    refine lv_iconst (v := 0) hx hb dX9_init_395 nc_0 ?_
    refine lv_iconst (v := 2) hx hb dX9_init_396 nc_2 ?_
    obtain ⟨w27, hv, hf⟩ := bs1 hf
    refine x_iast hx hb hE hD hA hP hS (nm14 hN) aM_14 hv dX9_init_397 (fun H locs hP hS => ?_)
    refine lv_aload_n hx hb dX9_init_398 rfl (lv_at hl 0 rfl) ?_
    refine x_get hx hb hts hown hE hP fl_X9_53 (nm0 hN) gM_0_15 dX9_init_399 ?_
    refine lv_iconst (v := 0) hx hb dX9_init_402 nc_0 ?_
    refine lv_iconst (v := 2) hx hb dX9_init_403 nc_2 ?_
    obtain ⟨w28, hv, hf⟩ := bs1 hf
    refine x_iast hx hb hE hD hA hP hS (nm15 hN) aM_15 hv dX9_init_404 (fun H locs hP hS => ?_)
    refine lv_aload_n hx hb dX9_init_405 rfl (lv_at hl 0 rfl) ?_
    refine x_get hx hb hts hown hE hP fl_X9_56 (nm0 hN) gM_0_16 dX9_init_406 ?_
    refine lv_iconst (v := 0) hx hb dX9_init_409 nc_0 ?_
    refine lv_iconst (v := 1) hx hb dX9_init_410 nc_1 ?_
    obtain ⟨w29, hv, hf⟩ := bs1 hf
    refine x_iast hx hb hE hD hA hP hS (nm16 hN) aM_16 hv dX9_init_411 (fun H locs hP hS => ?_)
    refine lv_aload_n hx hb dX9_init_412 rfl (lv_at hl 0 rfl) ?_
    refine x_get hx hb hts hown hE hP fl_X9_56 (nm0 hN) gM_0_16 dX9_init_413 ?_
    refine lv_iconst (v := 2) hx hb dX9_init_416 nc_2 ?_
    refine lv_iconst (v := 1) hx hb dX9_init_417 nc_1 ?_
    obtain ⟨w30, hv, hf⟩ := bs1 hf
    refine x_iast hx hb hE hD hA hP hS (nm16 hN) aM_16 hv dX9_init_418 (fun H locs hP hS => ?_)
    refine lv_aload_n hx hb dX9_init_419 rfl (lv_at hl 0 rfl) ?_
    refine x_get hx hb hts hown hE hP fl_X9_56 (nm0 hN) gM_0_16 dX9_init_420 ?_
    refine lv_iconst (v := 1) hx hb dX9_init_423 nc_1 ?_
    refine lv_iconst (v := 3) hx hb dX9_init_424 nc_3 ?_
    obtain ⟨w31, hv, hf⟩ := bs1 hf
    refine x_iast hx hb hE hD hA hP hS (nm16 hN) aM_16 hv dX9_init_425 (fun H locs hP hS => ?_)
    refine lv_aload_n hx hb dX9_init_426 rfl (lv_at hl 0 rfl) ?_
    refine x_get hx hb hts hown hE hP fl_X9_59 (nm0 hN) gM_0_17 dX9_init_427 ?_
    refine lv_iconst (v := 0) hx hb dX9_init_430 nc_0 ?_
    refine lv_bipush (v := 12) hx hb dX9_init_431 nb_12 ?_
    obtain ⟨w32, hv, hf⟩ := bs1 hf
    refine x_iast hx hb hE hD hA hP hS (nm17 hN) aM_17 hv dX9_init_433 (fun H locs hP hS => ?_)
    refine lv_aload_n hx hb dX9_init_434 rfl (lv_at hl 0 rfl) ?_
    refine x_get hx hb hts hown hE hP fl_X9_59 (nm0 hN) gM_0_17 dX9_init_435 ?_
    refine lv_iconst (v := 1) hx hb dX9_init_438 nc_1 ?_
    refine lv_bipush (v := 30) hx hb dX9_init_439 nb_30 ?_
    obtain ⟨w33, hv, hf⟩ := bs1 hf
    refine x_iast hx hb hE hD hA hP hS (nm17 hN) aM_17 hv dX9_init_441 (fun H locs hP hS => ?_)
    refine lv_aload_n hx hb dX9_init_442 rfl (lv_at hl 0 rfl) ?_
    refine x_get hx hb hts hown hE hP fl_X9_59 (nm0 hN) gM_0_17 dX9_init_443 ?_
    refine lv_iconst (v := 2) hx hb dX9_init_446 nc_2 ?_
    refine lv_bipush (v := 7) hx hb dX9_init_447 nb_7 ?_
    obtain ⟨w34, hv, hf⟩ := bs1 hf
    refine x_iast hx hb hE hD hA hP hS (nm17 hN) aM_17 hv dX9_init_449 (fun H locs hP hS => ?_)
    refine lv_aload_n hx hb dX9_init_450 rfl (lv_at hl 0 rfl) ?_
    obtain ⟨w35, hv, hf⟩ := bs1 hf
    refine x_cVv (As := []) (rest := []) hx hb hml hts hown hE hP hS hAA (kX9_anew hN hD hv) cl_X9_90 (nm0 hN) oM_0 vc_9 (Nat.le_trans (by decide) hRf) (Nat.le_trans (by decide) hRl) (Nat.le_of_ble_eq_true rfl) (Nat.le_of_ble_eq_true rfl) rfl hl.1 rfl (Nat.le_of_ble_eq_true rfl) dX9_init_451 (fun H locs hP hS => ?_)
    cases hf
    exact hret _ _ _ _ dX9_init_454 hP hS
  clear hf
  have hf := hq20
  clear hq20
  have hL20 : ∀ (fu : Nat) (v18 : Int32) (w19 : Mm) (H : Heap) (locs : List Loc) (ls : Array Slot), LX9_initTail_343 fu v18 w19 = some (w21) → Ho κ (wM κ) N ad w19 H → va_S A s.heap H locs → lv_has ls 2 [(0, .ref (ad 0)), (1, .int v18)] → W p l e (rmC 1 25 1106 25) s m args below meth c H locs 25 1106 Q (F0 m 343 ls []) := by
    intro fu
    induction fu with
    | zero =>
      intro v18 w19 H locs ls hf
      rw [LX9_initTail_343] at hf
      cases hf
    | succ fu ih =>
      intro v18 w19 H locs ls hf hP hS hl
      rw [LX9_initTail_343] at hf
      refine lv_iload_n hx hb dX9_init_343 rfl (lv_at hl 1 rfl) ?_
      refine lv_bipush (v := 8) hx hb dX9_init_344 nb_8 ?_
      refine lv_icmp_ge (tgt := 377) hx hb dX9_init_346 (by decide) (fun hc => ?_) (fun hc => ?_)
      · have hf := ip hc hf
        cases hf
        exact hJ20 _ _ _ hP hS (lv_sub hl [0] rfl)
      · have hf := iq hc hf
        refine lv_aload_n hx hb dX9_init_349 rfl (lv_at hl 0 rfl) ?_
        refine x_get hx hb hts hown hE hP fl_X9_41 (nm0 hN) gM_0_11 dX9_init_350 ?_
        refine lv_iload_n hx hb dX9_init_353 rfl (lv_at hl 1 rfl) ?_
        refine lv_bipush (v := (-4)) hx hb dX9_init_354 nb_m4 ?_
        obtain ⟨w22, hv, hf⟩ := bs1 hf
        refine x_iast hx hb hE hD hA hP hS (nm11 hN) aM_11 hv dX9_init_356 (fun H locs hP hS => ?_)
        refine lv_aload_n hx hb dX9_init_357 rfl (lv_at hl 0 rfl) ?_
        refine x_get hx hb hts hown hE hP fl_X9_56 (nm0 hN) gM_0_16 dX9_init_358 ?_
        refine lv_iload_n hx hb dX9_init_361 rfl (lv_at hl 1 rfl) ?_
        refine lv_iconst (v := 0) hx hb dX9_init_362 nc_0 ?_
        obtain ⟨w23, hv, hf⟩ := bs1 hf
        refine x_iast hx hb hE hD hA hP hS (nm16 hN) aM_16 hv dX9_init_363 (fun H locs hP hS => ?_)
        refine lv_aload_n hx hb dX9_init_364 rfl (lv_at hl 0 rfl) ?_
        refine x_get hx hb hts hown hE hP fl_X9_50 (nm0 hN) gM_0_14 dX9_init_365 ?_
        refine lv_iload_n hx hb dX9_init_368 rfl (lv_at hl 1 rfl) ?_
        refine lv_iconst (v := 0) hx hb dX9_init_369 nc_0 ?_
        obtain ⟨w24, hv, hf⟩ := bs1 hf
        refine x_iast hx hb hE hD hA hP hS (nm14 hN) aM_14 hv dX9_init_370 (fun H locs hP hS => ?_)
        refine lv_iinc (v := (v18 + 1)) (lv' := [(1, .int (v18 + 1)), (0, .ref (ad 0))]) hx hb dX9_init_371 hl (k := 1) rfl (ni_1 _) (by decide) rfl (fun ls hl => ?_)
        refine lv_goto (tgt := 343) hx hb dX9_init_374 (by decide) ?_
        exact ih _ _ _ _ _ hf hP hS (lv_sub hl [1, 0] rfl)
  exact hL20 _ _ _ _ _ _ hf hP hS (lv_sub hl [1, 0] rfl)
