def lawc_0 (xs : Nat → Int32) (Ls : Nat) (x5 : Int32) (w : MW) : Option MW :=
  hz_lds xs Ls (x5 + 1) (fun v1 => hz_lds xs Ls (x5 + 2) (fun v2 => hz_lds xs Ls (x5 + 3) (fun v3 => hz_lds xs Ls (x5 + 4) (fun v4 => hz_lds xs Ls (x5 + 5) (fun v5 => hz_b (f_L_append 0 v1 v2 v3 v4 v5 356 w) (fun v6 w7 => hz_lds xs Ls (x5 + 1) (fun v8 => hz_lds xs Ls (x5 + 2) (fun v9 => hz_lds xs Ls (x5 + 3) (fun v10 => hz_lds xs Ls (x5 + 4) (fun v11 => hz_lds xs Ls (x5 + 5) (fun v12 => hz_b (f_X10_append 336 v8 v9 v10 v11 v12 w7) (fun v14 w13 => hz_b (f_X10_thrown 336 w13) (fun v16 w15 => (if v16 = v6 then (if v6 = 0 then hz_let w15.2.2.1 (fun v17 => (if (lg_cmp v17 (Int32.toInt64 v14)) = 0 then some w15 else none)) else some w15) else none))))))))))))))
set_option maxHeartbeats 4000000 in
set_option maxRecDepth 100000 in
theorem lct_0 {p : Program} {l : Launch} (hl : l.stackTraces = false) {e : Env} {s : State} {m : MethodId} {args : Array Value} {below : List Frame} {meth : Method} {c : Code} {ret : Option FieldType} {B : Bt} {tb : List ExceptionTableEntry} {ini : Bool} {ρ : Type} {Fi : ρ → State → Prop} {Ko : MW → Option ρ} {b Ls k sl : Nat} {xs : Nat → Int32} (hX : va_X b Ls xs s s.heap) (hbl : b < s.heap.size) (hbA : ¬ hz_A B b) (hk : k + 8 ≤ 603072 ∧ sl + 48 ≤ 7059562) {x5 : Int32} {w : MW} (hj : ∀ w', hz_J p l e (hz_rm 21 603072 7059562) s m args below meth c cL_law 9 RL ret B tb ini false Fi Ko 2647 [(0, .ref b), (1, .ref (B.1 + 0)), (2, .ref (B.1 + 336)), (3, .ref (B.1 + 356)), (4, .ref (B.1 + 357)), (5, .int x5)] [] (k + 8) (sl + 48) 358 w' (some w')) : hz_J p l e (hz_rm 21 603072 7059562) s m args below meth c cL_law 9 RL ret B tb ini false Fi Ko 220 [(0, .ref b), (1, .ref (B.1 + 0)), (2, .ref (B.1 + 336)), (3, .ref (B.1 + 356)), (4, .ref (B.1 + 357)), (5, .int x5)] [] k sl 358 w (lawc_0 xs Ls x5 w) := by
  have g1 : hz_g 358 0 10 = true := by decide +kernel
  have g2 : hz_g 358 336 11 = true := by decide +kernel
  have g3 : hz_g 358 356 23 = true := by decide +kernel
  have g4 : hz_g 358 357 24 = true := by decide +kernel
  obtain ⟨hk1, hk2⟩ := hk
  unfold lawc_0
  refine hz_aload_n (pc' := 221) (j := 1) dL_law_220 rfl rfl rfl ?_
  refine hz_aload_n (pc' := 222) (j := 0) dL_law_221 rfl rfl rfl ?_
  refine hz_iload (pc' := 224) (j := 5) dL_law_222 rfl rfl ?_
  refine hz_iconst (pc' := 225) (v := 1) dL_law_224 rfl (by decide) ?_
  refine hz_iadd (pc' := 226) dL_law_225 rfl ?_
  refine hz_sld (pc' := 227) hX hbl hbA dL_law_226 rfl (fun v1 => ?_)
  refine hz_aload_n (pc' := 228) (j := 0) dL_law_227 rfl rfl rfl ?_
  refine hz_iload (pc' := 230) (j := 5) dL_law_228 rfl rfl ?_
  refine hz_iconst (pc' := 231) (v := 2) dL_law_230 rfl (by decide) ?_
  refine hz_iadd (pc' := 232) dL_law_231 rfl ?_
  refine hz_sld (pc' := 233) hX hbl hbA dL_law_232 rfl (fun v2 => ?_)
  refine hz_aload_n (pc' := 234) (j := 0) dL_law_233 rfl rfl rfl ?_
  refine hz_iload (pc' := 236) (j := 5) dL_law_234 rfl rfl ?_
  refine hz_iconst (pc' := 237) (v := 3) dL_law_236 rfl (by decide) ?_
  refine hz_iadd (pc' := 238) dL_law_237 rfl ?_
  refine hz_sld (pc' := 239) hX hbl hbA dL_law_238 rfl (fun v3 => ?_)
  refine hz_aload_n (pc' := 240) (j := 0) dL_law_239 rfl rfl rfl ?_
  refine hz_iload (pc' := 242) (j := 5) dL_law_240 rfl rfl ?_
  refine hz_iconst (pc' := 243) (v := 4) dL_law_242 rfl (by decide) ?_
  refine hz_iadd (pc' := 244) dL_law_243 rfl ?_
  refine hz_sld (pc' := 245) hX hbl hbA dL_law_244 rfl (fun v4 => ?_)
  refine hz_aload_n (pc' := 246) (j := 0) dL_law_245 rfl rfl rfl ?_
  refine hz_iload (pc' := 248) (j := 5) dL_law_246 rfl rfl ?_
  refine hz_iconst (pc' := 249) (v := 5) dL_law_248 rfl (by decide) ?_
  refine hz_iadd (pc' := 250) dL_law_249 rfl ?_
  refine hz_sld (pc' := 251) hX hbl hbA dL_law_250 rfl (fun v5 => ?_)
  refine hz_aload_n (pc' := 252) (j := 3) dL_law_251 rfl rfl rfl ?_
  refine hz_cW (pc' := 255) (na := 7) (hh := [(0, 16, 19, 13)]) (av := [.ref (B.1 + 0), .int v1, .int v2, .int v3, .int v4, .int v5, .ref (B.1 + 356)]) (rest := []) hq_562 hq_563 hq_0 hq_564 ⟨by decide, by decide, by decide +kernel⟩ (fun x w' h => ct_L_append hl h) rfl rfl (Nat.le_of_ble_eq_true rfl) (by decide) ⟨by omega, by omega⟩ rfl dL_law_252 rfl (fun v6 w7 => ?_)
  refine hz_istore (pc' := 257) (L' := [(6, .int v6), (0, .ref b), (1, .ref (B.1 + 0)), (2, .ref (B.1 + 336)), (3, .ref (B.1 + 356)), (4, .ref (B.1 + 357)), (5, .int x5)]) dL_law_255 rfl (by decide) rfl ?_
  refine hz_aload_n (pc' := 258) (j := 3) dL_law_257 rfl rfl rfl ?_
  refine hz_aload_n (pc' := 259) (j := 1) dL_law_258 rfl rfl rfl ?_
  refine hz_iload (pc' := 261) (j := 6) dL_law_259 rfl rfl ?_
  refine hz_iconst (pc' := 262) (v := 1) dL_law_261 rfl (by decide) ?_
  refine hz_iadd (pc' := 263) dL_law_262 rfl ?_
  refine hz_sld (pc' := 264) hX hbl hbA dL_law_263 rfl (fun v8 => ?_)
  refine hz_aload_n (pc' := 265) (j := 1) dL_law_264 rfl rfl rfl ?_
  refine hz_iload (pc' := 267) (j := 6) dL_law_265 rfl rfl ?_
  refine hz_iconst (pc' := 268) (v := 2) dL_law_267 rfl (by decide) ?_
  refine hz_iadd (pc' := 269) dL_law_268 rfl ?_
  refine hz_sld (pc' := 270) hX hbl hbA dL_law_269 rfl (fun v9 => ?_)
  refine hz_aload_n (pc' := 271) (j := 1) dL_law_270 rfl rfl rfl ?_
  refine hz_iload (pc' := 273) (j := 6) dL_law_271 rfl rfl ?_
  refine hz_iconst (pc' := 274) (v := 3) dL_law_273 rfl (by decide) ?_
  refine hz_iadd (pc' := 275) dL_law_274 rfl ?_
  refine hz_sld (pc' := 276) hX hbl hbA dL_law_275 rfl (fun v10 => ?_)
  refine hz_aload_n (pc' := 277) (j := 1) dL_law_276 rfl rfl rfl ?_
  refine hz_iload (pc' := 279) (j := 6) dL_law_277 rfl rfl ?_
  refine hz_iconst (pc' := 280) (v := 4) dL_law_279 rfl (by decide) ?_
  refine hz_iadd (pc' := 281) dL_law_280 rfl ?_
  refine hz_sld (pc' := 282) hX hbl hbA dL_law_281 rfl (fun v11 => ?_)
  refine hz_aload_n (pc' := 283) (j := 1) dL_law_282 rfl rfl rfl ?_
  refine hz_iload (pc' := 285) (j := 6) dL_law_283 rfl rfl ?_
  refine hz_iconst (pc' := 286) (v := 5) dL_law_285 rfl (by decide) ?_
  refine hz_iadd (pc' := 287) dL_law_286 rfl ?_
  refine hz_sld (pc' := 288) hX hbl hbA dL_law_287 rfl (fun v12 => ?_)
  refine hz_cVi (pc' := 291) (av := [.int v8, .int v9, .int v10, .int v11, .int v12]) (rest := []) vl_L_149 (fun x w' h => ct_X10_append hl h) g2 rfl rfl (Nat.le_of_ble_eq_true rfl) (by decide) ⟨by omega, by omega⟩ rfl dL_law_288 rfl (fun v14 w13 => ?_)
  refine hz_istore (pc' := 293) (L' := [(7, .int v14), (6, .int v6), (0, .ref b), (1, .ref (B.1 + 0)), (2, .ref (B.1 + 336)), (3, .ref (B.1 + 356)), (4, .ref (B.1 + 357)), (5, .int x5)]) dL_law_291 rfl (by decide) rfl ?_
  refine hz_aload_n (pc' := 294) (j := 4) dL_law_293 rfl rfl rfl ?_
  refine hz_cVi (pc' := 297) (av := []) (rest := []) vl_L_150 (fun x w' h => ct_X10_thrown hl h) g2 rfl rfl (Nat.le_of_ble_eq_true rfl) (by decide) ⟨by omega, by omega⟩ rfl dL_law_294 rfl (fun v16 w15 => ?_)
  refine hz_iload (pc' := 299) (j := 1) dL_law_297 rfl rfl ?_
  refine hz_icmpeq (pc' := 302) (tgt := 304) dL_law_299 (by decide) rfl ?_ ?_
  · refine hz_iload (pc' := 306) (j := 1) dL_law_304 rfl rfl ?_
    refine hz_ifne (pc' := 309) (tgt := 321) dL_law_306 (by decide) rfl ?_ ?_
    · refine hz_goto (tgt := 2647) dL_law_321 (by decide) ?_
      exact hz_wide (k' := k + 8) (sl' := sl + 48) (by omega) (by omega) rfl (hz_loc [2, 3, 4, 5, 6, 7] rfl (hj w15))
    · refine hz_aload_n (pc' := 310) (j := 5) dL_law_309 rfl rfl rfl ?_
      refine hz_iconst (pc' := 311) (v := 0) dL_law_310 rfl (by decide) ?_
      refine hz_lald (pc' := 312) g3 rfl dL_law_311 rfl (fun v17 => ?_)
      refine hz_iload (pc' := 314) (j := 0) dL_law_312 rfl rfl ?_
      refine hz_i2l (pc' := 315) dL_law_314 rfl ?_
      refine hz_lcmp (pc' := 316) dL_law_315 rfl ?_
      refine hz_ifeq (pc' := 319) (tgt := 321) dL_law_316 (by decide) rfl ?_ ?_
      · refine hz_goto (tgt := 2647) dL_law_321 (by decide) ?_
        exact hz_wide (k' := k + 8) (sl' := sl + 48) (by omega) (by omega) rfl (hz_loc [2, 3, 4, 5, 6, 7] rfl (hj w15))
      · refine hz_iconst (pc' := 320) (v := 0) dL_law_319 rfl (by decide) ?_
        exact hz_no rfl
  · refine hz_iconst (pc' := 303) (v := 0) dL_law_302 rfl (by decide) ?_
    exact hz_no rfl
def lawc_1 (xs : Nat → Int32) (Ls : Nat) (x5 : Int32) (w : MW) : Option MW :=
  hz_lds xs Ls (x5 + 1) (fun v1 => hz_b (f_L_truncate 0 v1 356 w) (fun v2 w3 => hz_lds xs Ls (x5 + 1) (fun v4 => hz_b (f_X10_truncate 336 v4 w3) (fun v6 w5 => hz_b (f_X10_thrown 336 w5) (fun v8 w7 => (if v8 = v2 then (if v2 = 0 then hz_let w7.2.2.1 (fun v9 => (if (lg_cmp v9 (Int32.toInt64 v6)) = 0 then some w7 else none)) else some w7) else none))))))
set_option maxHeartbeats 4000000 in
set_option maxRecDepth 100000 in
theorem lct_1 {p : Program} {l : Launch} (hl : l.stackTraces = false) {e : Env} {s : State} {m : MethodId} {args : Array Value} {below : List Frame} {meth : Method} {c : Code} {ret : Option FieldType} {B : Bt} {tb : List ExceptionTableEntry} {ini : Bool} {ρ : Type} {Fi : ρ → State → Prop} {Ko : MW → Option ρ} {b Ls k sl : Nat} {xs : Nat → Int32} (hX : va_X b Ls xs s s.heap) (hbl : b < s.heap.size) (hbA : ¬ hz_A B b) (hk : k + 8 ≤ 603072 ∧ sl + 48 ≤ 7059562) {x5 : Int32} {w : MW} (hj : ∀ w', hz_J p l e (hz_rm 21 603072 7059562) s m args below meth c cL_law 9 RL ret B tb ini false Fi Ko 2647 [(0, .ref b), (1, .ref (B.1 + 0)), (2, .ref (B.1 + 336)), (3, .ref (B.1 + 356)), (4, .ref (B.1 + 357)), (5, .int x5)] [] (k + 8) (sl + 48) 358 w' (some w')) : hz_J p l e (hz_rm 21 603072 7059562) s m args below meth c cL_law 9 RL ret B tb ini false Fi Ko 324 [(0, .ref b), (1, .ref (B.1 + 0)), (2, .ref (B.1 + 336)), (3, .ref (B.1 + 356)), (4, .ref (B.1 + 357)), (5, .int x5)] [] k sl 358 w (lawc_1 xs Ls x5 w) := by
  have g1 : hz_g 358 0 10 = true := by decide +kernel
  have g2 : hz_g 358 336 11 = true := by decide +kernel
  have g3 : hz_g 358 356 23 = true := by decide +kernel
  have g4 : hz_g 358 357 24 = true := by decide +kernel
  obtain ⟨hk1, hk2⟩ := hk
  unfold lawc_1
  refine hz_aload_n (pc' := 325) (j := 1) dL_law_324 rfl rfl rfl ?_
  refine hz_aload_n (pc' := 326) (j := 0) dL_law_325 rfl rfl rfl ?_
  refine hz_iload (pc' := 328) (j := 5) dL_law_326 rfl rfl ?_
  refine hz_iconst (pc' := 329) (v := 1) dL_law_328 rfl (by decide) ?_
  refine hz_iadd (pc' := 330) dL_law_329 rfl ?_
  refine hz_sld (pc' := 331) hX hbl hbA dL_law_330 rfl (fun v1 => ?_)
  refine hz_aload_n (pc' := 332) (j := 3) dL_law_331 rfl rfl rfl ?_
  refine hz_cW (pc' := 335) (na := 3) (hh := [(0, 9, 12, 19)]) (av := [.ref (B.1 + 0), .int v1, .ref (B.1 + 356)]) (rest := []) hq_642 hq_643 hq_0 hq_644 ⟨by decide, by decide, by decide +kernel⟩ (fun x w' h => ct_L_truncate hl h) rfl rfl (Nat.le_of_ble_eq_true rfl) (by decide) ⟨by omega, by omega⟩ rfl dL_law_332 rfl (fun v2 w3 => ?_)
  refine hz_istore (pc' := 337) (L' := [(6, .int v2), (0, .ref b), (1, .ref (B.1 + 0)), (2, .ref (B.1 + 336)), (3, .ref (B.1 + 356)), (4, .ref (B.1 + 357)), (5, .int x5)]) dL_law_335 rfl (by decide) rfl ?_
  refine hz_aload_n (pc' := 338) (j := 3) dL_law_337 rfl rfl rfl ?_
  refine hz_aload_n (pc' := 339) (j := 1) dL_law_338 rfl rfl rfl ?_
  refine hz_iload (pc' := 341) (j := 6) dL_law_339 rfl rfl ?_
  refine hz_iconst (pc' := 342) (v := 1) dL_law_341 rfl (by decide) ?_
  refine hz_iadd (pc' := 343) dL_law_342 rfl ?_
  refine hz_sld (pc' := 344) hX hbl hbA dL_law_343 rfl (fun v4 => ?_)
  refine hz_cVi (pc' := 347) (av := [.int v4]) (rest := []) vl_L_156 (fun x w' h => ct_X10_truncate hl h) g2 rfl rfl (Nat.le_of_ble_eq_true rfl) (by decide) ⟨by omega, by omega⟩ rfl dL_law_344 rfl (fun v6 w5 => ?_)
  refine hz_istore (pc' := 349) (L' := [(7, .int v6), (6, .int v2), (0, .ref b), (1, .ref (B.1 + 0)), (2, .ref (B.1 + 336)), (3, .ref (B.1 + 356)), (4, .ref (B.1 + 357)), (5, .int x5)]) dL_law_347 rfl (by decide) rfl ?_
  refine hz_aload_n (pc' := 350) (j := 4) dL_law_349 rfl rfl rfl ?_
  refine hz_cVi (pc' := 353) (av := []) (rest := []) vl_L_150 (fun x w' h => ct_X10_thrown hl h) g2 rfl rfl (Nat.le_of_ble_eq_true rfl) (by decide) ⟨by omega, by omega⟩ rfl dL_law_350 rfl (fun v8 w7 => ?_)
  refine hz_iload (pc' := 355) (j := 1) dL_law_353 rfl rfl ?_
  refine hz_icmpeq (pc' := 358) (tgt := 360) dL_law_355 (by decide) rfl ?_ ?_
  · refine hz_iload (pc' := 362) (j := 1) dL_law_360 rfl rfl ?_
    refine hz_ifne (pc' := 365) (tgt := 377) dL_law_362 (by decide) rfl ?_ ?_
    · refine hz_goto (tgt := 2647) dL_law_377 (by decide) ?_
      exact hz_wide (k' := k + 8) (sl' := sl + 48) (by omega) (by omega) rfl (hz_loc [2, 3, 4, 5, 6, 7] rfl (hj w7))
    · refine hz_aload_n (pc' := 366) (j := 5) dL_law_365 rfl rfl rfl ?_
      refine hz_iconst (pc' := 367) (v := 0) dL_law_366 rfl (by decide) ?_
      refine hz_lald (pc' := 368) g3 rfl dL_law_367 rfl (fun v9 => ?_)
      refine hz_iload (pc' := 370) (j := 0) dL_law_368 rfl rfl ?_
      refine hz_i2l (pc' := 371) dL_law_370 rfl ?_
      refine hz_lcmp (pc' := 372) dL_law_371 rfl ?_
      refine hz_ifeq (pc' := 375) (tgt := 377) dL_law_372 (by decide) rfl ?_ ?_
      · refine hz_goto (tgt := 2647) dL_law_377 (by decide) ?_
        exact hz_wide (k' := k + 8) (sl' := sl + 48) (by omega) (by omega) rfl (hz_loc [2, 3, 4, 5, 6, 7] rfl (hj w7))
      · refine hz_iconst (pc' := 376) (v := 0) dL_law_375 rfl (by decide) ?_
        exact hz_no rfl
  · refine hz_iconst (pc' := 359) (v := 0) dL_law_358 rfl (by decide) ?_
    exact hz_no rfl
def lawc_2 (xs : Nat → Int32) (Ls : Nat) (x5 : Int32) (w : MW) : Option MW :=
  hz_b (f_X9_load 0 w) (fun v2 w1 => hz_b (f_X10_load 336 w1) (fun v4 w3 => (if v2 = v4 then some w3 else none)))
set_option maxHeartbeats 4000000 in
set_option maxRecDepth 100000 in
theorem lct_2 {p : Program} {l : Launch} (hl : l.stackTraces = false) {e : Env} {s : State} {m : MethodId} {args : Array Value} {below : List Frame} {meth : Method} {c : Code} {ret : Option FieldType} {B : Bt} {tb : List ExceptionTableEntry} {ini : Bool} {ρ : Type} {Fi : ρ → State → Prop} {Ko : MW → Option ρ} {b Ls k sl : Nat} {xs : Nat → Int32} (hX : va_X b Ls xs s s.heap) (hbl : b < s.heap.size) (hbA : ¬ hz_A B b) (hk : k + 8 ≤ 603072 ∧ sl + 48 ≤ 7059562) {x5 : Int32} {w : MW} (hj : ∀ w', hz_J p l e (hz_rm 21 603072 7059562) s m args below meth c cL_law 9 RL ret B tb ini false Fi Ko 2647 [(0, .ref b), (1, .ref (B.1 + 0)), (2, .ref (B.1 + 336)), (3, .ref (B.1 + 356)), (4, .ref (B.1 + 357)), (5, .int x5)] [] (k + 8) (sl + 48) 358 w' (some w')) : hz_J p l e (hz_rm 21 603072 7059562) s m args below meth c cL_law 9 RL ret B tb ini false Fi Ko 380 [(0, .ref b), (1, .ref (B.1 + 0)), (2, .ref (B.1 + 336)), (3, .ref (B.1 + 356)), (4, .ref (B.1 + 357)), (5, .int x5)] [] k sl 358 w (lawc_2 xs Ls x5 w) := by
  have g1 : hz_g 358 0 10 = true := by decide +kernel
  have g2 : hz_g 358 336 11 = true := by decide +kernel
  have g3 : hz_g 358 356 23 = true := by decide +kernel
  have g4 : hz_g 358 357 24 = true := by decide +kernel
  obtain ⟨hk1, hk2⟩ := hk
  unfold lawc_2
  refine hz_aload_n (pc' := 381) (j := 1) dL_law_380 rfl rfl rfl ?_
  refine hz_cVi (pc' := 384) (av := []) (rest := []) vl_L_157 (fun x w' h => ct_X9_load hl h) g1 rfl rfl (Nat.le_of_ble_eq_true rfl) (by decide) ⟨by omega, by omega⟩ rfl dL_law_381 rfl (fun v2 w1 => ?_)
  refine hz_aload_n (pc' := 385) (j := 2) dL_law_384 rfl rfl rfl ?_
  refine hz_cVi (pc' := 388) (av := []) (rest := [.int v2]) vl_L_160 (fun x w' h => ct_X10_load hl h) g2 rfl rfl (Nat.le_of_ble_eq_true rfl) (by decide) ⟨by omega, by omega⟩ rfl dL_law_385 rfl (fun v4 w3 => ?_)
  refine hz_icmpeq (pc' := 391) (tgt := 2647) dL_law_388 (by decide) rfl ?_ ?_
  · exact hz_wide (k' := k + 8) (sl' := sl + 48) (by omega) (by omega) rfl (hz_loc [0, 1, 2, 3, 4, 5] rfl (hj w3))
  · refine hz_iconst (pc' := 392) (v := 0) dL_law_391 rfl (by decide) ?_
    exact hz_no rfl
def lawc_3 (xs : Nat → Int32) (Ls : Nat) (x5 : Int32) (w : MW) : Option MW :=
  hz_b (f_X9_errorPosition 0 w) (fun v2 w1 => hz_b (f_X10_errorPosition 336 w1) (fun v4 w3 => (if v2 = v4 then some w3 else none)))
set_option maxHeartbeats 4000000 in
set_option maxRecDepth 100000 in
theorem lct_3 {p : Program} {l : Launch} (hl : l.stackTraces = false) {e : Env} {s : State} {m : MethodId} {args : Array Value} {below : List Frame} {meth : Method} {c : Code} {ret : Option FieldType} {B : Bt} {tb : List ExceptionTableEntry} {ini : Bool} {ρ : Type} {Fi : ρ → State → Prop} {Ko : MW → Option ρ} {b Ls k sl : Nat} {xs : Nat → Int32} (hX : va_X b Ls xs s s.heap) (hbl : b < s.heap.size) (hbA : ¬ hz_A B b) (hk : k + 8 ≤ 603072 ∧ sl + 48 ≤ 7059562) {x5 : Int32} {w : MW} (hj : ∀ w', hz_J p l e (hz_rm 21 603072 7059562) s m args below meth c cL_law 9 RL ret B tb ini false Fi Ko 2647 [(0, .ref b), (1, .ref (B.1 + 0)), (2, .ref (B.1 + 336)), (3, .ref (B.1 + 356)), (4, .ref (B.1 + 357)), (5, .int x5)] [] (k + 8) (sl + 48) 358 w' (some w')) : hz_J p l e (hz_rm 21 603072 7059562) s m args below meth c cL_law 9 RL ret B tb ini false Fi Ko 393 [(0, .ref b), (1, .ref (B.1 + 0)), (2, .ref (B.1 + 336)), (3, .ref (B.1 + 356)), (4, .ref (B.1 + 357)), (5, .int x5)] [] k sl 358 w (lawc_3 xs Ls x5 w) := by
  have g1 : hz_g 358 0 10 = true := by decide +kernel
  have g2 : hz_g 358 336 11 = true := by decide +kernel
  have g3 : hz_g 358 356 23 = true := by decide +kernel
  have g4 : hz_g 358 357 24 = true := by decide +kernel
  obtain ⟨hk1, hk2⟩ := hk
  unfold lawc_3
  refine hz_aload_n (pc' := 394) (j := 1) dL_law_393 rfl rfl rfl ?_
  refine hz_cVi (pc' := 397) (av := []) (rest := []) vl_L_161 (fun x w' h => ct_X9_errorPosition hl h) g1 rfl rfl (Nat.le_of_ble_eq_true rfl) (by decide) ⟨by omega, by omega⟩ rfl dL_law_394 rfl (fun v2 w1 => ?_)
  refine hz_aload_n (pc' := 398) (j := 2) dL_law_397 rfl rfl rfl ?_
  refine hz_cVi (pc' := 401) (av := []) (rest := [.int v2]) vl_L_164 (fun x w' h => ct_X10_errorPosition hl h) g2 rfl rfl (Nat.le_of_ble_eq_true rfl) (by decide) ⟨by omega, by omega⟩ rfl dL_law_398 rfl (fun v4 w3 => ?_)
  refine hz_icmpeq (pc' := 404) (tgt := 2647) dL_law_401 (by decide) rfl ?_ ?_
  · exact hz_wide (k' := k + 8) (sl' := sl + 48) (by omega) (by omega) rfl (hz_loc [0, 1, 2, 3, 4, 5] rfl (hj w3))
  · refine hz_iconst (pc' := 405) (v := 0) dL_law_404 rfl (by decide) ?_
    exact hz_no rfl
def lawc_4 (xs : Nat → Int32) (Ls : Nat) (x5 : Int32) (w : MW) : Option MW :=
  hz_lds xs Ls (x5 + 1) (fun v1 => hz_lds xs Ls (x5 + 2) (fun v2 => hz_lds xs Ls (x5 + 3) (fun v3 => hz_lds xs Ls (x5 + 4) (fun v4 => hz_lds xs Ls (x5 + 5) (fun v5 => hz_lds xs Ls (x5 + 6) (fun v6 => hz_b (f_L_addJob 0 v1 v2 v3 v4 v5 v6 356 w) (fun v7 w8 => hz_lds xs Ls (x5 + 1) (fun v9 => hz_lds xs Ls (x5 + 2) (fun v10 => hz_lds xs Ls (x5 + 3) (fun v11 => hz_lds xs Ls (x5 + 4) (fun v12 => hz_lds xs Ls (x5 + 5) (fun v13 => hz_lds xs Ls (x5 + 6) (fun v14 => hz_b (f_X10_addJob 336 v9 v10 v11 v12 v13 v14 w8) (fun v16 w15 => hz_b (f_X10_thrown 336 w15) (fun v18 w17 => (if v18 = v7 then (if v7 = 0 then hz_let w17.2.2.1 (fun v19 => (if (lg_cmp v19 (Int32.toInt64 v16)) = 0 then some w17 else none)) else some w17) else none))))))))))))))))
set_option maxHeartbeats 4000000 in
set_option maxRecDepth 100000 in
theorem lct_4 {p : Program} {l : Launch} (hl : l.stackTraces = false) {e : Env} {s : State} {m : MethodId} {args : Array Value} {below : List Frame} {meth : Method} {c : Code} {ret : Option FieldType} {B : Bt} {tb : List ExceptionTableEntry} {ini : Bool} {ρ : Type} {Fi : ρ → State → Prop} {Ko : MW → Option ρ} {b Ls k sl : Nat} {xs : Nat → Int32} (hX : va_X b Ls xs s s.heap) (hbl : b < s.heap.size) (hbA : ¬ hz_A B b) (hk : k + 8 ≤ 603072 ∧ sl + 48 ≤ 7059562) {x5 : Int32} {w : MW} (hj : ∀ w', hz_J p l e (hz_rm 21 603072 7059562) s m args below meth c cL_law 9 RL ret B tb ini false Fi Ko 2647 [(0, .ref b), (1, .ref (B.1 + 0)), (2, .ref (B.1 + 336)), (3, .ref (B.1 + 356)), (4, .ref (B.1 + 357)), (5, .int x5)] [] (k + 8) (sl + 48) 358 w' (some w')) : hz_J p l e (hz_rm 21 603072 7059562) s m args below meth c cL_law 9 RL ret B tb ini false Fi Ko 406 [(0, .ref b), (1, .ref (B.1 + 0)), (2, .ref (B.1 + 336)), (3, .ref (B.1 + 356)), (4, .ref (B.1 + 357)), (5, .int x5)] [] k sl 358 w (lawc_4 xs Ls x5 w) := by
  have g1 : hz_g 358 0 10 = true := by decide +kernel
  have g2 : hz_g 358 336 11 = true := by decide +kernel
  have g3 : hz_g 358 356 23 = true := by decide +kernel
  have g4 : hz_g 358 357 24 = true := by decide +kernel
  obtain ⟨hk1, hk2⟩ := hk
  unfold lawc_4
  refine hz_aload_n (pc' := 407) (j := 1) dL_law_406 rfl rfl rfl ?_
  refine hz_aload_n (pc' := 408) (j := 0) dL_law_407 rfl rfl rfl ?_
  refine hz_iload (pc' := 410) (j := 5) dL_law_408 rfl rfl ?_
  refine hz_iconst (pc' := 411) (v := 1) dL_law_410 rfl (by decide) ?_
  refine hz_iadd (pc' := 412) dL_law_411 rfl ?_
  refine hz_sld (pc' := 413) hX hbl hbA dL_law_412 rfl (fun v1 => ?_)
  refine hz_aload_n (pc' := 414) (j := 0) dL_law_413 rfl rfl rfl ?_
  refine hz_iload (pc' := 416) (j := 5) dL_law_414 rfl rfl ?_
  refine hz_iconst (pc' := 417) (v := 2) dL_law_416 rfl (by decide) ?_
  refine hz_iadd (pc' := 418) dL_law_417 rfl ?_
  refine hz_sld (pc' := 419) hX hbl hbA dL_law_418 rfl (fun v2 => ?_)
  refine hz_aload_n (pc' := 420) (j := 0) dL_law_419 rfl rfl rfl ?_
  refine hz_iload (pc' := 422) (j := 5) dL_law_420 rfl rfl ?_
  refine hz_iconst (pc' := 423) (v := 3) dL_law_422 rfl (by decide) ?_
  refine hz_iadd (pc' := 424) dL_law_423 rfl ?_
  refine hz_sld (pc' := 425) hX hbl hbA dL_law_424 rfl (fun v3 => ?_)
  refine hz_aload_n (pc' := 426) (j := 0) dL_law_425 rfl rfl rfl ?_
  refine hz_iload (pc' := 428) (j := 5) dL_law_426 rfl rfl ?_
  refine hz_iconst (pc' := 429) (v := 4) dL_law_428 rfl (by decide) ?_
  refine hz_iadd (pc' := 430) dL_law_429 rfl ?_
  refine hz_sld (pc' := 431) hX hbl hbA dL_law_430 rfl (fun v4 => ?_)
  refine hz_aload_n (pc' := 432) (j := 0) dL_law_431 rfl rfl rfl ?_
  refine hz_iload (pc' := 434) (j := 5) dL_law_432 rfl rfl ?_
  refine hz_iconst (pc' := 435) (v := 5) dL_law_434 rfl (by decide) ?_
  refine hz_iadd (pc' := 436) dL_law_435 rfl ?_
  refine hz_sld (pc' := 437) hX hbl hbA dL_law_436 rfl (fun v5 => ?_)
  refine hz_aload_n (pc' := 438) (j := 0) dL_law_437 rfl rfl rfl ?_
  refine hz_iload (pc' := 440) (j := 5) dL_law_438 rfl rfl ?_
  refine hz_bipush (pc' := 442) (v := 6) dL_law_440 rfl (by decide) ?_
  refine hz_iadd (pc' := 443) dL_law_442 rfl ?_
  refine hz_sld (pc' := 444) hX hbl hbA dL_law_443 rfl (fun v6 => ?_)
  refine hz_aload_n (pc' := 445) (j := 3) dL_law_444 rfl rfl rfl ?_
  refine hz_cW (pc' := 448) (na := 8) (hh := [(0, 18, 21, 13), (0, 18, 25, 19)]) (av := [.ref (B.1 + 0), .int v1, .int v2, .int v3, .int v4, .int v5, .int v6, .ref (B.1 + 356)]) (rest := []) hq_669 hq_670 hq_0 hq_671 ⟨by decide, by decide, by decide +kernel⟩ (fun x w' h => ct_L_addJob hl h) rfl rfl (Nat.le_of_ble_eq_true rfl) (by decide) ⟨by omega, by omega⟩ rfl dL_law_445 rfl (fun v7 w8 => ?_)
  refine hz_istore (pc' := 450) (L' := [(6, .int v7), (0, .ref b), (1, .ref (B.1 + 0)), (2, .ref (B.1 + 336)), (3, .ref (B.1 + 356)), (4, .ref (B.1 + 357)), (5, .int x5)]) dL_law_448 rfl (by decide) rfl ?_
  refine hz_aload_n (pc' := 451) (j := 3) dL_law_450 rfl rfl rfl ?_
  refine hz_aload_n (pc' := 452) (j := 1) dL_law_451 rfl rfl rfl ?_
  refine hz_iload (pc' := 454) (j := 6) dL_law_452 rfl rfl ?_
  refine hz_iconst (pc' := 455) (v := 1) dL_law_454 rfl (by decide) ?_
  refine hz_iadd (pc' := 456) dL_law_455 rfl ?_
  refine hz_sld (pc' := 457) hX hbl hbA dL_law_456 rfl (fun v9 => ?_)
  refine hz_aload_n (pc' := 458) (j := 1) dL_law_457 rfl rfl rfl ?_
  refine hz_iload (pc' := 460) (j := 6) dL_law_458 rfl rfl ?_
  refine hz_iconst (pc' := 461) (v := 2) dL_law_460 rfl (by decide) ?_
  refine hz_iadd (pc' := 462) dL_law_461 rfl ?_
  refine hz_sld (pc' := 463) hX hbl hbA dL_law_462 rfl (fun v10 => ?_)
  refine hz_aload_n (pc' := 464) (j := 1) dL_law_463 rfl rfl rfl ?_
  refine hz_iload (pc' := 466) (j := 6) dL_law_464 rfl rfl ?_
  refine hz_iconst (pc' := 467) (v := 3) dL_law_466 rfl (by decide) ?_
  refine hz_iadd (pc' := 468) dL_law_467 rfl ?_
  refine hz_sld (pc' := 469) hX hbl hbA dL_law_468 rfl (fun v11 => ?_)
  refine hz_aload_n (pc' := 470) (j := 1) dL_law_469 rfl rfl rfl ?_
  refine hz_iload (pc' := 472) (j := 6) dL_law_470 rfl rfl ?_
  refine hz_iconst (pc' := 473) (v := 4) dL_law_472 rfl (by decide) ?_
  refine hz_iadd (pc' := 474) dL_law_473 rfl ?_
  refine hz_sld (pc' := 475) hX hbl hbA dL_law_474 rfl (fun v12 => ?_)
  refine hz_aload_n (pc' := 476) (j := 1) dL_law_475 rfl rfl rfl ?_
  refine hz_iload (pc' := 478) (j := 6) dL_law_476 rfl rfl ?_
  refine hz_iconst (pc' := 479) (v := 5) dL_law_478 rfl (by decide) ?_
  refine hz_iadd (pc' := 480) dL_law_479 rfl ?_
  refine hz_sld (pc' := 481) hX hbl hbA dL_law_480 rfl (fun v13 => ?_)
  refine hz_aload_n (pc' := 482) (j := 1) dL_law_481 rfl rfl rfl ?_
  refine hz_iload (pc' := 484) (j := 6) dL_law_482 rfl rfl ?_
  refine hz_bipush (pc' := 486) (v := 6) dL_law_484 rfl (by decide) ?_
  refine hz_iadd (pc' := 487) dL_law_486 rfl ?_
  refine hz_sld (pc' := 488) hX hbl hbA dL_law_487 rfl (fun v14 => ?_)
  refine hz_cVi (pc' := 491) (av := [.int v9, .int v10, .int v11, .int v12, .int v13, .int v14]) (rest := []) vl_L_168 (fun x w' h => ct_X10_addJob hl h) g2 rfl rfl (Nat.le_of_ble_eq_true rfl) (by decide) ⟨by omega, by omega⟩ rfl dL_law_488 rfl (fun v16 w15 => ?_)
  refine hz_istore (pc' := 493) (L' := [(7, .int v16), (6, .int v7), (0, .ref b), (1, .ref (B.1 + 0)), (2, .ref (B.1 + 336)), (3, .ref (B.1 + 356)), (4, .ref (B.1 + 357)), (5, .int x5)]) dL_law_491 rfl (by decide) rfl ?_
  refine hz_aload_n (pc' := 494) (j := 4) dL_law_493 rfl rfl rfl ?_
  refine hz_cVi (pc' := 497) (av := []) (rest := []) vl_L_150 (fun x w' h => ct_X10_thrown hl h) g2 rfl rfl (Nat.le_of_ble_eq_true rfl) (by decide) ⟨by omega, by omega⟩ rfl dL_law_494 rfl (fun v18 w17 => ?_)
  refine hz_iload (pc' := 499) (j := 1) dL_law_497 rfl rfl ?_
  refine hz_icmpeq (pc' := 502) (tgt := 504) dL_law_499 (by decide) rfl ?_ ?_
  · refine hz_iload (pc' := 506) (j := 1) dL_law_504 rfl rfl ?_
    refine hz_ifne (pc' := 509) (tgt := 521) dL_law_506 (by decide) rfl ?_ ?_
    · refine hz_goto (tgt := 2647) dL_law_521 (by decide) ?_
      exact hz_wide (k' := k + 8) (sl' := sl + 48) (by omega) (by omega) rfl (hz_loc [2, 3, 4, 5, 6, 7] rfl (hj w17))
    · refine hz_aload_n (pc' := 510) (j := 5) dL_law_509 rfl rfl rfl ?_
      refine hz_iconst (pc' := 511) (v := 0) dL_law_510 rfl (by decide) ?_
      refine hz_lald (pc' := 512) g3 rfl dL_law_511 rfl (fun v19 => ?_)
      refine hz_iload (pc' := 514) (j := 0) dL_law_512 rfl rfl ?_
      refine hz_i2l (pc' := 515) dL_law_514 rfl ?_
      refine hz_lcmp (pc' := 516) dL_law_515 rfl ?_
      refine hz_ifeq (pc' := 519) (tgt := 521) dL_law_516 (by decide) rfl ?_ ?_
      · refine hz_goto (tgt := 2647) dL_law_521 (by decide) ?_
        exact hz_wide (k' := k + 8) (sl' := sl + 48) (by omega) (by omega) rfl (hz_loc [2, 3, 4, 5, 6, 7] rfl (hj w17))
      · refine hz_iconst (pc' := 520) (v := 0) dL_law_519 rfl (by decide) ?_
        exact hz_no rfl
  · refine hz_iconst (pc' := 503) (v := 0) dL_law_502 rfl (by decide) ?_
    exact hz_no rfl
def lawc_5 (xs : Nat → Int32) (Ls : Nat) (x5 : Int32) (w : MW) : Option MW :=
  hz_lds xs Ls (x5 + 1) (fun v1 => hz_b (f_L_cancelJob 0 v1 356 w) (fun v2 w3 => hz_lds xs Ls (x5 + 1) (fun v4 => hz_b (f_X10_cancelJob 336 v4 w3) (fun v6 w5 => hz_b (f_X10_thrown 336 w5) (fun v8 w7 => (if v8 = v2 then (if v2 = 0 then hz_let w7.2.2.1 (fun v9 => (if (lg_cmp v9 (Int32.toInt64 v6)) = 0 then some w7 else none)) else some w7) else none))))))
set_option maxHeartbeats 4000000 in
set_option maxRecDepth 100000 in
theorem lct_5 {p : Program} {l : Launch} (hl : l.stackTraces = false) {e : Env} {s : State} {m : MethodId} {args : Array Value} {below : List Frame} {meth : Method} {c : Code} {ret : Option FieldType} {B : Bt} {tb : List ExceptionTableEntry} {ini : Bool} {ρ : Type} {Fi : ρ → State → Prop} {Ko : MW → Option ρ} {b Ls k sl : Nat} {xs : Nat → Int32} (hX : va_X b Ls xs s s.heap) (hbl : b < s.heap.size) (hbA : ¬ hz_A B b) (hk : k + 8 ≤ 603072 ∧ sl + 48 ≤ 7059562) {x5 : Int32} {w : MW} (hj : ∀ w', hz_J p l e (hz_rm 21 603072 7059562) s m args below meth c cL_law 9 RL ret B tb ini false Fi Ko 2647 [(0, .ref b), (1, .ref (B.1 + 0)), (2, .ref (B.1 + 336)), (3, .ref (B.1 + 356)), (4, .ref (B.1 + 357)), (5, .int x5)] [] (k + 8) (sl + 48) 358 w' (some w')) : hz_J p l e (hz_rm 21 603072 7059562) s m args below meth c cL_law 9 RL ret B tb ini false Fi Ko 524 [(0, .ref b), (1, .ref (B.1 + 0)), (2, .ref (B.1 + 336)), (3, .ref (B.1 + 356)), (4, .ref (B.1 + 357)), (5, .int x5)] [] k sl 358 w (lawc_5 xs Ls x5 w) := by
  have g1 : hz_g 358 0 10 = true := by decide +kernel
  have g2 : hz_g 358 336 11 = true := by decide +kernel
  have g3 : hz_g 358 356 23 = true := by decide +kernel
  have g4 : hz_g 358 357 24 = true := by decide +kernel
  obtain ⟨hk1, hk2⟩ := hk
  unfold lawc_5
  refine hz_aload_n (pc' := 525) (j := 1) dL_law_524 rfl rfl rfl ?_
  refine hz_aload_n (pc' := 526) (j := 0) dL_law_525 rfl rfl rfl ?_
  refine hz_iload (pc' := 528) (j := 5) dL_law_526 rfl rfl ?_
  refine hz_iconst (pc' := 529) (v := 1) dL_law_528 rfl (by decide) ?_
  refine hz_iadd (pc' := 530) dL_law_529 rfl ?_
  refine hz_sld (pc' := 531) hX hbl hbA dL_law_530 rfl (fun v1 => ?_)
  refine hz_aload_n (pc' := 532) (j := 3) dL_law_531 rfl rfl rfl ?_
  refine hz_cW (pc' := 535) (na := 3) (hh := [(0, 9, 12, 13), (0, 9, 15, 19)]) (av := [.ref (B.1 + 0), .int v1, .ref (B.1 + 356)]) (rest := []) hq_714 hq_715 hq_0 hq_716 ⟨by decide, by decide, by decide +kernel⟩ (fun x w' h => ct_L_cancelJob hl h) rfl rfl (Nat.le_of_ble_eq_true rfl) (by decide) ⟨by omega, by omega⟩ rfl dL_law_532 rfl (fun v2 w3 => ?_)
  refine hz_istore (pc' := 537) (L' := [(6, .int v2), (0, .ref b), (1, .ref (B.1 + 0)), (2, .ref (B.1 + 336)), (3, .ref (B.1 + 356)), (4, .ref (B.1 + 357)), (5, .int x5)]) dL_law_535 rfl (by decide) rfl ?_
  refine hz_aload_n (pc' := 538) (j := 3) dL_law_537 rfl rfl rfl ?_
  refine hz_aload_n (pc' := 539) (j := 1) dL_law_538 rfl rfl rfl ?_
  refine hz_iload (pc' := 541) (j := 6) dL_law_539 rfl rfl ?_
  refine hz_iconst (pc' := 542) (v := 1) dL_law_541 rfl (by decide) ?_
  refine hz_iadd (pc' := 543) dL_law_542 rfl ?_
  refine hz_sld (pc' := 544) hX hbl hbA dL_law_543 rfl (fun v4 => ?_)
  refine hz_cVi (pc' := 547) (av := [.int v4]) (rest := []) vl_L_171 (fun x w' h => ct_X10_cancelJob hl h) g2 rfl rfl (Nat.le_of_ble_eq_true rfl) (by decide) ⟨by omega, by omega⟩ rfl dL_law_544 rfl (fun v6 w5 => ?_)
  refine hz_istore (pc' := 549) (L' := [(7, .int v6), (6, .int v2), (0, .ref b), (1, .ref (B.1 + 0)), (2, .ref (B.1 + 336)), (3, .ref (B.1 + 356)), (4, .ref (B.1 + 357)), (5, .int x5)]) dL_law_547 rfl (by decide) rfl ?_
  refine hz_aload_n (pc' := 550) (j := 4) dL_law_549 rfl rfl rfl ?_
  refine hz_cVi (pc' := 553) (av := []) (rest := []) vl_L_150 (fun x w' h => ct_X10_thrown hl h) g2 rfl rfl (Nat.le_of_ble_eq_true rfl) (by decide) ⟨by omega, by omega⟩ rfl dL_law_550 rfl (fun v8 w7 => ?_)
  refine hz_iload (pc' := 555) (j := 1) dL_law_553 rfl rfl ?_
  refine hz_icmpeq (pc' := 558) (tgt := 560) dL_law_555 (by decide) rfl ?_ ?_
  · refine hz_iload (pc' := 562) (j := 1) dL_law_560 rfl rfl ?_
    refine hz_ifne (pc' := 565) (tgt := 577) dL_law_562 (by decide) rfl ?_ ?_
    · refine hz_goto (tgt := 2647) dL_law_577 (by decide) ?_
      exact hz_wide (k' := k + 8) (sl' := sl + 48) (by omega) (by omega) rfl (hz_loc [2, 3, 4, 5, 6, 7] rfl (hj w7))
    · refine hz_aload_n (pc' := 566) (j := 5) dL_law_565 rfl rfl rfl ?_
      refine hz_iconst (pc' := 567) (v := 0) dL_law_566 rfl (by decide) ?_
      refine hz_lald (pc' := 568) g3 rfl dL_law_567 rfl (fun v9 => ?_)
      refine hz_iload (pc' := 570) (j := 0) dL_law_568 rfl rfl ?_
      refine hz_i2l (pc' := 571) dL_law_570 rfl ?_
      refine hz_lcmp (pc' := 572) dL_law_571 rfl ?_
      refine hz_ifeq (pc' := 575) (tgt := 577) dL_law_572 (by decide) rfl ?_ ?_
      · refine hz_goto (tgt := 2647) dL_law_577 (by decide) ?_
        exact hz_wide (k' := k + 8) (sl' := sl + 48) (by omega) (by omega) rfl (hz_loc [2, 3, 4, 5, 6, 7] rfl (hj w7))
      · refine hz_iconst (pc' := 576) (v := 0) dL_law_575 rfl (by decide) ?_
        exact hz_no rfl
  · refine hz_iconst (pc' := 559) (v := 0) dL_law_558 rfl (by decide) ?_
    exact hz_no rfl
def lawc_6 (xs : Nat → Int32) (Ls : Nat) (x5 : Int32) (w : MW) : Option MW :=
  hz_lds xs Ls (x5 + 1) (fun v1 => hz_lds xs Ls (x5 + 2) (fun v2 => hz_b (f_L_setPolicy 0 v1 v2 356 w) (fun v3 w4 => hz_lds xs Ls (x5 + 1) (fun v5 => hz_lds xs Ls (x5 + 2) (fun v6 => hz_b (f_X10_setPolicy 336 v5 v6 w4) (fun v8 w7 => hz_b (f_X10_thrown 336 w7) (fun v10 w9 => (if v10 = v3 then (if v3 = 0 then hz_let w9.2.2.1 (fun v11 => (if (lg_cmp v11 (Int32.toInt64 v8)) = 0 then some w9 else none)) else some w9) else none))))))))
set_option maxHeartbeats 4000000 in
set_option maxRecDepth 100000 in
theorem lct_6 {p : Program} {l : Launch} (hl : l.stackTraces = false) {e : Env} {s : State} {m : MethodId} {args : Array Value} {below : List Frame} {meth : Method} {c : Code} {ret : Option FieldType} {B : Bt} {tb : List ExceptionTableEntry} {ini : Bool} {ρ : Type} {Fi : ρ → State → Prop} {Ko : MW → Option ρ} {b Ls k sl : Nat} {xs : Nat → Int32} (hX : va_X b Ls xs s s.heap) (hbl : b < s.heap.size) (hbA : ¬ hz_A B b) (hk : k + 8 ≤ 603072 ∧ sl + 48 ≤ 7059562) {x5 : Int32} {w : MW} (hj : ∀ w', hz_J p l e (hz_rm 21 603072 7059562) s m args below meth c cL_law 9 RL ret B tb ini false Fi Ko 2647 [(0, .ref b), (1, .ref (B.1 + 0)), (2, .ref (B.1 + 336)), (3, .ref (B.1 + 356)), (4, .ref (B.1 + 357)), (5, .int x5)] [] (k + 8) (sl + 48) 358 w' (some w')) : hz_J p l e (hz_rm 21 603072 7059562) s m args below meth c cL_law 9 RL ret B tb ini false Fi Ko 580 [(0, .ref b), (1, .ref (B.1 + 0)), (2, .ref (B.1 + 336)), (3, .ref (B.1 + 356)), (4, .ref (B.1 + 357)), (5, .int x5)] [] k sl 358 w (lawc_6 xs Ls x5 w) := by
  have g1 : hz_g 358 0 10 = true := by decide +kernel
  have g2 : hz_g 358 336 11 = true := by decide +kernel
  have g3 : hz_g 358 356 23 = true := by decide +kernel
  have g4 : hz_g 358 357 24 = true := by decide +kernel
  obtain ⟨hk1, hk2⟩ := hk
  unfold lawc_6
  refine hz_aload_n (pc' := 581) (j := 1) dL_law_580 rfl rfl rfl ?_
  refine hz_aload_n (pc' := 582) (j := 0) dL_law_581 rfl rfl rfl ?_
  refine hz_iload (pc' := 584) (j := 5) dL_law_582 rfl rfl ?_
  refine hz_iconst (pc' := 585) (v := 1) dL_law_584 rfl (by decide) ?_
  refine hz_iadd (pc' := 586) dL_law_585 rfl ?_
  refine hz_sld (pc' := 587) hX hbl hbA dL_law_586 rfl (fun v1 => ?_)
  refine hz_aload_n (pc' := 588) (j := 0) dL_law_587 rfl rfl rfl ?_
  refine hz_iload (pc' := 590) (j := 5) dL_law_588 rfl rfl ?_
  refine hz_iconst (pc' := 591) (v := 2) dL_law_590 rfl (by decide) ?_
  refine hz_iadd (pc' := 592) dL_law_591 rfl ?_
  refine hz_sld (pc' := 593) hX hbl hbA dL_law_592 rfl (fun v2 => ?_)
  refine hz_aload_n (pc' := 594) (j := 3) dL_law_593 rfl rfl rfl ?_
  refine hz_cW (pc' := 597) (na := 4) (hh := [(0, 10, 13, 13), (0, 10, 17, 19)]) (av := [.ref (B.1 + 0), .int v1, .int v2, .ref (B.1 + 356)]) (rest := []) hq_743 hq_744 hq_0 hq_745 ⟨by decide, by decide, by decide +kernel⟩ (fun x w' h => ct_L_setPolicy hl h) rfl rfl (Nat.le_of_ble_eq_true rfl) (by decide) ⟨by omega, by omega⟩ rfl dL_law_594 rfl (fun v3 w4 => ?_)
  refine hz_istore (pc' := 599) (L' := [(6, .int v3), (0, .ref b), (1, .ref (B.1 + 0)), (2, .ref (B.1 + 336)), (3, .ref (B.1 + 356)), (4, .ref (B.1 + 357)), (5, .int x5)]) dL_law_597 rfl (by decide) rfl ?_
  refine hz_aload_n (pc' := 600) (j := 3) dL_law_599 rfl rfl rfl ?_
  refine hz_aload_n (pc' := 601) (j := 1) dL_law_600 rfl rfl rfl ?_
  refine hz_iload (pc' := 603) (j := 6) dL_law_601 rfl rfl ?_
  refine hz_iconst (pc' := 604) (v := 1) dL_law_603 rfl (by decide) ?_
  refine hz_iadd (pc' := 605) dL_law_604 rfl ?_
  refine hz_sld (pc' := 606) hX hbl hbA dL_law_605 rfl (fun v5 => ?_)
  refine hz_aload_n (pc' := 607) (j := 1) dL_law_606 rfl rfl rfl ?_
  refine hz_iload (pc' := 609) (j := 6) dL_law_607 rfl rfl ?_
  refine hz_iconst (pc' := 610) (v := 2) dL_law_609 rfl (by decide) ?_
  refine hz_iadd (pc' := 611) dL_law_610 rfl ?_
  refine hz_sld (pc' := 612) hX hbl hbA dL_law_611 rfl (fun v6 => ?_)
  refine hz_cVi (pc' := 615) (av := [.int v5, .int v6]) (rest := []) vl_L_175 (fun x w' h => ct_X10_setPolicy hl h) g2 rfl rfl (Nat.le_of_ble_eq_true rfl) (by decide) ⟨by omega, by omega⟩ rfl dL_law_612 rfl (fun v8 w7 => ?_)
  refine hz_istore (pc' := 617) (L' := [(7, .int v8), (6, .int v3), (0, .ref b), (1, .ref (B.1 + 0)), (2, .ref (B.1 + 336)), (3, .ref (B.1 + 356)), (4, .ref (B.1 + 357)), (5, .int x5)]) dL_law_615 rfl (by decide) rfl ?_
  refine hz_aload_n (pc' := 618) (j := 4) dL_law_617 rfl rfl rfl ?_
  refine hz_cVi (pc' := 621) (av := []) (rest := []) vl_L_150 (fun x w' h => ct_X10_thrown hl h) g2 rfl rfl (Nat.le_of_ble_eq_true rfl) (by decide) ⟨by omega, by omega⟩ rfl dL_law_618 rfl (fun v10 w9 => ?_)
  refine hz_iload (pc' := 623) (j := 1) dL_law_621 rfl rfl ?_
  refine hz_icmpeq (pc' := 626) (tgt := 628) dL_law_623 (by decide) rfl ?_ ?_
  · refine hz_iload (pc' := 630) (j := 1) dL_law_628 rfl rfl ?_
    refine hz_ifne (pc' := 633) (tgt := 645) dL_law_630 (by decide) rfl ?_ ?_
    · refine hz_goto (tgt := 2647) dL_law_645 (by decide) ?_
      exact hz_wide (k' := k + 8) (sl' := sl + 48) (by omega) (by omega) rfl (hz_loc [2, 3, 4, 5, 6, 7] rfl (hj w9))
    · refine hz_aload_n (pc' := 634) (j := 5) dL_law_633 rfl rfl rfl ?_
      refine hz_iconst (pc' := 635) (v := 0) dL_law_634 rfl (by decide) ?_
      refine hz_lald (pc' := 636) g3 rfl dL_law_635 rfl (fun v11 => ?_)
      refine hz_iload (pc' := 638) (j := 0) dL_law_636 rfl rfl ?_
      refine hz_i2l (pc' := 639) dL_law_638 rfl ?_
      refine hz_lcmp (pc' := 640) dL_law_639 rfl ?_
      refine hz_ifeq (pc' := 643) (tgt := 645) dL_law_640 (by decide) rfl ?_ ?_
      · refine hz_goto (tgt := 2647) dL_law_645 (by decide) ?_
        exact hz_wide (k' := k + 8) (sl' := sl + 48) (by omega) (by omega) rfl (hz_loc [2, 3, 4, 5, 6, 7] rfl (hj w9))
      · refine hz_iconst (pc' := 644) (v := 0) dL_law_643 rfl (by decide) ?_
        exact hz_no rfl
  · refine hz_iconst (pc' := 627) (v := 0) dL_law_626 rfl (by decide) ?_
    exact hz_no rfl
def lawc_7 (xs : Nat → Int32) (Ls : Nat) (x5 : Int32) (w : MW) : Option MW :=
  hz_lds xs Ls (x5 + 1) (fun v1 => hz_lds xs Ls (x5 + 2) (fun v2 => hz_b (f_L_setLimit 0 v1 v2 356 w) (fun v3 w4 => hz_lds xs Ls (x5 + 1) (fun v5 => hz_lds xs Ls (x5 + 2) (fun v6 => hz_b (f_X10_setLimit 336 v5 v6 w4) (fun v8 w7 => hz_b (f_X10_thrown 336 w7) (fun v10 w9 => (if v10 = v3 then (if v3 = 0 then hz_let w9.2.2.1 (fun v11 => (if (lg_cmp v11 (Int32.toInt64 v8)) = 0 then some w9 else none)) else some w9) else none))))))))
set_option maxHeartbeats 4000000 in
set_option maxRecDepth 100000 in
theorem lct_7 {p : Program} {l : Launch} (hl : l.stackTraces = false) {e : Env} {s : State} {m : MethodId} {args : Array Value} {below : List Frame} {meth : Method} {c : Code} {ret : Option FieldType} {B : Bt} {tb : List ExceptionTableEntry} {ini : Bool} {ρ : Type} {Fi : ρ → State → Prop} {Ko : MW → Option ρ} {b Ls k sl : Nat} {xs : Nat → Int32} (hX : va_X b Ls xs s s.heap) (hbl : b < s.heap.size) (hbA : ¬ hz_A B b) (hk : k + 8 ≤ 603072 ∧ sl + 48 ≤ 7059562) {x5 : Int32} {w : MW} (hj : ∀ w', hz_J p l e (hz_rm 21 603072 7059562) s m args below meth c cL_law 9 RL ret B tb ini false Fi Ko 2647 [(0, .ref b), (1, .ref (B.1 + 0)), (2, .ref (B.1 + 336)), (3, .ref (B.1 + 356)), (4, .ref (B.1 + 357)), (5, .int x5)] [] (k + 8) (sl + 48) 358 w' (some w')) : hz_J p l e (hz_rm 21 603072 7059562) s m args below meth c cL_law 9 RL ret B tb ini false Fi Ko 648 [(0, .ref b), (1, .ref (B.1 + 0)), (2, .ref (B.1 + 336)), (3, .ref (B.1 + 356)), (4, .ref (B.1 + 357)), (5, .int x5)] [] k sl 358 w (lawc_7 xs Ls x5 w) := by
  have g1 : hz_g 358 0 10 = true := by decide +kernel
  have g2 : hz_g 358 336 11 = true := by decide +kernel
  have g3 : hz_g 358 356 23 = true := by decide +kernel
  have g4 : hz_g 358 357 24 = true := by decide +kernel
  obtain ⟨hk1, hk2⟩ := hk
  unfold lawc_7
  refine hz_aload_n (pc' := 649) (j := 1) dL_law_648 rfl rfl rfl ?_
  refine hz_aload_n (pc' := 650) (j := 0) dL_law_649 rfl rfl rfl ?_
  refine hz_iload (pc' := 652) (j := 5) dL_law_650 rfl rfl ?_
  refine hz_iconst (pc' := 653) (v := 1) dL_law_652 rfl (by decide) ?_
  refine hz_iadd (pc' := 654) dL_law_653 rfl ?_
  refine hz_sld (pc' := 655) hX hbl hbA dL_law_654 rfl (fun v1 => ?_)
  refine hz_aload_n (pc' := 656) (j := 0) dL_law_655 rfl rfl rfl ?_
  refine hz_iload (pc' := 658) (j := 5) dL_law_656 rfl rfl ?_
  refine hz_iconst (pc' := 659) (v := 2) dL_law_658 rfl (by decide) ?_
  refine hz_iadd (pc' := 660) dL_law_659 rfl ?_
  refine hz_sld (pc' := 661) hX hbl hbA dL_law_660 rfl (fun v2 => ?_)
  refine hz_aload_n (pc' := 662) (j := 3) dL_law_661 rfl rfl rfl ?_
  refine hz_cW (pc' := 665) (na := 4) (hh := [(0, 10, 13, 13), (0, 10, 17, 19)]) (av := [.ref (B.1 + 0), .int v1, .int v2, .ref (B.1 + 356)]) (rest := []) hq_750 hq_751 hq_0 hq_752 ⟨by decide, by decide, by decide +kernel⟩ (fun x w' h => ct_L_setLimit hl h) rfl rfl (Nat.le_of_ble_eq_true rfl) (by decide) ⟨by omega, by omega⟩ rfl dL_law_662 rfl (fun v3 w4 => ?_)
  refine hz_istore (pc' := 667) (L' := [(6, .int v3), (0, .ref b), (1, .ref (B.1 + 0)), (2, .ref (B.1 + 336)), (3, .ref (B.1 + 356)), (4, .ref (B.1 + 357)), (5, .int x5)]) dL_law_665 rfl (by decide) rfl ?_
  refine hz_aload_n (pc' := 668) (j := 3) dL_law_667 rfl rfl rfl ?_
  refine hz_aload_n (pc' := 669) (j := 1) dL_law_668 rfl rfl rfl ?_
  refine hz_iload (pc' := 671) (j := 6) dL_law_669 rfl rfl ?_
  refine hz_iconst (pc' := 672) (v := 1) dL_law_671 rfl (by decide) ?_
  refine hz_iadd (pc' := 673) dL_law_672 rfl ?_
  refine hz_sld (pc' := 674) hX hbl hbA dL_law_673 rfl (fun v5 => ?_)
  refine hz_aload_n (pc' := 675) (j := 1) dL_law_674 rfl rfl rfl ?_
  refine hz_iload (pc' := 677) (j := 6) dL_law_675 rfl rfl ?_
  refine hz_iconst (pc' := 678) (v := 2) dL_law_677 rfl (by decide) ?_
  refine hz_iadd (pc' := 679) dL_law_678 rfl ?_
  refine hz_sld (pc' := 680) hX hbl hbA dL_law_679 rfl (fun v6 => ?_)
  refine hz_cVi (pc' := 683) (av := [.int v5, .int v6]) (rest := []) vl_L_178 (fun x w' h => ct_X10_setLimit hl h) g2 rfl rfl (Nat.le_of_ble_eq_true rfl) (by decide) ⟨by omega, by omega⟩ rfl dL_law_680 rfl (fun v8 w7 => ?_)
  refine hz_istore (pc' := 685) (L' := [(7, .int v8), (6, .int v3), (0, .ref b), (1, .ref (B.1 + 0)), (2, .ref (B.1 + 336)), (3, .ref (B.1 + 356)), (4, .ref (B.1 + 357)), (5, .int x5)]) dL_law_683 rfl (by decide) rfl ?_
  refine hz_aload_n (pc' := 686) (j := 4) dL_law_685 rfl rfl rfl ?_
  refine hz_cVi (pc' := 689) (av := []) (rest := []) vl_L_150 (fun x w' h => ct_X10_thrown hl h) g2 rfl rfl (Nat.le_of_ble_eq_true rfl) (by decide) ⟨by omega, by omega⟩ rfl dL_law_686 rfl (fun v10 w9 => ?_)
  refine hz_iload (pc' := 691) (j := 1) dL_law_689 rfl rfl ?_
  refine hz_icmpeq (pc' := 694) (tgt := 696) dL_law_691 (by decide) rfl ?_ ?_
  · refine hz_iload (pc' := 698) (j := 1) dL_law_696 rfl rfl ?_
    refine hz_ifne (pc' := 701) (tgt := 713) dL_law_698 (by decide) rfl ?_ ?_
    · refine hz_goto (tgt := 2647) dL_law_713 (by decide) ?_
      exact hz_wide (k' := k + 8) (sl' := sl + 48) (by omega) (by omega) rfl (hz_loc [2, 3, 4, 5, 6, 7] rfl (hj w9))
    · refine hz_aload_n (pc' := 702) (j := 5) dL_law_701 rfl rfl rfl ?_
      refine hz_iconst (pc' := 703) (v := 0) dL_law_702 rfl (by decide) ?_
      refine hz_lald (pc' := 704) g3 rfl dL_law_703 rfl (fun v11 => ?_)
      refine hz_iload (pc' := 706) (j := 0) dL_law_704 rfl rfl ?_
      refine hz_i2l (pc' := 707) dL_law_706 rfl ?_
      refine hz_lcmp (pc' := 708) dL_law_707 rfl ?_
      refine hz_ifeq (pc' := 711) (tgt := 713) dL_law_708 (by decide) rfl ?_ ?_
      · refine hz_goto (tgt := 2647) dL_law_713 (by decide) ?_
        exact hz_wide (k' := k + 8) (sl' := sl + 48) (by omega) (by omega) rfl (hz_loc [2, 3, 4, 5, 6, 7] rfl (hj w9))
      · refine hz_iconst (pc' := 712) (v := 0) dL_law_711 rfl (by decide) ?_
        exact hz_no rfl
  · refine hz_iconst (pc' := 695) (v := 0) dL_law_694 rfl (by decide) ?_
    exact hz_no rfl
def lawc_8 (xs : Nat → Int32) (Ls : Nat) (x5 : Int32) (w : MW) : Option MW :=
  hz_lds xs Ls (x5 + 1) (fun v1 => hz_b (f_L_setAmbient 0 v1 356 w) (fun v2 w3 => hz_lds xs Ls (x5 + 1) (fun v4 => hz_b (f_X10_setAmbient 336 v4 w3) (fun v6 w5 => hz_b (f_X10_thrown 336 w5) (fun v8 w7 => (if v8 = v2 then (if v2 = 0 then hz_let w7.2.2.1 (fun v9 => (if (lg_cmp v9 (Int32.toInt64 v6)) = 0 then some w7 else none)) else some w7) else none))))))
set_option maxHeartbeats 4000000 in
set_option maxRecDepth 100000 in
theorem lct_8 {p : Program} {l : Launch} (hl : l.stackTraces = false) {e : Env} {s : State} {m : MethodId} {args : Array Value} {below : List Frame} {meth : Method} {c : Code} {ret : Option FieldType} {B : Bt} {tb : List ExceptionTableEntry} {ini : Bool} {ρ : Type} {Fi : ρ → State → Prop} {Ko : MW → Option ρ} {b Ls k sl : Nat} {xs : Nat → Int32} (hX : va_X b Ls xs s s.heap) (hbl : b < s.heap.size) (hbA : ¬ hz_A B b) (hk : k + 8 ≤ 603072 ∧ sl + 48 ≤ 7059562) {x5 : Int32} {w : MW} (hj : ∀ w', hz_J p l e (hz_rm 21 603072 7059562) s m args below meth c cL_law 9 RL ret B tb ini false Fi Ko 2647 [(0, .ref b), (1, .ref (B.1 + 0)), (2, .ref (B.1 + 336)), (3, .ref (B.1 + 356)), (4, .ref (B.1 + 357)), (5, .int x5)] [] (k + 8) (sl + 48) 358 w' (some w')) : hz_J p l e (hz_rm 21 603072 7059562) s m args below meth c cL_law 9 RL ret B tb ini false Fi Ko 716 [(0, .ref b), (1, .ref (B.1 + 0)), (2, .ref (B.1 + 336)), (3, .ref (B.1 + 356)), (4, .ref (B.1 + 357)), (5, .int x5)] [] k sl 358 w (lawc_8 xs Ls x5 w) := by
  have g1 : hz_g 358 0 10 = true := by decide +kernel
  have g2 : hz_g 358 336 11 = true := by decide +kernel
  have g3 : hz_g 358 356 23 = true := by decide +kernel
  have g4 : hz_g 358 357 24 = true := by decide +kernel
  obtain ⟨hk1, hk2⟩ := hk
  unfold lawc_8
  refine hz_aload_n (pc' := 717) (j := 1) dL_law_716 rfl rfl rfl ?_
  refine hz_aload_n (pc' := 718) (j := 0) dL_law_717 rfl rfl rfl ?_
  refine hz_iload (pc' := 720) (j := 5) dL_law_718 rfl rfl ?_
  refine hz_iconst (pc' := 721) (v := 1) dL_law_720 rfl (by decide) ?_
  refine hz_iadd (pc' := 722) dL_law_721 rfl ?_
  refine hz_sld (pc' := 723) hX hbl hbA dL_law_722 rfl (fun v1 => ?_)
  refine hz_aload_n (pc' := 724) (j := 3) dL_law_723 rfl rfl rfl ?_
  refine hz_cW (pc' := 727) (na := 3) (hh := [(0, 9, 12, 13), (0, 9, 15, 19)]) (av := [.ref (B.1 + 0), .int v1, .ref (B.1 + 356)]) (rest := []) hq_758 hq_759 hq_0 hq_760 ⟨by decide, by decide, by decide +kernel⟩ (fun x w' h => ct_L_setAmbient hl h) rfl rfl (Nat.le_of_ble_eq_true rfl) (by decide) ⟨by omega, by omega⟩ rfl dL_law_724 rfl (fun v2 w3 => ?_)
  refine hz_istore (pc' := 729) (L' := [(6, .int v2), (0, .ref b), (1, .ref (B.1 + 0)), (2, .ref (B.1 + 336)), (3, .ref (B.1 + 356)), (4, .ref (B.1 + 357)), (5, .int x5)]) dL_law_727 rfl (by decide) rfl ?_
  refine hz_aload_n (pc' := 730) (j := 3) dL_law_729 rfl rfl rfl ?_
  refine hz_aload_n (pc' := 731) (j := 1) dL_law_730 rfl rfl rfl ?_
  refine hz_iload (pc' := 733) (j := 6) dL_law_731 rfl rfl ?_
  refine hz_iconst (pc' := 734) (v := 1) dL_law_733 rfl (by decide) ?_
  refine hz_iadd (pc' := 735) dL_law_734 rfl ?_
  refine hz_sld (pc' := 736) hX hbl hbA dL_law_735 rfl (fun v4 => ?_)
  refine hz_cVi (pc' := 739) (av := [.int v4]) (rest := []) vl_L_181 (fun x w' h => ct_X10_setAmbient hl h) g2 rfl rfl (Nat.le_of_ble_eq_true rfl) (by decide) ⟨by omega, by omega⟩ rfl dL_law_736 rfl (fun v6 w5 => ?_)
  refine hz_istore (pc' := 741) (L' := [(7, .int v6), (6, .int v2), (0, .ref b), (1, .ref (B.1 + 0)), (2, .ref (B.1 + 336)), (3, .ref (B.1 + 356)), (4, .ref (B.1 + 357)), (5, .int x5)]) dL_law_739 rfl (by decide) rfl ?_
  refine hz_aload_n (pc' := 742) (j := 4) dL_law_741 rfl rfl rfl ?_
  refine hz_cVi (pc' := 745) (av := []) (rest := []) vl_L_150 (fun x w' h => ct_X10_thrown hl h) g2 rfl rfl (Nat.le_of_ble_eq_true rfl) (by decide) ⟨by omega, by omega⟩ rfl dL_law_742 rfl (fun v8 w7 => ?_)
  refine hz_iload (pc' := 747) (j := 1) dL_law_745 rfl rfl ?_
  refine hz_icmpeq (pc' := 750) (tgt := 752) dL_law_747 (by decide) rfl ?_ ?_
  · refine hz_iload (pc' := 754) (j := 1) dL_law_752 rfl rfl ?_
    refine hz_ifne (pc' := 757) (tgt := 769) dL_law_754 (by decide) rfl ?_ ?_
    · refine hz_goto (tgt := 2647) dL_law_769 (by decide) ?_
      exact hz_wide (k' := k + 8) (sl' := sl + 48) (by omega) (by omega) rfl (hz_loc [2, 3, 4, 5, 6, 7] rfl (hj w7))
    · refine hz_aload_n (pc' := 758) (j := 5) dL_law_757 rfl rfl rfl ?_
      refine hz_iconst (pc' := 759) (v := 0) dL_law_758 rfl (by decide) ?_
      refine hz_lald (pc' := 760) g3 rfl dL_law_759 rfl (fun v9 => ?_)
      refine hz_iload (pc' := 762) (j := 0) dL_law_760 rfl rfl ?_
      refine hz_i2l (pc' := 763) dL_law_762 rfl ?_
      refine hz_lcmp (pc' := 764) dL_law_763 rfl ?_
      refine hz_ifeq (pc' := 767) (tgt := 769) dL_law_764 (by decide) rfl ?_ ?_
      · refine hz_goto (tgt := 2647) dL_law_769 (by decide) ?_
        exact hz_wide (k' := k + 8) (sl' := sl + 48) (by omega) (by omega) rfl (hz_loc [2, 3, 4, 5, 6, 7] rfl (hj w7))
      · refine hz_iconst (pc' := 768) (v := 0) dL_law_767 rfl (by decide) ?_
        exact hz_no rfl
  · refine hz_iconst (pc' := 751) (v := 0) dL_law_750 rfl (by decide) ?_
    exact hz_no rfl
def lawc_9 (xs : Nat → Int32) (Ls : Nat) (x5 : Int32) (w : MW) : Option MW :=
  hz_lds xs Ls (x5 + 1) (fun v1 => hz_b (f_L_tick 0 v1 356 w) (fun v2 w3 => hz_lds xs Ls (x5 + 1) (fun v4 => hz_b (f_X10_tick 336 v4 w3) (fun v6 w5 => hz_b (f_X10_thrown 336 w5) (fun v8 w7 => (if v8 = v2 then (if v2 = 0 then hz_let w7.2.2.1 (fun v9 => (if (lg_cmp v9 (Int32.toInt64 v6)) = 0 then some w7 else none)) else some w7) else none))))))
set_option maxHeartbeats 4000000 in
set_option maxRecDepth 100000 in
theorem lct_9 {p : Program} {l : Launch} (hl : l.stackTraces = false) {e : Env} {s : State} {m : MethodId} {args : Array Value} {below : List Frame} {meth : Method} {c : Code} {ret : Option FieldType} {B : Bt} {tb : List ExceptionTableEntry} {ini : Bool} {ρ : Type} {Fi : ρ → State → Prop} {Ko : MW → Option ρ} {b Ls k sl : Nat} {xs : Nat → Int32} (hX : va_X b Ls xs s s.heap) (hbl : b < s.heap.size) (hbA : ¬ hz_A B b) (hk : k + 8 ≤ 603072 ∧ sl + 48 ≤ 7059562) {x5 : Int32} {w : MW} (hj : ∀ w', hz_J p l e (hz_rm 21 603072 7059562) s m args below meth c cL_law 9 RL ret B tb ini false Fi Ko 2647 [(0, .ref b), (1, .ref (B.1 + 0)), (2, .ref (B.1 + 336)), (3, .ref (B.1 + 356)), (4, .ref (B.1 + 357)), (5, .int x5)] [] (k + 8) (sl + 48) 358 w' (some w')) : hz_J p l e (hz_rm 21 603072 7059562) s m args below meth c cL_law 9 RL ret B tb ini false Fi Ko 772 [(0, .ref b), (1, .ref (B.1 + 0)), (2, .ref (B.1 + 336)), (3, .ref (B.1 + 356)), (4, .ref (B.1 + 357)), (5, .int x5)] [] k sl 358 w (lawc_9 xs Ls x5 w) := by
  have g1 : hz_g 358 0 10 = true := by decide +kernel
  have g2 : hz_g 358 336 11 = true := by decide +kernel
  have g3 : hz_g 358 356 23 = true := by decide +kernel
  have g4 : hz_g 358 357 24 = true := by decide +kernel
  obtain ⟨hk1, hk2⟩ := hk
  unfold lawc_9
  refine hz_aload_n (pc' := 773) (j := 1) dL_law_772 rfl rfl rfl ?_
  refine hz_aload_n (pc' := 774) (j := 0) dL_law_773 rfl rfl rfl ?_
  refine hz_iload (pc' := 776) (j := 5) dL_law_774 rfl rfl ?_
  refine hz_iconst (pc' := 777) (v := 1) dL_law_776 rfl (by decide) ?_
  refine hz_iadd (pc' := 778) dL_law_777 rfl ?_
  refine hz_sld (pc' := 779) hX hbl hbA dL_law_778 rfl (fun v1 => ?_)
  refine hz_aload_n (pc' := 780) (j := 3) dL_law_779 rfl rfl rfl ?_
  refine hz_cW (pc' := 783) (na := 3) (hh := [(0, 9, 12, 13), (0, 9, 15, 19)]) (av := [.ref (B.1 + 0), .int v1, .ref (B.1 + 356)]) (rest := []) hq_765 hq_766 hq_0 hq_767 ⟨by decide, by decide, by decide +kernel⟩ (fun x w' h => ct_L_tick hl h) rfl rfl (Nat.le_of_ble_eq_true rfl) (by decide) ⟨by omega, by omega⟩ rfl dL_law_780 rfl (fun v2 w3 => ?_)
  refine hz_istore (pc' := 785) (L' := [(6, .int v2), (0, .ref b), (1, .ref (B.1 + 0)), (2, .ref (B.1 + 336)), (3, .ref (B.1 + 356)), (4, .ref (B.1 + 357)), (5, .int x5)]) dL_law_783 rfl (by decide) rfl ?_
  refine hz_aload_n (pc' := 786) (j := 3) dL_law_785 rfl rfl rfl ?_
  refine hz_aload_n (pc' := 787) (j := 1) dL_law_786 rfl rfl rfl ?_
  refine hz_iload (pc' := 789) (j := 6) dL_law_787 rfl rfl ?_
  refine hz_iconst (pc' := 790) (v := 1) dL_law_789 rfl (by decide) ?_
  refine hz_iadd (pc' := 791) dL_law_790 rfl ?_
  refine hz_sld (pc' := 792) hX hbl hbA dL_law_791 rfl (fun v4 => ?_)
  refine hz_cVi (pc' := 795) (av := [.int v4]) (rest := []) vl_L_184 (fun x w' h => ct_X10_tick hl h) g2 rfl rfl (Nat.le_of_ble_eq_true rfl) (by decide) ⟨by omega, by omega⟩ rfl dL_law_792 rfl (fun v6 w5 => ?_)
  refine hz_istore (pc' := 797) (L' := [(7, .int v6), (6, .int v2), (0, .ref b), (1, .ref (B.1 + 0)), (2, .ref (B.1 + 336)), (3, .ref (B.1 + 356)), (4, .ref (B.1 + 357)), (5, .int x5)]) dL_law_795 rfl (by decide) rfl ?_
  refine hz_aload_n (pc' := 798) (j := 4) dL_law_797 rfl rfl rfl ?_
  refine hz_cVi (pc' := 801) (av := []) (rest := []) vl_L_150 (fun x w' h => ct_X10_thrown hl h) g2 rfl rfl (Nat.le_of_ble_eq_true rfl) (by decide) ⟨by omega, by omega⟩ rfl dL_law_798 rfl (fun v8 w7 => ?_)
  refine hz_iload (pc' := 803) (j := 1) dL_law_801 rfl rfl ?_
  refine hz_icmpeq (pc' := 806) (tgt := 808) dL_law_803 (by decide) rfl ?_ ?_
  · refine hz_iload (pc' := 810) (j := 1) dL_law_808 rfl rfl ?_
    refine hz_ifne (pc' := 813) (tgt := 825) dL_law_810 (by decide) rfl ?_ ?_
    · refine hz_goto (tgt := 2647) dL_law_825 (by decide) ?_
      exact hz_wide (k' := k + 8) (sl' := sl + 48) (by omega) (by omega) rfl (hz_loc [2, 3, 4, 5, 6, 7] rfl (hj w7))
    · refine hz_aload_n (pc' := 814) (j := 5) dL_law_813 rfl rfl rfl ?_
      refine hz_iconst (pc' := 815) (v := 0) dL_law_814 rfl (by decide) ?_
      refine hz_lald (pc' := 816) g3 rfl dL_law_815 rfl (fun v9 => ?_)
      refine hz_iload (pc' := 818) (j := 0) dL_law_816 rfl rfl ?_
      refine hz_i2l (pc' := 819) dL_law_818 rfl ?_
      refine hz_lcmp (pc' := 820) dL_law_819 rfl ?_
      refine hz_ifeq (pc' := 823) (tgt := 825) dL_law_820 (by decide) rfl ?_ ?_
      · refine hz_goto (tgt := 2647) dL_law_825 (by decide) ?_
        exact hz_wide (k' := k + 8) (sl' := sl + 48) (by omega) (by omega) rfl (hz_loc [2, 3, 4, 5, 6, 7] rfl (hj w7))
      · refine hz_iconst (pc' := 824) (v := 0) dL_law_823 rfl (by decide) ?_
        exact hz_no rfl
  · refine hz_iconst (pc' := 807) (v := 0) dL_law_806 rfl (by decide) ?_
    exact hz_no rfl
def lawc_10 (xs : Nat → Int32) (Ls : Nat) (x5 : Int32) (w : MW) : Option MW :=
  hz_b (f_L_clock 0 356 w) (fun v1 w2 => hz_b (f_X10_clock 336 w2) (fun v4 w3 => hz_b (f_X10_thrown 336 w3) (fun v6 w5 => (if v6 = v1 then (if v1 = 0 then hz_let w5.2.2.1 (fun v7 => (if (lg_cmp v7 (Int32.toInt64 v4)) = 0 then some w5 else none)) else some w5) else none))))
set_option maxHeartbeats 4000000 in
set_option maxRecDepth 100000 in
theorem lct_10 {p : Program} {l : Launch} (hl : l.stackTraces = false) {e : Env} {s : State} {m : MethodId} {args : Array Value} {below : List Frame} {meth : Method} {c : Code} {ret : Option FieldType} {B : Bt} {tb : List ExceptionTableEntry} {ini : Bool} {ρ : Type} {Fi : ρ → State → Prop} {Ko : MW → Option ρ} {b Ls k sl : Nat} {xs : Nat → Int32} (hX : va_X b Ls xs s s.heap) (hbl : b < s.heap.size) (hbA : ¬ hz_A B b) (hk : k + 8 ≤ 603072 ∧ sl + 48 ≤ 7059562) {x5 : Int32} {w : MW} (hj : ∀ w', hz_J p l e (hz_rm 21 603072 7059562) s m args below meth c cL_law 9 RL ret B tb ini false Fi Ko 2647 [(0, .ref b), (1, .ref (B.1 + 0)), (2, .ref (B.1 + 336)), (3, .ref (B.1 + 356)), (4, .ref (B.1 + 357)), (5, .int x5)] [] (k + 8) (sl + 48) 358 w' (some w')) : hz_J p l e (hz_rm 21 603072 7059562) s m args below meth c cL_law 9 RL ret B tb ini false Fi Ko 828 [(0, .ref b), (1, .ref (B.1 + 0)), (2, .ref (B.1 + 336)), (3, .ref (B.1 + 356)), (4, .ref (B.1 + 357)), (5, .int x5)] [] k sl 358 w (lawc_10 xs Ls x5 w) := by
  have g1 : hz_g 358 0 10 = true := by decide +kernel
  have g2 : hz_g 358 336 11 = true := by decide +kernel
  have g3 : hz_g 358 356 23 = true := by decide +kernel
  have g4 : hz_g 358 357 24 = true := by decide +kernel
  obtain ⟨hk1, hk2⟩ := hk
  unfold lawc_10
  refine hz_aload_n (pc' := 829) (j := 1) dL_law_828 rfl rfl rfl ?_
  refine hz_aload_n (pc' := 830) (j := 3) dL_law_829 rfl rfl rfl ?_
  refine hz_cW (pc' := 833) (na := 2) (hh := [(0, 8, 11, 13)]) (av := [.ref (B.1 + 0), .ref (B.1 + 356)]) (rest := []) hq_865 hq_866 hq_0 hq_867 ⟨by decide, by decide, by decide +kernel⟩ (fun x w' h => ct_L_clock hl h) rfl rfl (Nat.le_of_ble_eq_true rfl) (by decide) ⟨by omega, by omega⟩ rfl dL_law_830 rfl (fun v1 w2 => ?_)
  refine hz_istore (pc' := 835) (L' := [(6, .int v1), (0, .ref b), (1, .ref (B.1 + 0)), (2, .ref (B.1 + 336)), (3, .ref (B.1 + 356)), (4, .ref (B.1 + 357)), (5, .int x5)]) dL_law_833 rfl (by decide) rfl ?_
  refine hz_aload_n (pc' := 836) (j := 3) dL_law_835 rfl rfl rfl ?_
  refine hz_cVi (pc' := 839) (av := []) (rest := []) vl_L_188 (fun x w' h => ct_X10_clock hl h) g2 rfl rfl (Nat.le_of_ble_eq_true rfl) (by decide) ⟨by omega, by omega⟩ rfl dL_law_836 rfl (fun v4 w3 => ?_)
  refine hz_istore (pc' := 841) (L' := [(7, .int v4), (6, .int v1), (0, .ref b), (1, .ref (B.1 + 0)), (2, .ref (B.1 + 336)), (3, .ref (B.1 + 356)), (4, .ref (B.1 + 357)), (5, .int x5)]) dL_law_839 rfl (by decide) rfl ?_
  refine hz_aload_n (pc' := 842) (j := 4) dL_law_841 rfl rfl rfl ?_
  refine hz_cVi (pc' := 845) (av := []) (rest := []) vl_L_150 (fun x w' h => ct_X10_thrown hl h) g2 rfl rfl (Nat.le_of_ble_eq_true rfl) (by decide) ⟨by omega, by omega⟩ rfl dL_law_842 rfl (fun v6 w5 => ?_)
  refine hz_iload (pc' := 847) (j := 1) dL_law_845 rfl rfl ?_
  refine hz_icmpeq (pc' := 850) (tgt := 852) dL_law_847 (by decide) rfl ?_ ?_
  · refine hz_iload (pc' := 854) (j := 1) dL_law_852 rfl rfl ?_
    refine hz_ifne (pc' := 857) (tgt := 869) dL_law_854 (by decide) rfl ?_ ?_
    · refine hz_goto (tgt := 2647) dL_law_869 (by decide) ?_
      exact hz_wide (k' := k + 8) (sl' := sl + 48) (by omega) (by omega) rfl (hz_loc [2, 3, 4, 5, 6, 7] rfl (hj w5))
    · refine hz_aload_n (pc' := 858) (j := 5) dL_law_857 rfl rfl rfl ?_
      refine hz_iconst (pc' := 859) (v := 0) dL_law_858 rfl (by decide) ?_
      refine hz_lald (pc' := 860) g3 rfl dL_law_859 rfl (fun v7 => ?_)
      refine hz_iload (pc' := 862) (j := 0) dL_law_860 rfl rfl ?_
      refine hz_i2l (pc' := 863) dL_law_862 rfl ?_
      refine hz_lcmp (pc' := 864) dL_law_863 rfl ?_
      refine hz_ifeq (pc' := 867) (tgt := 869) dL_law_864 (by decide) rfl ?_ ?_
      · refine hz_goto (tgt := 2647) dL_law_869 (by decide) ?_
        exact hz_wide (k' := k + 8) (sl' := sl + 48) (by omega) (by omega) rfl (hz_loc [2, 3, 4, 5, 6, 7] rfl (hj w5))
      · refine hz_iconst (pc' := 868) (v := 0) dL_law_867 rfl (by decide) ?_
        exact hz_no rfl
  · refine hz_iconst (pc' := 851) (v := 0) dL_law_850 rfl (by decide) ?_
    exact hz_no rfl
def lawc_11 (xs : Nat → Int32) (Ls : Nat) (x5 : Int32) (w : MW) : Option MW :=
  hz_lds xs Ls (x5 + 1) (fun v1 => hz_b (f_L_temperature 0 v1 356 w) (fun v2 w3 => hz_lds xs Ls (x5 + 1) (fun v4 => hz_b (f_X10_temperature 336 v4 w3) (fun v6 w5 => hz_b (f_X10_thrown 336 w5) (fun v8 w7 => (if v8 = v2 then (if v2 = 0 then hz_let w7.2.2.1 (fun v9 => (if (lg_cmp v9 (Int32.toInt64 v6)) = 0 then some w7 else none)) else some w7) else none))))))
set_option maxHeartbeats 4000000 in
set_option maxRecDepth 100000 in
theorem lct_11 {p : Program} {l : Launch} (hl : l.stackTraces = false) {e : Env} {s : State} {m : MethodId} {args : Array Value} {below : List Frame} {meth : Method} {c : Code} {ret : Option FieldType} {B : Bt} {tb : List ExceptionTableEntry} {ini : Bool} {ρ : Type} {Fi : ρ → State → Prop} {Ko : MW → Option ρ} {b Ls k sl : Nat} {xs : Nat → Int32} (hX : va_X b Ls xs s s.heap) (hbl : b < s.heap.size) (hbA : ¬ hz_A B b) (hk : k + 8 ≤ 603072 ∧ sl + 48 ≤ 7059562) {x5 : Int32} {w : MW} (hj : ∀ w', hz_J p l e (hz_rm 21 603072 7059562) s m args below meth c cL_law 9 RL ret B tb ini false Fi Ko 2647 [(0, .ref b), (1, .ref (B.1 + 0)), (2, .ref (B.1 + 336)), (3, .ref (B.1 + 356)), (4, .ref (B.1 + 357)), (5, .int x5)] [] (k + 8) (sl + 48) 358 w' (some w')) : hz_J p l e (hz_rm 21 603072 7059562) s m args below meth c cL_law 9 RL ret B tb ini false Fi Ko 872 [(0, .ref b), (1, .ref (B.1 + 0)), (2, .ref (B.1 + 336)), (3, .ref (B.1 + 356)), (4, .ref (B.1 + 357)), (5, .int x5)] [] k sl 358 w (lawc_11 xs Ls x5 w) := by
  have g1 : hz_g 358 0 10 = true := by decide +kernel
  have g2 : hz_g 358 336 11 = true := by decide +kernel
  have g3 : hz_g 358 356 23 = true := by decide +kernel
  have g4 : hz_g 358 357 24 = true := by decide +kernel
  obtain ⟨hk1, hk2⟩ := hk
  unfold lawc_11
  refine hz_aload_n (pc' := 873) (j := 1) dL_law_872 rfl rfl rfl ?_
  refine hz_aload_n (pc' := 874) (j := 0) dL_law_873 rfl rfl rfl ?_
  refine hz_iload (pc' := 876) (j := 5) dL_law_874 rfl rfl ?_
  refine hz_iconst (pc' := 877) (v := 1) dL_law_876 rfl (by decide) ?_
  refine hz_iadd (pc' := 878) dL_law_877 rfl ?_
  refine hz_sld (pc' := 879) hX hbl hbA dL_law_878 rfl (fun v1 => ?_)
  refine hz_aload_n (pc' := 880) (j := 3) dL_law_879 rfl rfl rfl ?_
  refine hz_cW (pc' := 883) (na := 3) (hh := [(0, 9, 12, 13), (0, 9, 15, 19)]) (av := [.ref (B.1 + 0), .int v1, .ref (B.1 + 356)]) (rest := []) hq_872 hq_873 hq_0 hq_874 ⟨by decide, by decide, by decide +kernel⟩ (fun x w' h => ct_L_temperature hl h) rfl rfl (Nat.le_of_ble_eq_true rfl) (by decide) ⟨by omega, by omega⟩ rfl dL_law_880 rfl (fun v2 w3 => ?_)
  refine hz_istore (pc' := 885) (L' := [(6, .int v2), (0, .ref b), (1, .ref (B.1 + 0)), (2, .ref (B.1 + 336)), (3, .ref (B.1 + 356)), (4, .ref (B.1 + 357)), (5, .int x5)]) dL_law_883 rfl (by decide) rfl ?_
  refine hz_aload_n (pc' := 886) (j := 3) dL_law_885 rfl rfl rfl ?_
  refine hz_aload_n (pc' := 887) (j := 1) dL_law_886 rfl rfl rfl ?_
  refine hz_iload (pc' := 889) (j := 6) dL_law_887 rfl rfl ?_
  refine hz_iconst (pc' := 890) (v := 1) dL_law_889 rfl (by decide) ?_
  refine hz_iadd (pc' := 891) dL_law_890 rfl ?_
  refine hz_sld (pc' := 892) hX hbl hbA dL_law_891 rfl (fun v4 => ?_)
  refine hz_cVi (pc' := 895) (av := [.int v4]) (rest := []) vl_L_191 (fun x w' h => ct_X10_temperature hl h) g2 rfl rfl (Nat.le_of_ble_eq_true rfl) (by decide) ⟨by omega, by omega⟩ rfl dL_law_892 rfl (fun v6 w5 => ?_)
  refine hz_istore (pc' := 897) (L' := [(7, .int v6), (6, .int v2), (0, .ref b), (1, .ref (B.1 + 0)), (2, .ref (B.1 + 336)), (3, .ref (B.1 + 356)), (4, .ref (B.1 + 357)), (5, .int x5)]) dL_law_895 rfl (by decide) rfl ?_
  refine hz_aload_n (pc' := 898) (j := 4) dL_law_897 rfl rfl rfl ?_
  refine hz_cVi (pc' := 901) (av := []) (rest := []) vl_L_150 (fun x w' h => ct_X10_thrown hl h) g2 rfl rfl (Nat.le_of_ble_eq_true rfl) (by decide) ⟨by omega, by omega⟩ rfl dL_law_898 rfl (fun v8 w7 => ?_)
  refine hz_iload (pc' := 903) (j := 1) dL_law_901 rfl rfl ?_
  refine hz_icmpeq (pc' := 906) (tgt := 908) dL_law_903 (by decide) rfl ?_ ?_
  · refine hz_iload (pc' := 910) (j := 1) dL_law_908 rfl rfl ?_
    refine hz_ifne (pc' := 913) (tgt := 925) dL_law_910 (by decide) rfl ?_ ?_
    · refine hz_goto (tgt := 2647) dL_law_925 (by decide) ?_
      exact hz_wide (k' := k + 8) (sl' := sl + 48) (by omega) (by omega) rfl (hz_loc [2, 3, 4, 5, 6, 7] rfl (hj w7))
    · refine hz_aload_n (pc' := 914) (j := 5) dL_law_913 rfl rfl rfl ?_
      refine hz_iconst (pc' := 915) (v := 0) dL_law_914 rfl (by decide) ?_
      refine hz_lald (pc' := 916) g3 rfl dL_law_915 rfl (fun v9 => ?_)
      refine hz_iload (pc' := 918) (j := 0) dL_law_916 rfl rfl ?_
      refine hz_i2l (pc' := 919) dL_law_918 rfl ?_
      refine hz_lcmp (pc' := 920) dL_law_919 rfl ?_
      refine hz_ifeq (pc' := 923) (tgt := 925) dL_law_920 (by decide) rfl ?_ ?_
      · refine hz_goto (tgt := 2647) dL_law_925 (by decide) ?_
        exact hz_wide (k' := k + 8) (sl' := sl + 48) (by omega) (by omega) rfl (hz_loc [2, 3, 4, 5, 6, 7] rfl (hj w7))
      · refine hz_iconst (pc' := 924) (v := 0) dL_law_923 rfl (by decide) ?_
        exact hz_no rfl
  · refine hz_iconst (pc' := 907) (v := 0) dL_law_906 rfl (by decide) ?_
    exact hz_no rfl
def lawc_12 (xs : Nat → Int32) (Ls : Nat) (x5 : Int32) (w : MW) : Option MW :=
  hz_lds xs Ls (x5 + 1) (fun v1 => hz_b (f_L_level 0 v1 356 w) (fun v2 w3 => hz_lds xs Ls (x5 + 1) (fun v4 => hz_b (f_X10_level 336 v4 w3) (fun v6 w5 => hz_b (f_X10_thrown 336 w5) (fun v8 w7 => (if v8 = v2 then (if v2 = 0 then hz_let w7.2.2.1 (fun v9 => (if (lg_cmp v9 (Int32.toInt64 v6)) = 0 then some w7 else none)) else some w7) else none))))))
set_option maxHeartbeats 4000000 in
set_option maxRecDepth 100000 in
theorem lct_12 {p : Program} {l : Launch} (hl : l.stackTraces = false) {e : Env} {s : State} {m : MethodId} {args : Array Value} {below : List Frame} {meth : Method} {c : Code} {ret : Option FieldType} {B : Bt} {tb : List ExceptionTableEntry} {ini : Bool} {ρ : Type} {Fi : ρ → State → Prop} {Ko : MW → Option ρ} {b Ls k sl : Nat} {xs : Nat → Int32} (hX : va_X b Ls xs s s.heap) (hbl : b < s.heap.size) (hbA : ¬ hz_A B b) (hk : k + 8 ≤ 603072 ∧ sl + 48 ≤ 7059562) {x5 : Int32} {w : MW} (hj : ∀ w', hz_J p l e (hz_rm 21 603072 7059562) s m args below meth c cL_law 9 RL ret B tb ini false Fi Ko 2647 [(0, .ref b), (1, .ref (B.1 + 0)), (2, .ref (B.1 + 336)), (3, .ref (B.1 + 356)), (4, .ref (B.1 + 357)), (5, .int x5)] [] (k + 8) (sl + 48) 358 w' (some w')) : hz_J p l e (hz_rm 21 603072 7059562) s m args below meth c cL_law 9 RL ret B tb ini false Fi Ko 928 [(0, .ref b), (1, .ref (B.1 + 0)), (2, .ref (B.1 + 336)), (3, .ref (B.1 + 356)), (4, .ref (B.1 + 357)), (5, .int x5)] [] k sl 358 w (lawc_12 xs Ls x5 w) := by
  have g1 : hz_g 358 0 10 = true := by decide +kernel
  have g2 : hz_g 358 336 11 = true := by decide +kernel
  have g3 : hz_g 358 356 23 = true := by decide +kernel
  have g4 : hz_g 358 357 24 = true := by decide +kernel
  obtain ⟨hk1, hk2⟩ := hk
  unfold lawc_12
  refine hz_aload_n (pc' := 929) (j := 1) dL_law_928 rfl rfl rfl ?_
  refine hz_aload_n (pc' := 930) (j := 0) dL_law_929 rfl rfl rfl ?_
  refine hz_iload (pc' := 932) (j := 5) dL_law_930 rfl rfl ?_
  refine hz_iconst (pc' := 933) (v := 1) dL_law_932 rfl (by decide) ?_
  refine hz_iadd (pc' := 934) dL_law_933 rfl ?_
  refine hz_sld (pc' := 935) hX hbl hbA dL_law_934 rfl (fun v1 => ?_)
  refine hz_aload_n (pc' := 936) (j := 3) dL_law_935 rfl rfl rfl ?_
  refine hz_cW (pc' := 939) (na := 3) (hh := [(0, 9, 12, 13), (0, 9, 15, 19)]) (av := [.ref (B.1 + 0), .int v1, .ref (B.1 + 356)]) (rest := []) hq_879 hq_880 hq_0 hq_881 ⟨by decide, by decide, by decide +kernel⟩ (fun x w' h => ct_L_level hl h) rfl rfl (Nat.le_of_ble_eq_true rfl) (by decide) ⟨by omega, by omega⟩ rfl dL_law_936 rfl (fun v2 w3 => ?_)
  refine hz_istore (pc' := 941) (L' := [(6, .int v2), (0, .ref b), (1, .ref (B.1 + 0)), (2, .ref (B.1 + 336)), (3, .ref (B.1 + 356)), (4, .ref (B.1 + 357)), (5, .int x5)]) dL_law_939 rfl (by decide) rfl ?_
  refine hz_aload_n (pc' := 942) (j := 3) dL_law_941 rfl rfl rfl ?_
  refine hz_aload_n (pc' := 943) (j := 1) dL_law_942 rfl rfl rfl ?_
  refine hz_iload (pc' := 945) (j := 6) dL_law_943 rfl rfl ?_
  refine hz_iconst (pc' := 946) (v := 1) dL_law_945 rfl (by decide) ?_
  refine hz_iadd (pc' := 947) dL_law_946 rfl ?_
  refine hz_sld (pc' := 948) hX hbl hbA dL_law_947 rfl (fun v4 => ?_)
  refine hz_cVi (pc' := 951) (av := [.int v4]) (rest := []) vl_L_194 (fun x w' h => ct_X10_level hl h) g2 rfl rfl (Nat.le_of_ble_eq_true rfl) (by decide) ⟨by omega, by omega⟩ rfl dL_law_948 rfl (fun v6 w5 => ?_)
  refine hz_istore (pc' := 953) (L' := [(7, .int v6), (6, .int v2), (0, .ref b), (1, .ref (B.1 + 0)), (2, .ref (B.1 + 336)), (3, .ref (B.1 + 356)), (4, .ref (B.1 + 357)), (5, .int x5)]) dL_law_951 rfl (by decide) rfl ?_
  refine hz_aload_n (pc' := 954) (j := 4) dL_law_953 rfl rfl rfl ?_
  refine hz_cVi (pc' := 957) (av := []) (rest := []) vl_L_150 (fun x w' h => ct_X10_thrown hl h) g2 rfl rfl (Nat.le_of_ble_eq_true rfl) (by decide) ⟨by omega, by omega⟩ rfl dL_law_954 rfl (fun v8 w7 => ?_)
  refine hz_iload (pc' := 959) (j := 1) dL_law_957 rfl rfl ?_
  refine hz_icmpeq (pc' := 962) (tgt := 964) dL_law_959 (by decide) rfl ?_ ?_
  · refine hz_iload (pc' := 966) (j := 1) dL_law_964 rfl rfl ?_
    refine hz_ifne (pc' := 969) (tgt := 981) dL_law_966 (by decide) rfl ?_ ?_
    · refine hz_goto (tgt := 2647) dL_law_981 (by decide) ?_
      exact hz_wide (k' := k + 8) (sl' := sl + 48) (by omega) (by omega) rfl (hz_loc [2, 3, 4, 5, 6, 7] rfl (hj w7))
    · refine hz_aload_n (pc' := 970) (j := 5) dL_law_969 rfl rfl rfl ?_
      refine hz_iconst (pc' := 971) (v := 0) dL_law_970 rfl (by decide) ?_
      refine hz_lald (pc' := 972) g3 rfl dL_law_971 rfl (fun v9 => ?_)
      refine hz_iload (pc' := 974) (j := 0) dL_law_972 rfl rfl ?_
      refine hz_i2l (pc' := 975) dL_law_974 rfl ?_
      refine hz_lcmp (pc' := 976) dL_law_975 rfl ?_
      refine hz_ifeq (pc' := 979) (tgt := 981) dL_law_976 (by decide) rfl ?_ ?_
      · refine hz_goto (tgt := 2647) dL_law_981 (by decide) ?_
        exact hz_wide (k' := k + 8) (sl' := sl + 48) (by omega) (by omega) rfl (hz_loc [2, 3, 4, 5, 6, 7] rfl (hj w7))
      · refine hz_iconst (pc' := 980) (v := 0) dL_law_979 rfl (by decide) ?_
        exact hz_no rfl
  · refine hz_iconst (pc' := 963) (v := 0) dL_law_962 rfl (by decide) ?_
    exact hz_no rfl
def lawc_13 (xs : Nat → Int32) (Ls : Nat) (x5 : Int32) (w : MW) : Option MW :=
  hz_lds xs Ls (x5 + 1) (fun v1 => hz_b (f_L_energy 0 v1 356 w) (fun v2 w3 => hz_lds xs Ls (x5 + 1) (fun v4 => hz_b (f_X10_energy 336 v4 w3) (fun v6 w5 => hz_b (f_X10_thrown 336 w5) (fun v8 w7 => (if v8 = v2 then (if v2 = 0 then hz_let w7.2.2.1 (fun v9 => (if (lg_cmp v9 (Int32.toInt64 v6)) = 0 then some w7 else none)) else some w7) else none))))))
set_option maxHeartbeats 4000000 in
set_option maxRecDepth 100000 in
theorem lct_13 {p : Program} {l : Launch} (hl : l.stackTraces = false) {e : Env} {s : State} {m : MethodId} {args : Array Value} {below : List Frame} {meth : Method} {c : Code} {ret : Option FieldType} {B : Bt} {tb : List ExceptionTableEntry} {ini : Bool} {ρ : Type} {Fi : ρ → State → Prop} {Ko : MW → Option ρ} {b Ls k sl : Nat} {xs : Nat → Int32} (hX : va_X b Ls xs s s.heap) (hbl : b < s.heap.size) (hbA : ¬ hz_A B b) (hk : k + 8 ≤ 603072 ∧ sl + 48 ≤ 7059562) {x5 : Int32} {w : MW} (hj : ∀ w', hz_J p l e (hz_rm 21 603072 7059562) s m args below meth c cL_law 9 RL ret B tb ini false Fi Ko 2647 [(0, .ref b), (1, .ref (B.1 + 0)), (2, .ref (B.1 + 336)), (3, .ref (B.1 + 356)), (4, .ref (B.1 + 357)), (5, .int x5)] [] (k + 8) (sl + 48) 358 w' (some w')) : hz_J p l e (hz_rm 21 603072 7059562) s m args below meth c cL_law 9 RL ret B tb ini false Fi Ko 984 [(0, .ref b), (1, .ref (B.1 + 0)), (2, .ref (B.1 + 336)), (3, .ref (B.1 + 356)), (4, .ref (B.1 + 357)), (5, .int x5)] [] k sl 358 w (lawc_13 xs Ls x5 w) := by
  have g1 : hz_g 358 0 10 = true := by decide +kernel
  have g2 : hz_g 358 336 11 = true := by decide +kernel
  have g3 : hz_g 358 356 23 = true := by decide +kernel
  have g4 : hz_g 358 357 24 = true := by decide +kernel
  obtain ⟨hk1, hk2⟩ := hk
  unfold lawc_13
  refine hz_aload_n (pc' := 985) (j := 1) dL_law_984 rfl rfl rfl ?_
  refine hz_aload_n (pc' := 986) (j := 0) dL_law_985 rfl rfl rfl ?_
  refine hz_iload (pc' := 988) (j := 5) dL_law_986 rfl rfl ?_
  refine hz_iconst (pc' := 989) (v := 1) dL_law_988 rfl (by decide) ?_
  refine hz_iadd (pc' := 990) dL_law_989 rfl ?_
  refine hz_sld (pc' := 991) hX hbl hbA dL_law_990 rfl (fun v1 => ?_)
  refine hz_aload_n (pc' := 992) (j := 3) dL_law_991 rfl rfl rfl ?_
  refine hz_cW (pc' := 995) (na := 3) (hh := [(0, 9, 12, 13), (0, 9, 15, 19)]) (av := [.ref (B.1 + 0), .int v1, .ref (B.1 + 356)]) (rest := []) hq_886 hq_887 hq_0 hq_888 ⟨by decide, by decide, by decide +kernel⟩ (fun x w' h => ct_L_energy hl h) rfl rfl (Nat.le_of_ble_eq_true rfl) (by decide) ⟨by omega, by omega⟩ rfl dL_law_992 rfl (fun v2 w3 => ?_)
  refine hz_istore (pc' := 997) (L' := [(6, .int v2), (0, .ref b), (1, .ref (B.1 + 0)), (2, .ref (B.1 + 336)), (3, .ref (B.1 + 356)), (4, .ref (B.1 + 357)), (5, .int x5)]) dL_law_995 rfl (by decide) rfl ?_
  refine hz_aload_n (pc' := 998) (j := 3) dL_law_997 rfl rfl rfl ?_
  refine hz_aload_n (pc' := 999) (j := 1) dL_law_998 rfl rfl rfl ?_
  refine hz_iload (pc' := 1001) (j := 6) dL_law_999 rfl rfl ?_
  refine hz_iconst (pc' := 1002) (v := 1) dL_law_1001 rfl (by decide) ?_
  refine hz_iadd (pc' := 1003) dL_law_1002 rfl ?_
  refine hz_sld (pc' := 1004) hX hbl hbA dL_law_1003 rfl (fun v4 => ?_)
  refine hz_cVi (pc' := 1007) (av := [.int v4]) (rest := []) vl_L_197 (fun x w' h => ct_X10_energy hl h) g2 rfl rfl (Nat.le_of_ble_eq_true rfl) (by decide) ⟨by omega, by omega⟩ rfl dL_law_1004 rfl (fun v6 w5 => ?_)
  refine hz_istore (pc' := 1009) (L' := [(7, .int v6), (6, .int v2), (0, .ref b), (1, .ref (B.1 + 0)), (2, .ref (B.1 + 336)), (3, .ref (B.1 + 356)), (4, .ref (B.1 + 357)), (5, .int x5)]) dL_law_1007 rfl (by decide) rfl ?_
  refine hz_aload_n (pc' := 1010) (j := 4) dL_law_1009 rfl rfl rfl ?_
  refine hz_cVi (pc' := 1013) (av := []) (rest := []) vl_L_150 (fun x w' h => ct_X10_thrown hl h) g2 rfl rfl (Nat.le_of_ble_eq_true rfl) (by decide) ⟨by omega, by omega⟩ rfl dL_law_1010 rfl (fun v8 w7 => ?_)
  refine hz_iload (pc' := 1015) (j := 1) dL_law_1013 rfl rfl ?_
  refine hz_icmpeq (pc' := 1018) (tgt := 1020) dL_law_1015 (by decide) rfl ?_ ?_
  · refine hz_iload (pc' := 1022) (j := 1) dL_law_1020 rfl rfl ?_
    refine hz_ifne (pc' := 1025) (tgt := 1037) dL_law_1022 (by decide) rfl ?_ ?_
    · refine hz_goto (tgt := 2647) dL_law_1037 (by decide) ?_
      exact hz_wide (k' := k + 8) (sl' := sl + 48) (by omega) (by omega) rfl (hz_loc [2, 3, 4, 5, 6, 7] rfl (hj w7))
    · refine hz_aload_n (pc' := 1026) (j := 5) dL_law_1025 rfl rfl rfl ?_
      refine hz_iconst (pc' := 1027) (v := 0) dL_law_1026 rfl (by decide) ?_
      refine hz_lald (pc' := 1028) g3 rfl dL_law_1027 rfl (fun v9 => ?_)
      refine hz_iload (pc' := 1030) (j := 0) dL_law_1028 rfl rfl ?_
      refine hz_i2l (pc' := 1031) dL_law_1030 rfl ?_
      refine hz_lcmp (pc' := 1032) dL_law_1031 rfl ?_
      refine hz_ifeq (pc' := 1035) (tgt := 1037) dL_law_1032 (by decide) rfl ?_ ?_
      · refine hz_goto (tgt := 2647) dL_law_1037 (by decide) ?_
        exact hz_wide (k' := k + 8) (sl' := sl + 48) (by omega) (by omega) rfl (hz_loc [2, 3, 4, 5, 6, 7] rfl (hj w7))
      · refine hz_iconst (pc' := 1036) (v := 0) dL_law_1035 rfl (by decide) ?_
        exact hz_no rfl
  · refine hz_iconst (pc' := 1019) (v := 0) dL_law_1018 rfl (by decide) ?_
    exact hz_no rfl
def lawc_14 (xs : Nat → Int32) (Ls : Nat) (x5 : Int32) (w : MW) : Option MW :=
  hz_lds xs Ls (x5 + 1) (fun v1 => hz_lds xs Ls (x5 + 2) (fun v2 => hz_b (f_L_domainValue 0 v1 v2 356 w) (fun v3 w4 => hz_lds xs Ls (x5 + 1) (fun v5 => hz_lds xs Ls (x5 + 2) (fun v6 => hz_b (f_X10_domainValue 336 v5 v6 w4) (fun v8 w7 => hz_b (f_X10_thrown 336 w7) (fun v10 w9 => (if v10 = v3 then (if v3 = 0 then hz_let w9.2.2.1 (fun v11 => (if (lg_cmp v11 (Int32.toInt64 v8)) = 0 then some w9 else none)) else some w9) else none))))))))
set_option maxHeartbeats 4000000 in
set_option maxRecDepth 100000 in
theorem lct_14 {p : Program} {l : Launch} (hl : l.stackTraces = false) {e : Env} {s : State} {m : MethodId} {args : Array Value} {below : List Frame} {meth : Method} {c : Code} {ret : Option FieldType} {B : Bt} {tb : List ExceptionTableEntry} {ini : Bool} {ρ : Type} {Fi : ρ → State → Prop} {Ko : MW → Option ρ} {b Ls k sl : Nat} {xs : Nat → Int32} (hX : va_X b Ls xs s s.heap) (hbl : b < s.heap.size) (hbA : ¬ hz_A B b) (hk : k + 8 ≤ 603072 ∧ sl + 48 ≤ 7059562) {x5 : Int32} {w : MW} (hj : ∀ w', hz_J p l e (hz_rm 21 603072 7059562) s m args below meth c cL_law 9 RL ret B tb ini false Fi Ko 2647 [(0, .ref b), (1, .ref (B.1 + 0)), (2, .ref (B.1 + 336)), (3, .ref (B.1 + 356)), (4, .ref (B.1 + 357)), (5, .int x5)] [] (k + 8) (sl + 48) 358 w' (some w')) : hz_J p l e (hz_rm 21 603072 7059562) s m args below meth c cL_law 9 RL ret B tb ini false Fi Ko 1040 [(0, .ref b), (1, .ref (B.1 + 0)), (2, .ref (B.1 + 336)), (3, .ref (B.1 + 356)), (4, .ref (B.1 + 357)), (5, .int x5)] [] k sl 358 w (lawc_14 xs Ls x5 w) := by
  have g1 : hz_g 358 0 10 = true := by decide +kernel
  have g2 : hz_g 358 336 11 = true := by decide +kernel
  have g3 : hz_g 358 356 23 = true := by decide +kernel
  have g4 : hz_g 358 357 24 = true := by decide +kernel
  obtain ⟨hk1, hk2⟩ := hk
  unfold lawc_14
  refine hz_aload_n (pc' := 1041) (j := 1) dL_law_1040 rfl rfl rfl ?_
  refine hz_aload_n (pc' := 1042) (j := 0) dL_law_1041 rfl rfl rfl ?_
  refine hz_iload (pc' := 1044) (j := 5) dL_law_1042 rfl rfl ?_
  refine hz_iconst (pc' := 1045) (v := 1) dL_law_1044 rfl (by decide) ?_
  refine hz_iadd (pc' := 1046) dL_law_1045 rfl ?_
  refine hz_sld (pc' := 1047) hX hbl hbA dL_law_1046 rfl (fun v1 => ?_)
  refine hz_aload_n (pc' := 1048) (j := 0) dL_law_1047 rfl rfl rfl ?_
  refine hz_iload (pc' := 1050) (j := 5) dL_law_1048 rfl rfl ?_
  refine hz_iconst (pc' := 1051) (v := 2) dL_law_1050 rfl (by decide) ?_
  refine hz_iadd (pc' := 1052) dL_law_1051 rfl ?_
  refine hz_sld (pc' := 1053) hX hbl hbA dL_law_1052 rfl (fun v2 => ?_)
  refine hz_aload_n (pc' := 1054) (j := 3) dL_law_1053 rfl rfl rfl ?_
  refine hz_cW (pc' := 1057) (na := 4) (hh := [(0, 10, 13, 13), (0, 10, 17, 19)]) (av := [.ref (B.1 + 0), .int v1, .int v2, .ref (B.1 + 356)]) (rest := []) hq_893 hq_894 hq_0 hq_895 ⟨by decide, by decide, by decide +kernel⟩ (fun x w' h => ct_L_domainValue hl h) rfl rfl (Nat.le_of_ble_eq_true rfl) (by decide) ⟨by omega, by omega⟩ rfl dL_law_1054 rfl (fun v3 w4 => ?_)
  refine hz_istore (pc' := 1059) (L' := [(6, .int v3), (0, .ref b), (1, .ref (B.1 + 0)), (2, .ref (B.1 + 336)), (3, .ref (B.1 + 356)), (4, .ref (B.1 + 357)), (5, .int x5)]) dL_law_1057 rfl (by decide) rfl ?_
  refine hz_aload_n (pc' := 1060) (j := 3) dL_law_1059 rfl rfl rfl ?_
  refine hz_aload_n (pc' := 1061) (j := 1) dL_law_1060 rfl rfl rfl ?_
  refine hz_iload (pc' := 1063) (j := 6) dL_law_1061 rfl rfl ?_
  refine hz_iconst (pc' := 1064) (v := 1) dL_law_1063 rfl (by decide) ?_
  refine hz_iadd (pc' := 1065) dL_law_1064 rfl ?_
  refine hz_sld (pc' := 1066) hX hbl hbA dL_law_1065 rfl (fun v5 => ?_)
  refine hz_aload_n (pc' := 1067) (j := 1) dL_law_1066 rfl rfl rfl ?_
  refine hz_iload (pc' := 1069) (j := 6) dL_law_1067 rfl rfl ?_
  refine hz_iconst (pc' := 1070) (v := 2) dL_law_1069 rfl (by decide) ?_
  refine hz_iadd (pc' := 1071) dL_law_1070 rfl ?_
  refine hz_sld (pc' := 1072) hX hbl hbA dL_law_1071 rfl (fun v6 => ?_)
  refine hz_cVi (pc' := 1075) (av := [.int v5, .int v6]) (rest := []) vl_L_200 (fun x w' h => ct_X10_domainValue hl h) g2 rfl rfl (Nat.le_of_ble_eq_true rfl) (by decide) ⟨by omega, by omega⟩ rfl dL_law_1072 rfl (fun v8 w7 => ?_)
  refine hz_istore (pc' := 1077) (L' := [(7, .int v8), (6, .int v3), (0, .ref b), (1, .ref (B.1 + 0)), (2, .ref (B.1 + 336)), (3, .ref (B.1 + 356)), (4, .ref (B.1 + 357)), (5, .int x5)]) dL_law_1075 rfl (by decide) rfl ?_
  refine hz_aload_n (pc' := 1078) (j := 4) dL_law_1077 rfl rfl rfl ?_
  refine hz_cVi (pc' := 1081) (av := []) (rest := []) vl_L_150 (fun x w' h => ct_X10_thrown hl h) g2 rfl rfl (Nat.le_of_ble_eq_true rfl) (by decide) ⟨by omega, by omega⟩ rfl dL_law_1078 rfl (fun v10 w9 => ?_)
  refine hz_iload (pc' := 1083) (j := 1) dL_law_1081 rfl rfl ?_
  refine hz_icmpeq (pc' := 1086) (tgt := 1088) dL_law_1083 (by decide) rfl ?_ ?_
  · refine hz_iload (pc' := 1090) (j := 1) dL_law_1088 rfl rfl ?_
    refine hz_ifne (pc' := 1093) (tgt := 1105) dL_law_1090 (by decide) rfl ?_ ?_
    · refine hz_goto (tgt := 2647) dL_law_1105 (by decide) ?_
      exact hz_wide (k' := k + 8) (sl' := sl + 48) (by omega) (by omega) rfl (hz_loc [2, 3, 4, 5, 6, 7] rfl (hj w9))
    · refine hz_aload_n (pc' := 1094) (j := 5) dL_law_1093 rfl rfl rfl ?_
      refine hz_iconst (pc' := 1095) (v := 0) dL_law_1094 rfl (by decide) ?_
      refine hz_lald (pc' := 1096) g3 rfl dL_law_1095 rfl (fun v11 => ?_)
      refine hz_iload (pc' := 1098) (j := 0) dL_law_1096 rfl rfl ?_
      refine hz_i2l (pc' := 1099) dL_law_1098 rfl ?_
      refine hz_lcmp (pc' := 1100) dL_law_1099 rfl ?_
      refine hz_ifeq (pc' := 1103) (tgt := 1105) dL_law_1100 (by decide) rfl ?_ ?_
      · refine hz_goto (tgt := 2647) dL_law_1105 (by decide) ?_
        exact hz_wide (k' := k + 8) (sl' := sl + 48) (by omega) (by omega) rfl (hz_loc [2, 3, 4, 5, 6, 7] rfl (hj w9))
      · refine hz_iconst (pc' := 1104) (v := 0) dL_law_1103 rfl (by decide) ?_
        exact hz_no rfl
  · refine hz_iconst (pc' := 1087) (v := 0) dL_law_1086 rfl (by decide) ?_
    exact hz_no rfl
def lawc_15 (xs : Nat → Int32) (Ls : Nat) (x5 : Int32) (w : MW) : Option MW :=
  hz_lds xs Ls (x5 + 1) (fun v1 => hz_lds xs Ls (x5 + 2) (fun v2 => hz_b (f_L_jobOn 0 v1 v2 356 w) (fun v3 w4 => hz_lds xs Ls (x5 + 1) (fun v5 => hz_lds xs Ls (x5 + 2) (fun v6 => hz_b (f_X10_jobOn 336 v5 v6 w4) (fun v8 w7 => hz_b (f_X10_thrown 336 w7) (fun v10 w9 => (if v10 = v3 then (if v3 = 0 then hz_let w9.2.2.1 (fun v11 => (if (lg_cmp v11 (Int32.toInt64 v8)) = 0 then some w9 else none)) else some w9) else none))))))))
set_option maxHeartbeats 4000000 in
set_option maxRecDepth 100000 in
theorem lct_15 {p : Program} {l : Launch} (hl : l.stackTraces = false) {e : Env} {s : State} {m : MethodId} {args : Array Value} {below : List Frame} {meth : Method} {c : Code} {ret : Option FieldType} {B : Bt} {tb : List ExceptionTableEntry} {ini : Bool} {ρ : Type} {Fi : ρ → State → Prop} {Ko : MW → Option ρ} {b Ls k sl : Nat} {xs : Nat → Int32} (hX : va_X b Ls xs s s.heap) (hbl : b < s.heap.size) (hbA : ¬ hz_A B b) (hk : k + 8 ≤ 603072 ∧ sl + 48 ≤ 7059562) {x5 : Int32} {w : MW} (hj : ∀ w', hz_J p l e (hz_rm 21 603072 7059562) s m args below meth c cL_law 9 RL ret B tb ini false Fi Ko 2647 [(0, .ref b), (1, .ref (B.1 + 0)), (2, .ref (B.1 + 336)), (3, .ref (B.1 + 356)), (4, .ref (B.1 + 357)), (5, .int x5)] [] (k + 8) (sl + 48) 358 w' (some w')) : hz_J p l e (hz_rm 21 603072 7059562) s m args below meth c cL_law 9 RL ret B tb ini false Fi Ko 1108 [(0, .ref b), (1, .ref (B.1 + 0)), (2, .ref (B.1 + 336)), (3, .ref (B.1 + 356)), (4, .ref (B.1 + 357)), (5, .int x5)] [] k sl 358 w (lawc_15 xs Ls x5 w) := by
  have g1 : hz_g 358 0 10 = true := by decide +kernel
  have g2 : hz_g 358 336 11 = true := by decide +kernel
  have g3 : hz_g 358 356 23 = true := by decide +kernel
  have g4 : hz_g 358 357 24 = true := by decide +kernel
  obtain ⟨hk1, hk2⟩ := hk
  unfold lawc_15
  refine hz_aload_n (pc' := 1109) (j := 1) dL_law_1108 rfl rfl rfl ?_
  refine hz_aload_n (pc' := 1110) (j := 0) dL_law_1109 rfl rfl rfl ?_
  refine hz_iload (pc' := 1112) (j := 5) dL_law_1110 rfl rfl ?_
  refine hz_iconst (pc' := 1113) (v := 1) dL_law_1112 rfl (by decide) ?_
  refine hz_iadd (pc' := 1114) dL_law_1113 rfl ?_
  refine hz_sld (pc' := 1115) hX hbl hbA dL_law_1114 rfl (fun v1 => ?_)
  refine hz_aload_n (pc' := 1116) (j := 0) dL_law_1115 rfl rfl rfl ?_
  refine hz_iload (pc' := 1118) (j := 5) dL_law_1116 rfl rfl ?_
  refine hz_iconst (pc' := 1119) (v := 2) dL_law_1118 rfl (by decide) ?_
  refine hz_iadd (pc' := 1120) dL_law_1119 rfl ?_
  refine hz_sld (pc' := 1121) hX hbl hbA dL_law_1120 rfl (fun v2 => ?_)
  refine hz_aload_n (pc' := 1122) (j := 3) dL_law_1121 rfl rfl rfl ?_
  refine hz_cW (pc' := 1125) (na := 4) (hh := [(0, 10, 13, 13), (0, 10, 17, 19)]) (av := [.ref (B.1 + 0), .int v1, .int v2, .ref (B.1 + 356)]) (rest := []) hq_901 hq_902 hq_0 hq_903 ⟨by decide, by decide, by decide +kernel⟩ (fun x w' h => ct_L_jobOn hl h) rfl rfl (Nat.le_of_ble_eq_true rfl) (by decide) ⟨by omega, by omega⟩ rfl dL_law_1122 rfl (fun v3 w4 => ?_)
  refine hz_istore (pc' := 1127) (L' := [(6, .int v3), (0, .ref b), (1, .ref (B.1 + 0)), (2, .ref (B.1 + 336)), (3, .ref (B.1 + 356)), (4, .ref (B.1 + 357)), (5, .int x5)]) dL_law_1125 rfl (by decide) rfl ?_
  refine hz_aload_n (pc' := 1128) (j := 3) dL_law_1127 rfl rfl rfl ?_
  refine hz_aload_n (pc' := 1129) (j := 1) dL_law_1128 rfl rfl rfl ?_
  refine hz_iload (pc' := 1131) (j := 6) dL_law_1129 rfl rfl ?_
  refine hz_iconst (pc' := 1132) (v := 1) dL_law_1131 rfl (by decide) ?_
  refine hz_iadd (pc' := 1133) dL_law_1132 rfl ?_
  refine hz_sld (pc' := 1134) hX hbl hbA dL_law_1133 rfl (fun v5 => ?_)
  refine hz_aload_n (pc' := 1135) (j := 1) dL_law_1134 rfl rfl rfl ?_
  refine hz_iload (pc' := 1137) (j := 6) dL_law_1135 rfl rfl ?_
  refine hz_iconst (pc' := 1138) (v := 2) dL_law_1137 rfl (by decide) ?_
  refine hz_iadd (pc' := 1139) dL_law_1138 rfl ?_
  refine hz_sld (pc' := 1140) hX hbl hbA dL_law_1139 rfl (fun v6 => ?_)
  refine hz_cVi (pc' := 1143) (av := [.int v5, .int v6]) (rest := []) vl_L_203 (fun x w' h => ct_X10_jobOn hl h) g2 rfl rfl (Nat.le_of_ble_eq_true rfl) (by decide) ⟨by omega, by omega⟩ rfl dL_law_1140 rfl (fun v8 w7 => ?_)
  refine hz_istore (pc' := 1145) (L' := [(7, .int v8), (6, .int v3), (0, .ref b), (1, .ref (B.1 + 0)), (2, .ref (B.1 + 336)), (3, .ref (B.1 + 356)), (4, .ref (B.1 + 357)), (5, .int x5)]) dL_law_1143 rfl (by decide) rfl ?_
  refine hz_aload_n (pc' := 1146) (j := 4) dL_law_1145 rfl rfl rfl ?_
  refine hz_cVi (pc' := 1149) (av := []) (rest := []) vl_L_150 (fun x w' h => ct_X10_thrown hl h) g2 rfl rfl (Nat.le_of_ble_eq_true rfl) (by decide) ⟨by omega, by omega⟩ rfl dL_law_1146 rfl (fun v10 w9 => ?_)
  refine hz_iload (pc' := 1151) (j := 1) dL_law_1149 rfl rfl ?_
  refine hz_icmpeq (pc' := 1154) (tgt := 1156) dL_law_1151 (by decide) rfl ?_ ?_
  · refine hz_iload (pc' := 1158) (j := 1) dL_law_1156 rfl rfl ?_
    refine hz_ifne (pc' := 1161) (tgt := 1173) dL_law_1158 (by decide) rfl ?_ ?_
    · refine hz_goto (tgt := 2647) dL_law_1173 (by decide) ?_
      exact hz_wide (k' := k + 8) (sl' := sl + 48) (by omega) (by omega) rfl (hz_loc [2, 3, 4, 5, 6, 7] rfl (hj w9))
    · refine hz_aload_n (pc' := 1162) (j := 5) dL_law_1161 rfl rfl rfl ?_
      refine hz_iconst (pc' := 1163) (v := 0) dL_law_1162 rfl (by decide) ?_
      refine hz_lald (pc' := 1164) g3 rfl dL_law_1163 rfl (fun v11 => ?_)
      refine hz_iload (pc' := 1166) (j := 0) dL_law_1164 rfl rfl ?_
      refine hz_i2l (pc' := 1167) dL_law_1166 rfl ?_
      refine hz_lcmp (pc' := 1168) dL_law_1167 rfl ?_
      refine hz_ifeq (pc' := 1171) (tgt := 1173) dL_law_1168 (by decide) rfl ?_ ?_
      · refine hz_goto (tgt := 2647) dL_law_1173 (by decide) ?_
        exact hz_wide (k' := k + 8) (sl' := sl + 48) (by omega) (by omega) rfl (hz_loc [2, 3, 4, 5, 6, 7] rfl (hj w9))
      · refine hz_iconst (pc' := 1172) (v := 0) dL_law_1171 rfl (by decide) ?_
        exact hz_no rfl
  · refine hz_iconst (pc' := 1155) (v := 0) dL_law_1154 rfl (by decide) ?_
    exact hz_no rfl
def lawc_16 (xs : Nat → Int32) (Ls : Nat) (x5 : Int32) (w : MW) : Option MW :=
  hz_lds xs Ls (x5 + 1) (fun v1 => hz_b (f_L_throttleOrder 0 v1 356 w) (fun v2 w3 => hz_lds xs Ls (x5 + 1) (fun v4 => hz_b (f_X10_throttleOrder 336 v4 w3) (fun v6 w5 => hz_b (f_X10_thrown 336 w5) (fun v8 w7 => (if v8 = v2 then (if v2 = 0 then hz_let w7.2.2.1 (fun v9 => (if (lg_cmp v9 (Int32.toInt64 v6)) = 0 then some w7 else none)) else some w7) else none))))))
set_option maxHeartbeats 4000000 in
set_option maxRecDepth 100000 in
theorem lct_16 {p : Program} {l : Launch} (hl : l.stackTraces = false) {e : Env} {s : State} {m : MethodId} {args : Array Value} {below : List Frame} {meth : Method} {c : Code} {ret : Option FieldType} {B : Bt} {tb : List ExceptionTableEntry} {ini : Bool} {ρ : Type} {Fi : ρ → State → Prop} {Ko : MW → Option ρ} {b Ls k sl : Nat} {xs : Nat → Int32} (hX : va_X b Ls xs s s.heap) (hbl : b < s.heap.size) (hbA : ¬ hz_A B b) (hk : k + 8 ≤ 603072 ∧ sl + 48 ≤ 7059562) {x5 : Int32} {w : MW} (hj : ∀ w', hz_J p l e (hz_rm 21 603072 7059562) s m args below meth c cL_law 9 RL ret B tb ini false Fi Ko 2647 [(0, .ref b), (1, .ref (B.1 + 0)), (2, .ref (B.1 + 336)), (3, .ref (B.1 + 356)), (4, .ref (B.1 + 357)), (5, .int x5)] [] (k + 8) (sl + 48) 358 w' (some w')) : hz_J p l e (hz_rm 21 603072 7059562) s m args below meth c cL_law 9 RL ret B tb ini false Fi Ko 1176 [(0, .ref b), (1, .ref (B.1 + 0)), (2, .ref (B.1 + 336)), (3, .ref (B.1 + 356)), (4, .ref (B.1 + 357)), (5, .int x5)] [] k sl 358 w (lawc_16 xs Ls x5 w) := by
  have g1 : hz_g 358 0 10 = true := by decide +kernel
  have g2 : hz_g 358 336 11 = true := by decide +kernel
  have g3 : hz_g 358 356 23 = true := by decide +kernel
  have g4 : hz_g 358 357 24 = true := by decide +kernel
  obtain ⟨hk1, hk2⟩ := hk
  unfold lawc_16
  refine hz_aload_n (pc' := 1177) (j := 1) dL_law_1176 rfl rfl rfl ?_
  refine hz_aload_n (pc' := 1178) (j := 0) dL_law_1177 rfl rfl rfl ?_
  refine hz_iload (pc' := 1180) (j := 5) dL_law_1178 rfl rfl ?_
  refine hz_iconst (pc' := 1181) (v := 1) dL_law_1180 rfl (by decide) ?_
  refine hz_iadd (pc' := 1182) dL_law_1181 rfl ?_
  refine hz_sld (pc' := 1183) hX hbl hbA dL_law_1182 rfl (fun v1 => ?_)
  refine hz_aload_n (pc' := 1184) (j := 3) dL_law_1183 rfl rfl rfl ?_
  refine hz_cW (pc' := 1187) (na := 3) (hh := [(0, 9, 12, 13), (0, 9, 15, 19), (0, 9, 18, 63)]) (av := [.ref (B.1 + 0), .int v1, .ref (B.1 + 356)]) (rest := []) hq_908 hq_909 hq_0 hq_910 ⟨by decide, by decide, by decide +kernel⟩ (fun x w' h => ct_L_throttleOrder hl h) rfl rfl (Nat.le_of_ble_eq_true rfl) (by decide) ⟨by omega, by omega⟩ rfl dL_law_1184 rfl (fun v2 w3 => ?_)
  refine hz_istore (pc' := 1189) (L' := [(6, .int v2), (0, .ref b), (1, .ref (B.1 + 0)), (2, .ref (B.1 + 336)), (3, .ref (B.1 + 356)), (4, .ref (B.1 + 357)), (5, .int x5)]) dL_law_1187 rfl (by decide) rfl ?_
  refine hz_aload_n (pc' := 1190) (j := 3) dL_law_1189 rfl rfl rfl ?_
  refine hz_aload_n (pc' := 1191) (j := 1) dL_law_1190 rfl rfl rfl ?_
  refine hz_iload (pc' := 1193) (j := 6) dL_law_1191 rfl rfl ?_
  refine hz_iconst (pc' := 1194) (v := 1) dL_law_1193 rfl (by decide) ?_
  refine hz_iadd (pc' := 1195) dL_law_1194 rfl ?_
  refine hz_sld (pc' := 1196) hX hbl hbA dL_law_1195 rfl (fun v4 => ?_)
  refine hz_cVi (pc' := 1199) (av := [.int v4]) (rest := []) vl_L_206 (fun x w' h => ct_X10_throttleOrder hl h) g2 rfl rfl (Nat.le_of_ble_eq_true rfl) (by decide) ⟨by omega, by omega⟩ rfl dL_law_1196 rfl (fun v6 w5 => ?_)
  refine hz_istore (pc' := 1201) (L' := [(7, .int v6), (6, .int v2), (0, .ref b), (1, .ref (B.1 + 0)), (2, .ref (B.1 + 336)), (3, .ref (B.1 + 356)), (4, .ref (B.1 + 357)), (5, .int x5)]) dL_law_1199 rfl (by decide) rfl ?_
  refine hz_aload_n (pc' := 1202) (j := 4) dL_law_1201 rfl rfl rfl ?_
  refine hz_cVi (pc' := 1205) (av := []) (rest := []) vl_L_150 (fun x w' h => ct_X10_thrown hl h) g2 rfl rfl (Nat.le_of_ble_eq_true rfl) (by decide) ⟨by omega, by omega⟩ rfl dL_law_1202 rfl (fun v8 w7 => ?_)
  refine hz_iload (pc' := 1207) (j := 1) dL_law_1205 rfl rfl ?_
  refine hz_icmpeq (pc' := 1210) (tgt := 1212) dL_law_1207 (by decide) rfl ?_ ?_
  · refine hz_iload (pc' := 1214) (j := 1) dL_law_1212 rfl rfl ?_
    refine hz_ifne (pc' := 1217) (tgt := 1229) dL_law_1214 (by decide) rfl ?_ ?_
    · refine hz_goto (tgt := 2647) dL_law_1229 (by decide) ?_
      exact hz_wide (k' := k + 8) (sl' := sl + 48) (by omega) (by omega) rfl (hz_loc [2, 3, 4, 5, 6, 7] rfl (hj w7))
    · refine hz_aload_n (pc' := 1218) (j := 5) dL_law_1217 rfl rfl rfl ?_
      refine hz_iconst (pc' := 1219) (v := 0) dL_law_1218 rfl (by decide) ?_
      refine hz_lald (pc' := 1220) g3 rfl dL_law_1219 rfl (fun v9 => ?_)
      refine hz_iload (pc' := 1222) (j := 0) dL_law_1220 rfl rfl ?_
      refine hz_i2l (pc' := 1223) dL_law_1222 rfl ?_
      refine hz_lcmp (pc' := 1224) dL_law_1223 rfl ?_
      refine hz_ifeq (pc' := 1227) (tgt := 1229) dL_law_1224 (by decide) rfl ?_ ?_
      · refine hz_goto (tgt := 2647) dL_law_1229 (by decide) ?_
        exact hz_wide (k' := k + 8) (sl' := sl + 48) (by omega) (by omega) rfl (hz_loc [2, 3, 4, 5, 6, 7] rfl (hj w7))
      · refine hz_iconst (pc' := 1228) (v := 0) dL_law_1227 rfl (by decide) ?_
        exact hz_no rfl
  · refine hz_iconst (pc' := 1211) (v := 0) dL_law_1210 rfl (by decide) ?_
    exact hz_no rfl
def lawc_17 (xs : Nat → Int32) (Ls : Nat) (x5 : Int32) (w : MW) : Option MW :=
  hz_lds xs Ls (x5 + 1) (fun v1 => hz_b (f_L_meanPower 0 v1 357 w) (fun v2 w3 => hz_lds xs Ls (x5 + 1) (fun v4 => hz_b (f_X10_meanPower 336 v4 w3) (fun v6 w5 => hz_b (f_X10_thrown 336 w5) (fun v8 w7 => (if v8 = v2 then (if v2 = 0 then hz_let w7.2.2.2 (fun v9 => hz_nd (FP.f2d v6) (fun v10 => (if (Op.cmpValue (FP.dcmp v9 v10) CmpOp.l) = 0 then some w7 else hz_let w7.2.2.2 (fun v11 => hz_let w7.2.2.2 (fun v12 => (if (Op.cmpValue (FP.dcmp v11 v12) CmpOp.l) = 0 then none else (if (Op.cmpValue (FP.fcmp v6 v6) CmpOp.l) = 0 then none else some w7))))))) else some w7) else none))))))
set_option maxHeartbeats 4000000 in
set_option maxRecDepth 100000 in
theorem lct_17 {p : Program} {l : Launch} (hl : l.stackTraces = false) {e : Env} {s : State} {m : MethodId} {args : Array Value} {below : List Frame} {meth : Method} {c : Code} {ret : Option FieldType} {B : Bt} {tb : List ExceptionTableEntry} {ini : Bool} {ρ : Type} {Fi : ρ → State → Prop} {Ko : MW → Option ρ} {b Ls k sl : Nat} {xs : Nat → Int32} (hX : va_X b Ls xs s s.heap) (hbl : b < s.heap.size) (hbA : ¬ hz_A B b) (hk : k + 8 ≤ 603072 ∧ sl + 48 ≤ 7059562) {x5 : Int32} {w : MW} (hj : ∀ w', hz_J p l e (hz_rm 21 603072 7059562) s m args below meth c cL_law 9 RL ret B tb ini false Fi Ko 2647 [(0, .ref b), (1, .ref (B.1 + 0)), (2, .ref (B.1 + 336)), (3, .ref (B.1 + 356)), (4, .ref (B.1 + 357)), (5, .int x5)] [] (k + 8) (sl + 48) 358 w' (some w')) : hz_J p l e (hz_rm 21 603072 7059562) s m args below meth c cL_law 9 RL ret B tb ini false Fi Ko 1232 [(0, .ref b), (1, .ref (B.1 + 0)), (2, .ref (B.1 + 336)), (3, .ref (B.1 + 356)), (4, .ref (B.1 + 357)), (5, .int x5)] [] k sl 358 w (lawc_17 xs Ls x5 w) := by
  have g1 : hz_g 358 0 10 = true := by decide +kernel
  have g2 : hz_g 358 336 11 = true := by decide +kernel
  have g3 : hz_g 358 356 23 = true := by decide +kernel
  have g4 : hz_g 358 357 24 = true := by decide +kernel
  obtain ⟨hk1, hk2⟩ := hk
  unfold lawc_17
  refine hz_aload_n (pc' := 1233) (j := 1) dL_law_1232 rfl rfl rfl ?_
  refine hz_aload_n (pc' := 1234) (j := 0) dL_law_1233 rfl rfl rfl ?_
  refine hz_iload (pc' := 1236) (j := 5) dL_law_1234 rfl rfl ?_
  refine hz_iconst (pc' := 1237) (v := 1) dL_law_1236 rfl (by decide) ?_
  refine hz_iadd (pc' := 1238) dL_law_1237 rfl ?_
  refine hz_sld (pc' := 1239) hX hbl hbA dL_law_1238 rfl (fun v1 => ?_)
  refine hz_aload (pc' := 1241) (j := 4) dL_law_1239 rfl rfl ?_
  refine hz_cW (pc' := 1244) (na := 3) (hh := [(0, 9, 12, 13), (0, 9, 15, 19), (0, 9, 18, 69)]) (av := [.ref (B.1 + 0), .int v1, .ref (B.1 + 357)]) (rest := []) hq_940 hq_941 hq_0 hq_942 ⟨by decide, by decide, by decide +kernel⟩ (fun x w' h => ct_L_meanPower hl h) rfl rfl (Nat.le_of_ble_eq_true rfl) (by decide) ⟨by omega, by omega⟩ rfl dL_law_1241 rfl (fun v2 w3 => ?_)
  refine hz_istore (pc' := 1246) (L' := [(6, .int v2), (0, .ref b), (1, .ref (B.1 + 0)), (2, .ref (B.1 + 336)), (3, .ref (B.1 + 356)), (4, .ref (B.1 + 357)), (5, .int x5)]) dL_law_1244 rfl (by decide) rfl ?_
  refine hz_aload_n (pc' := 1247) (j := 3) dL_law_1246 rfl rfl rfl ?_
  refine hz_aload_n (pc' := 1248) (j := 1) dL_law_1247 rfl rfl rfl ?_
  refine hz_iload (pc' := 1250) (j := 6) dL_law_1248 rfl rfl ?_
  refine hz_iconst (pc' := 1251) (v := 1) dL_law_1250 rfl (by decide) ?_
  refine hz_iadd (pc' := 1252) dL_law_1251 rfl ?_
  refine hz_sld (pc' := 1253) hX hbl hbA dL_law_1252 rfl (fun v4 => ?_)
  refine hz_cVf (pc' := 1256) (av := [.int v4]) (rest := []) vl_L_210 (fun x w' h => ct_X10_meanPower hl h) g2 rfl rfl (Nat.le_of_ble_eq_true rfl) (by decide) ⟨by omega, by omega⟩ rfl dL_law_1253 rfl (fun v6 w5 => ?_)
  refine hz_fstore (pc' := 1258) (L' := [(7, .float v6), (6, .int v2), (0, .ref b), (1, .ref (B.1 + 0)), (2, .ref (B.1 + 336)), (3, .ref (B.1 + 356)), (4, .ref (B.1 + 357)), (5, .int x5)]) dL_law_1256 rfl (by decide) rfl ?_
  refine hz_aload_n (pc' := 1259) (j := 4) dL_law_1258 rfl rfl rfl ?_
  refine hz_cVi (pc' := 1262) (av := []) (rest := []) vl_L_150 (fun x w' h => ct_X10_thrown hl h) g2 rfl rfl (Nat.le_of_ble_eq_true rfl) (by decide) ⟨by omega, by omega⟩ rfl dL_law_1259 rfl (fun v8 w7 => ?_)
  refine hz_iload (pc' := 1264) (j := 1) dL_law_1262 rfl rfl ?_
  refine hz_icmpeq (pc' := 1267) (tgt := 1269) dL_law_1264 (by decide) rfl ?_ ?_
  · refine hz_iload (pc' := 1271) (j := 1) dL_law_1269 rfl rfl ?_
    refine hz_ifne (pc' := 1274) (tgt := 1307) dL_law_1271 (by decide) rfl ?_ ?_
    · refine hz_goto (tgt := 2647) dL_law_1307 (by decide) ?_
      exact hz_wide (k' := k + 8) (sl' := sl + 48) (by omega) (by omega) rfl (hz_loc [2, 3, 4, 5, 6, 7] rfl (hj w7))
    · refine hz_aload (pc' := 1276) (j := 6) dL_law_1274 rfl rfl ?_
      refine hz_iconst (pc' := 1277) (v := 0) dL_law_1276 rfl (by decide) ?_
      refine hz_dald (pc' := 1278) g4 rfl dL_law_1277 rfl (fun v9 => ?_)
      refine hz_fload (pc' := 1280) (j := 0) dL_law_1278 rfl rfl ?_
      refine hz_f2d (pc' := 1281) dL_law_1280 rfl (fun v10 => ?_)
      refine hz_dcmp (pc' := 1282) dL_law_1281 rfl ?_
      refine hz_ifeq (pc' := 1285) (tgt := 1307) dL_law_1282 (by decide) rfl ?_ ?_
      · refine hz_goto (tgt := 2647) dL_law_1307 (by decide) ?_
        exact hz_wide (k' := k + 8) (sl' := sl + 48) (by omega) (by omega) rfl (hz_loc [2, 3, 4, 5, 6, 7] rfl (hj w7))
      · refine hz_aload (pc' := 1287) (j := 6) dL_law_1285 rfl rfl ?_
        refine hz_iconst (pc' := 1288) (v := 0) dL_law_1287 rfl (by decide) ?_
        refine hz_dald (pc' := 1289) g4 rfl dL_law_1288 rfl (fun v11 => ?_)
        refine hz_aload (pc' := 1291) (j := 6) dL_law_1289 rfl rfl ?_
        refine hz_iconst (pc' := 1292) (v := 0) dL_law_1291 rfl (by decide) ?_
        refine hz_dald (pc' := 1293) g4 rfl dL_law_1292 rfl (fun v12 => ?_)
        refine hz_dcmp (pc' := 1294) dL_law_1293 rfl ?_
        refine hz_ifeq (pc' := 1297) (tgt := 1305) dL_law_1294 (by decide) rfl ?_ ?_
        · refine hz_iconst (pc' := 1306) (v := 0) dL_law_1305 rfl (by decide) ?_
          exact hz_no rfl
        · refine hz_fload (pc' := 1299) (j := 0) dL_law_1297 rfl rfl ?_
          refine hz_fload (pc' := 1301) (j := 0) dL_law_1299 rfl rfl ?_
          refine hz_fcmp (pc' := 1302) dL_law_1301 rfl ?_
          refine hz_ifne (pc' := 1305) (tgt := 1307) dL_law_1302 (by decide) rfl ?_ ?_
          · refine hz_goto (tgt := 2647) dL_law_1307 (by decide) ?_
            exact hz_wide (k' := k + 8) (sl' := sl + 48) (by omega) (by omega) rfl (hz_loc [2, 3, 4, 5, 6, 7] rfl (hj w7))
          · refine hz_iconst (pc' := 1306) (v := 0) dL_law_1305 rfl (by decide) ?_
            exact hz_no rfl
  · refine hz_iconst (pc' := 1268) (v := 0) dL_law_1267 rfl (by decide) ?_
    exact hz_no rfl
def lawc_18 (xs : Nat → Int32) (Ls : Nat) (x5 : Int32) (w : MW) : Option MW :=
  hz_b (f_L_jobCount 0 356 w) (fun v1 w2 => hz_b (f_X10_jobCount 336 w2) (fun v4 w3 => hz_b (f_X10_thrown 336 w3) (fun v6 w5 => (if v6 = v1 then (if v1 = 0 then hz_let w5.2.2.1 (fun v7 => (if (lg_cmp v7 (Int32.toInt64 v4)) = 0 then some w5 else none)) else some w5) else none))))
set_option maxHeartbeats 4000000 in
set_option maxRecDepth 100000 in
theorem lct_18 {p : Program} {l : Launch} (hl : l.stackTraces = false) {e : Env} {s : State} {m : MethodId} {args : Array Value} {below : List Frame} {meth : Method} {c : Code} {ret : Option FieldType} {B : Bt} {tb : List ExceptionTableEntry} {ini : Bool} {ρ : Type} {Fi : ρ → State → Prop} {Ko : MW → Option ρ} {b Ls k sl : Nat} {xs : Nat → Int32} (hX : va_X b Ls xs s s.heap) (hbl : b < s.heap.size) (hbA : ¬ hz_A B b) (hk : k + 8 ≤ 603072 ∧ sl + 48 ≤ 7059562) {x5 : Int32} {w : MW} (hj : ∀ w', hz_J p l e (hz_rm 21 603072 7059562) s m args below meth c cL_law 9 RL ret B tb ini false Fi Ko 2647 [(0, .ref b), (1, .ref (B.1 + 0)), (2, .ref (B.1 + 336)), (3, .ref (B.1 + 356)), (4, .ref (B.1 + 357)), (5, .int x5)] [] (k + 8) (sl + 48) 358 w' (some w')) : hz_J p l e (hz_rm 21 603072 7059562) s m args below meth c cL_law 9 RL ret B tb ini false Fi Ko 1310 [(0, .ref b), (1, .ref (B.1 + 0)), (2, .ref (B.1 + 336)), (3, .ref (B.1 + 356)), (4, .ref (B.1 + 357)), (5, .int x5)] [] k sl 358 w (lawc_18 xs Ls x5 w) := by
  have g1 : hz_g 358 0 10 = true := by decide +kernel
  have g2 : hz_g 358 336 11 = true := by decide +kernel
  have g3 : hz_g 358 356 23 = true := by decide +kernel
  have g4 : hz_g 358 357 24 = true := by decide +kernel
  obtain ⟨hk1, hk2⟩ := hk
  unfold lawc_18
  refine hz_aload_n (pc' := 1311) (j := 1) dL_law_1310 rfl rfl rfl ?_
  refine hz_aload_n (pc' := 1312) (j := 3) dL_law_1311 rfl rfl rfl ?_
  refine hz_cW (pc' := 1315) (na := 2) (hh := [(0, 8, 11, 13)]) (av := [.ref (B.1 + 0), .ref (B.1 + 356)]) (rest := []) hq_969 hq_970 hq_0 hq_971 ⟨by decide, by decide, by decide +kernel⟩ (fun x w' h => ct_L_jobCount hl h) rfl rfl (Nat.le_of_ble_eq_true rfl) (by decide) ⟨by omega, by omega⟩ rfl dL_law_1312 rfl (fun v1 w2 => ?_)
  refine hz_istore (pc' := 1317) (L' := [(6, .int v1), (0, .ref b), (1, .ref (B.1 + 0)), (2, .ref (B.1 + 336)), (3, .ref (B.1 + 356)), (4, .ref (B.1 + 357)), (5, .int x5)]) dL_law_1315 rfl (by decide) rfl ?_
  refine hz_aload_n (pc' := 1318) (j := 3) dL_law_1317 rfl rfl rfl ?_
  refine hz_cVi (pc' := 1321) (av := []) (rest := []) vl_L_213 (fun x w' h => ct_X10_jobCount hl h) g2 rfl rfl (Nat.le_of_ble_eq_true rfl) (by decide) ⟨by omega, by omega⟩ rfl dL_law_1318 rfl (fun v4 w3 => ?_)
  refine hz_istore (pc' := 1323) (L' := [(7, .int v4), (6, .int v1), (0, .ref b), (1, .ref (B.1 + 0)), (2, .ref (B.1 + 336)), (3, .ref (B.1 + 356)), (4, .ref (B.1 + 357)), (5, .int x5)]) dL_law_1321 rfl (by decide) rfl ?_
  refine hz_aload_n (pc' := 1324) (j := 4) dL_law_1323 rfl rfl rfl ?_
  refine hz_cVi (pc' := 1327) (av := []) (rest := []) vl_L_150 (fun x w' h => ct_X10_thrown hl h) g2 rfl rfl (Nat.le_of_ble_eq_true rfl) (by decide) ⟨by omega, by omega⟩ rfl dL_law_1324 rfl (fun v6 w5 => ?_)
  refine hz_iload (pc' := 1329) (j := 1) dL_law_1327 rfl rfl ?_
  refine hz_icmpeq (pc' := 1332) (tgt := 1334) dL_law_1329 (by decide) rfl ?_ ?_
  · refine hz_iload (pc' := 1336) (j := 1) dL_law_1334 rfl rfl ?_
    refine hz_ifne (pc' := 1339) (tgt := 1351) dL_law_1336 (by decide) rfl ?_ ?_
    · refine hz_goto (tgt := 2647) dL_law_1351 (by decide) ?_
      exact hz_wide (k' := k + 8) (sl' := sl + 48) (by omega) (by omega) rfl (hz_loc [2, 3, 4, 5, 6, 7] rfl (hj w5))
    · refine hz_aload_n (pc' := 1340) (j := 5) dL_law_1339 rfl rfl rfl ?_
      refine hz_iconst (pc' := 1341) (v := 0) dL_law_1340 rfl (by decide) ?_
      refine hz_lald (pc' := 1342) g3 rfl dL_law_1341 rfl (fun v7 => ?_)
      refine hz_iload (pc' := 1344) (j := 0) dL_law_1342 rfl rfl ?_
      refine hz_i2l (pc' := 1345) dL_law_1344 rfl ?_
      refine hz_lcmp (pc' := 1346) dL_law_1345 rfl ?_
      refine hz_ifeq (pc' := 1349) (tgt := 1351) dL_law_1346 (by decide) rfl ?_ ?_
      · refine hz_goto (tgt := 2647) dL_law_1351 (by decide) ?_
        exact hz_wide (k' := k + 8) (sl' := sl + 48) (by omega) (by omega) rfl (hz_loc [2, 3, 4, 5, 6, 7] rfl (hj w5))
      · refine hz_iconst (pc' := 1350) (v := 0) dL_law_1349 rfl (by decide) ?_
        exact hz_no rfl
  · refine hz_iconst (pc' := 1333) (v := 0) dL_law_1332 rfl (by decide) ?_
    exact hz_no rfl
def lawc_19 (xs : Nat → Int32) (Ls : Nat) (x5 : Int32) (w : MW) : Option MW :=
  hz_lds xs Ls (x5 + 1) (fun v1 => hz_lds xs Ls (x5 + 2) (fun v2 => hz_b (f_L_jobValue 0 v1 v2 356 w) (fun v3 w4 => hz_lds xs Ls (x5 + 1) (fun v5 => hz_lds xs Ls (x5 + 2) (fun v6 => hz_b (f_X10_jobValue 336 v5 v6 w4) (fun v8 w7 => hz_b (f_X10_thrown 336 w7) (fun v10 w9 => (if v10 = v3 then (if v3 = 0 then hz_let w9.2.2.1 (fun v11 => (if (lg_cmp v11 (Int32.toInt64 v8)) = 0 then some w9 else none)) else some w9) else none))))))))
set_option maxHeartbeats 4000000 in
set_option maxRecDepth 100000 in
theorem lct_19 {p : Program} {l : Launch} (hl : l.stackTraces = false) {e : Env} {s : State} {m : MethodId} {args : Array Value} {below : List Frame} {meth : Method} {c : Code} {ret : Option FieldType} {B : Bt} {tb : List ExceptionTableEntry} {ini : Bool} {ρ : Type} {Fi : ρ → State → Prop} {Ko : MW → Option ρ} {b Ls k sl : Nat} {xs : Nat → Int32} (hX : va_X b Ls xs s s.heap) (hbl : b < s.heap.size) (hbA : ¬ hz_A B b) (hk : k + 8 ≤ 603072 ∧ sl + 48 ≤ 7059562) {x5 : Int32} {w : MW} (hj : ∀ w', hz_J p l e (hz_rm 21 603072 7059562) s m args below meth c cL_law 9 RL ret B tb ini false Fi Ko 2647 [(0, .ref b), (1, .ref (B.1 + 0)), (2, .ref (B.1 + 336)), (3, .ref (B.1 + 356)), (4, .ref (B.1 + 357)), (5, .int x5)] [] (k + 8) (sl + 48) 358 w' (some w')) : hz_J p l e (hz_rm 21 603072 7059562) s m args below meth c cL_law 9 RL ret B tb ini false Fi Ko 1354 [(0, .ref b), (1, .ref (B.1 + 0)), (2, .ref (B.1 + 336)), (3, .ref (B.1 + 356)), (4, .ref (B.1 + 357)), (5, .int x5)] [] k sl 358 w (lawc_19 xs Ls x5 w) := by
  have g1 : hz_g 358 0 10 = true := by decide +kernel
  have g2 : hz_g 358 336 11 = true := by decide +kernel
  have g3 : hz_g 358 356 23 = true := by decide +kernel
  have g4 : hz_g 358 357 24 = true := by decide +kernel
  obtain ⟨hk1, hk2⟩ := hk
  unfold lawc_19
  refine hz_aload_n (pc' := 1355) (j := 1) dL_law_1354 rfl rfl rfl ?_
  refine hz_aload_n (pc' := 1356) (j := 0) dL_law_1355 rfl rfl rfl ?_
  refine hz_iload (pc' := 1358) (j := 5) dL_law_1356 rfl rfl ?_
  refine hz_iconst (pc' := 1359) (v := 1) dL_law_1358 rfl (by decide) ?_
  refine hz_iadd (pc' := 1360) dL_law_1359 rfl ?_
  refine hz_sld (pc' := 1361) hX hbl hbA dL_law_1360 rfl (fun v1 => ?_)
  refine hz_aload_n (pc' := 1362) (j := 0) dL_law_1361 rfl rfl rfl ?_
  refine hz_iload (pc' := 1364) (j := 5) dL_law_1362 rfl rfl ?_
  refine hz_iconst (pc' := 1365) (v := 2) dL_law_1364 rfl (by decide) ?_
  refine hz_iadd (pc' := 1366) dL_law_1365 rfl ?_
  refine hz_sld (pc' := 1367) hX hbl hbA dL_law_1366 rfl (fun v2 => ?_)
  refine hz_aload_n (pc' := 1368) (j := 3) dL_law_1367 rfl rfl rfl ?_
  refine hz_cW (pc' := 1371) (na := 4) (hh := [(0, 10, 13, 13), (0, 10, 17, 19)]) (av := [.ref (B.1 + 0), .int v1, .int v2, .ref (B.1 + 356)]) (rest := []) hq_976 hq_977 hq_0 hq_978 ⟨by decide, by decide, by decide +kernel⟩ (fun x w' h => ct_L_jobValue hl h) rfl rfl (Nat.le_of_ble_eq_true rfl) (by decide) ⟨by omega, by omega⟩ rfl dL_law_1368 rfl (fun v3 w4 => ?_)
  refine hz_istore (pc' := 1373) (L' := [(6, .int v3), (0, .ref b), (1, .ref (B.1 + 0)), (2, .ref (B.1 + 336)), (3, .ref (B.1 + 356)), (4, .ref (B.1 + 357)), (5, .int x5)]) dL_law_1371 rfl (by decide) rfl ?_
  refine hz_aload_n (pc' := 1374) (j := 3) dL_law_1373 rfl rfl rfl ?_
  refine hz_aload_n (pc' := 1375) (j := 1) dL_law_1374 rfl rfl rfl ?_
  refine hz_iload (pc' := 1377) (j := 6) dL_law_1375 rfl rfl ?_
  refine hz_iconst (pc' := 1378) (v := 1) dL_law_1377 rfl (by decide) ?_
  refine hz_iadd (pc' := 1379) dL_law_1378 rfl ?_
  refine hz_sld (pc' := 1380) hX hbl hbA dL_law_1379 rfl (fun v5 => ?_)
  refine hz_aload_n (pc' := 1381) (j := 1) dL_law_1380 rfl rfl rfl ?_
  refine hz_iload (pc' := 1383) (j := 6) dL_law_1381 rfl rfl ?_
  refine hz_iconst (pc' := 1384) (v := 2) dL_law_1383 rfl (by decide) ?_
  refine hz_iadd (pc' := 1385) dL_law_1384 rfl ?_
  refine hz_sld (pc' := 1386) hX hbl hbA dL_law_1385 rfl (fun v6 => ?_)
  refine hz_cVi (pc' := 1389) (av := [.int v5, .int v6]) (rest := []) vl_L_216 (fun x w' h => ct_X10_jobValue hl h) g2 rfl rfl (Nat.le_of_ble_eq_true rfl) (by decide) ⟨by omega, by omega⟩ rfl dL_law_1386 rfl (fun v8 w7 => ?_)
  refine hz_istore (pc' := 1391) (L' := [(7, .int v8), (6, .int v3), (0, .ref b), (1, .ref (B.1 + 0)), (2, .ref (B.1 + 336)), (3, .ref (B.1 + 356)), (4, .ref (B.1 + 357)), (5, .int x5)]) dL_law_1389 rfl (by decide) rfl ?_
  refine hz_aload_n (pc' := 1392) (j := 4) dL_law_1391 rfl rfl rfl ?_
  refine hz_cVi (pc' := 1395) (av := []) (rest := []) vl_L_150 (fun x w' h => ct_X10_thrown hl h) g2 rfl rfl (Nat.le_of_ble_eq_true rfl) (by decide) ⟨by omega, by omega⟩ rfl dL_law_1392 rfl (fun v10 w9 => ?_)
  refine hz_iload (pc' := 1397) (j := 1) dL_law_1395 rfl rfl ?_
  refine hz_icmpeq (pc' := 1400) (tgt := 1402) dL_law_1397 (by decide) rfl ?_ ?_
  · refine hz_iload (pc' := 1404) (j := 1) dL_law_1402 rfl rfl ?_
    refine hz_ifne (pc' := 1407) (tgt := 1419) dL_law_1404 (by decide) rfl ?_ ?_
    · refine hz_goto (tgt := 2647) dL_law_1419 (by decide) ?_
      exact hz_wide (k' := k + 8) (sl' := sl + 48) (by omega) (by omega) rfl (hz_loc [2, 3, 4, 5, 6, 7] rfl (hj w9))
    · refine hz_aload_n (pc' := 1408) (j := 5) dL_law_1407 rfl rfl rfl ?_
      refine hz_iconst (pc' := 1409) (v := 0) dL_law_1408 rfl (by decide) ?_
      refine hz_lald (pc' := 1410) g3 rfl dL_law_1409 rfl (fun v11 => ?_)
      refine hz_iload (pc' := 1412) (j := 0) dL_law_1410 rfl rfl ?_
      refine hz_i2l (pc' := 1413) dL_law_1412 rfl ?_
      refine hz_lcmp (pc' := 1414) dL_law_1413 rfl ?_
      refine hz_ifeq (pc' := 1417) (tgt := 1419) dL_law_1414 (by decide) rfl ?_ ?_
      · refine hz_goto (tgt := 2647) dL_law_1419 (by decide) ?_
        exact hz_wide (k' := k + 8) (sl' := sl + 48) (by omega) (by omega) rfl (hz_loc [2, 3, 4, 5, 6, 7] rfl (hj w9))
      · refine hz_iconst (pc' := 1418) (v := 0) dL_law_1417 rfl (by decide) ?_
        exact hz_no rfl
  · refine hz_iconst (pc' := 1401) (v := 0) dL_law_1400 rfl (by decide) ?_
    exact hz_no rfl
def lawc_20 (xs : Nat → Int32) (Ls : Nat) (x5 : Int32) (w : MW) : Option MW :=
  hz_lds xs Ls (x5 + 1) (fun v1 => hz_b (f_L_doneAt 0 v1 356 w) (fun v2 w3 => hz_lds xs Ls (x5 + 1) (fun v4 => hz_b (f_X10_doneAt 336 v4 w3) (fun v6 w5 => hz_b (f_X10_thrown 336 w5) (fun v8 w7 => (if v8 = v2 then (if v2 = 0 then hz_let w7.2.2.1 (fun v9 => (if (lg_cmp v9 (Int32.toInt64 v6)) = 0 then some w7 else none)) else some w7) else none))))))
set_option maxHeartbeats 4000000 in
set_option maxRecDepth 100000 in
theorem lct_20 {p : Program} {l : Launch} (hl : l.stackTraces = false) {e : Env} {s : State} {m : MethodId} {args : Array Value} {below : List Frame} {meth : Method} {c : Code} {ret : Option FieldType} {B : Bt} {tb : List ExceptionTableEntry} {ini : Bool} {ρ : Type} {Fi : ρ → State → Prop} {Ko : MW → Option ρ} {b Ls k sl : Nat} {xs : Nat → Int32} (hX : va_X b Ls xs s s.heap) (hbl : b < s.heap.size) (hbA : ¬ hz_A B b) (hk : k + 8 ≤ 603072 ∧ sl + 48 ≤ 7059562) {x5 : Int32} {w : MW} (hj : ∀ w', hz_J p l e (hz_rm 21 603072 7059562) s m args below meth c cL_law 9 RL ret B tb ini false Fi Ko 2647 [(0, .ref b), (1, .ref (B.1 + 0)), (2, .ref (B.1 + 336)), (3, .ref (B.1 + 356)), (4, .ref (B.1 + 357)), (5, .int x5)] [] (k + 8) (sl + 48) 358 w' (some w')) : hz_J p l e (hz_rm 21 603072 7059562) s m args below meth c cL_law 9 RL ret B tb ini false Fi Ko 1422 [(0, .ref b), (1, .ref (B.1 + 0)), (2, .ref (B.1 + 336)), (3, .ref (B.1 + 356)), (4, .ref (B.1 + 357)), (5, .int x5)] [] k sl 358 w (lawc_20 xs Ls x5 w) := by
  have g1 : hz_g 358 0 10 = true := by decide +kernel
  have g2 : hz_g 358 336 11 = true := by decide +kernel
  have g3 : hz_g 358 356 23 = true := by decide +kernel
  have g4 : hz_g 358 357 24 = true := by decide +kernel
  obtain ⟨hk1, hk2⟩ := hk
  unfold lawc_20
  refine hz_aload_n (pc' := 1423) (j := 1) dL_law_1422 rfl rfl rfl ?_
  refine hz_aload_n (pc' := 1424) (j := 0) dL_law_1423 rfl rfl rfl ?_
  refine hz_iload (pc' := 1426) (j := 5) dL_law_1424 rfl rfl ?_
  refine hz_iconst (pc' := 1427) (v := 1) dL_law_1426 rfl (by decide) ?_
  refine hz_iadd (pc' := 1428) dL_law_1427 rfl ?_
  refine hz_sld (pc' := 1429) hX hbl hbA dL_law_1428 rfl (fun v1 => ?_)
  refine hz_aload_n (pc' := 1430) (j := 3) dL_law_1429 rfl rfl rfl ?_
  refine hz_cW (pc' := 1433) (na := 3) (hh := [(0, 9, 12, 13), (0, 9, 15, 19)]) (av := [.ref (B.1 + 0), .int v1, .ref (B.1 + 356)]) (rest := []) hq_987 hq_988 hq_0 hq_989 ⟨by decide, by decide, by decide +kernel⟩ (fun x w' h => ct_L_doneAt hl h) rfl rfl (Nat.le_of_ble_eq_true rfl) (by decide) ⟨by omega, by omega⟩ rfl dL_law_1430 rfl (fun v2 w3 => ?_)
  refine hz_istore (pc' := 1435) (L' := [(6, .int v2), (0, .ref b), (1, .ref (B.1 + 0)), (2, .ref (B.1 + 336)), (3, .ref (B.1 + 356)), (4, .ref (B.1 + 357)), (5, .int x5)]) dL_law_1433 rfl (by decide) rfl ?_
  refine hz_aload_n (pc' := 1436) (j := 3) dL_law_1435 rfl rfl rfl ?_
  refine hz_aload_n (pc' := 1437) (j := 1) dL_law_1436 rfl rfl rfl ?_
  refine hz_iload (pc' := 1439) (j := 6) dL_law_1437 rfl rfl ?_
  refine hz_iconst (pc' := 1440) (v := 1) dL_law_1439 rfl (by decide) ?_
  refine hz_iadd (pc' := 1441) dL_law_1440 rfl ?_
  refine hz_sld (pc' := 1442) hX hbl hbA dL_law_1441 rfl (fun v4 => ?_)
  refine hz_cVi (pc' := 1445) (av := [.int v4]) (rest := []) vl_L_219 (fun x w' h => ct_X10_doneAt hl h) g2 rfl rfl (Nat.le_of_ble_eq_true rfl) (by decide) ⟨by omega, by omega⟩ rfl dL_law_1442 rfl (fun v6 w5 => ?_)
  refine hz_istore (pc' := 1447) (L' := [(7, .int v6), (6, .int v2), (0, .ref b), (1, .ref (B.1 + 0)), (2, .ref (B.1 + 336)), (3, .ref (B.1 + 356)), (4, .ref (B.1 + 357)), (5, .int x5)]) dL_law_1445 rfl (by decide) rfl ?_
  refine hz_aload_n (pc' := 1448) (j := 4) dL_law_1447 rfl rfl rfl ?_
  refine hz_cVi (pc' := 1451) (av := []) (rest := []) vl_L_150 (fun x w' h => ct_X10_thrown hl h) g2 rfl rfl (Nat.le_of_ble_eq_true rfl) (by decide) ⟨by omega, by omega⟩ rfl dL_law_1448 rfl (fun v8 w7 => ?_)
  refine hz_iload (pc' := 1453) (j := 1) dL_law_1451 rfl rfl ?_
  refine hz_icmpeq (pc' := 1456) (tgt := 1458) dL_law_1453 (by decide) rfl ?_ ?_
  · refine hz_iload (pc' := 1460) (j := 1) dL_law_1458 rfl rfl ?_
    refine hz_ifne (pc' := 1463) (tgt := 1475) dL_law_1460 (by decide) rfl ?_ ?_
    · refine hz_goto (tgt := 2647) dL_law_1475 (by decide) ?_
      exact hz_wide (k' := k + 8) (sl' := sl + 48) (by omega) (by omega) rfl (hz_loc [2, 3, 4, 5, 6, 7] rfl (hj w7))
    · refine hz_aload_n (pc' := 1464) (j := 5) dL_law_1463 rfl rfl rfl ?_
      refine hz_iconst (pc' := 1465) (v := 0) dL_law_1464 rfl (by decide) ?_
      refine hz_lald (pc' := 1466) g3 rfl dL_law_1465 rfl (fun v9 => ?_)
      refine hz_iload (pc' := 1468) (j := 0) dL_law_1466 rfl rfl ?_
      refine hz_i2l (pc' := 1469) dL_law_1468 rfl ?_
      refine hz_lcmp (pc' := 1470) dL_law_1469 rfl ?_
      refine hz_ifeq (pc' := 1473) (tgt := 1475) dL_law_1470 (by decide) rfl ?_ ?_
      · refine hz_goto (tgt := 2647) dL_law_1475 (by decide) ?_
        exact hz_wide (k' := k + 8) (sl' := sl + 48) (by omega) (by omega) rfl (hz_loc [2, 3, 4, 5, 6, 7] rfl (hj w7))
      · refine hz_iconst (pc' := 1474) (v := 0) dL_law_1473 rfl (by decide) ?_
        exact hz_no rfl
  · refine hz_iconst (pc' := 1457) (v := 0) dL_law_1456 rfl (by decide) ?_
    exact hz_no rfl
def lawc_21 (xs : Nat → Int32) (Ls : Nat) (x5 : Int32) (w : MW) : Option MW :=
  hz_b (f_L_lateJobs 0 356 w) (fun v1 w2 => hz_b (f_X10_lateJobs 336 w2) (fun v4 w3 => hz_b (f_X10_thrown 336 w3) (fun v6 w5 => (if v6 = v1 then (if v1 = 0 then hz_let w5.2.2.1 (fun v7 => (if (lg_cmp v7 (Int32.toInt64 v4)) = 0 then some w5 else none)) else some w5) else none))))
set_option maxHeartbeats 4000000 in
set_option maxRecDepth 100000 in
theorem lct_21 {p : Program} {l : Launch} (hl : l.stackTraces = false) {e : Env} {s : State} {m : MethodId} {args : Array Value} {below : List Frame} {meth : Method} {c : Code} {ret : Option FieldType} {B : Bt} {tb : List ExceptionTableEntry} {ini : Bool} {ρ : Type} {Fi : ρ → State → Prop} {Ko : MW → Option ρ} {b Ls k sl : Nat} {xs : Nat → Int32} (hX : va_X b Ls xs s s.heap) (hbl : b < s.heap.size) (hbA : ¬ hz_A B b) (hk : k + 8 ≤ 603072 ∧ sl + 48 ≤ 7059562) {x5 : Int32} {w : MW} (hj : ∀ w', hz_J p l e (hz_rm 21 603072 7059562) s m args below meth c cL_law 9 RL ret B tb ini false Fi Ko 2647 [(0, .ref b), (1, .ref (B.1 + 0)), (2, .ref (B.1 + 336)), (3, .ref (B.1 + 356)), (4, .ref (B.1 + 357)), (5, .int x5)] [] (k + 8) (sl + 48) 358 w' (some w')) : hz_J p l e (hz_rm 21 603072 7059562) s m args below meth c cL_law 9 RL ret B tb ini false Fi Ko 1478 [(0, .ref b), (1, .ref (B.1 + 0)), (2, .ref (B.1 + 336)), (3, .ref (B.1 + 356)), (4, .ref (B.1 + 357)), (5, .int x5)] [] k sl 358 w (lawc_21 xs Ls x5 w) := by
  have g1 : hz_g 358 0 10 = true := by decide +kernel
  have g2 : hz_g 358 336 11 = true := by decide +kernel
  have g3 : hz_g 358 356 23 = true := by decide +kernel
  have g4 : hz_g 358 357 24 = true := by decide +kernel
  obtain ⟨hk1, hk2⟩ := hk
  unfold lawc_21
  refine hz_aload_n (pc' := 1479) (j := 1) dL_law_1478 rfl rfl rfl ?_
  refine hz_aload_n (pc' := 1480) (j := 3) dL_law_1479 rfl rfl rfl ?_
  refine hz_cW (pc' := 1483) (na := 2) (hh := [(0, 8, 11, 13)]) (av := [.ref (B.1 + 0), .ref (B.1 + 356)]) (rest := []) hq_998 hq_999 hq_0 hq_1000 ⟨by decide, by decide, by decide +kernel⟩ (fun x w' h => ct_L_lateJobs hl h) rfl rfl (Nat.le_of_ble_eq_true rfl) (by decide) ⟨by omega, by omega⟩ rfl dL_law_1480 rfl (fun v1 w2 => ?_)
  refine hz_istore (pc' := 1485) (L' := [(6, .int v1), (0, .ref b), (1, .ref (B.1 + 0)), (2, .ref (B.1 + 336)), (3, .ref (B.1 + 356)), (4, .ref (B.1 + 357)), (5, .int x5)]) dL_law_1483 rfl (by decide) rfl ?_
  refine hz_aload_n (pc' := 1486) (j := 3) dL_law_1485 rfl rfl rfl ?_
  refine hz_cVi (pc' := 1489) (av := []) (rest := []) vl_L_222 (fun x w' h => ct_X10_lateJobs hl h) g2 rfl rfl (Nat.le_of_ble_eq_true rfl) (by decide) ⟨by omega, by omega⟩ rfl dL_law_1486 rfl (fun v4 w3 => ?_)
  refine hz_istore (pc' := 1491) (L' := [(7, .int v4), (6, .int v1), (0, .ref b), (1, .ref (B.1 + 0)), (2, .ref (B.1 + 336)), (3, .ref (B.1 + 356)), (4, .ref (B.1 + 357)), (5, .int x5)]) dL_law_1489 rfl (by decide) rfl ?_
  refine hz_aload_n (pc' := 1492) (j := 4) dL_law_1491 rfl rfl rfl ?_
  refine hz_cVi (pc' := 1495) (av := []) (rest := []) vl_L_150 (fun x w' h => ct_X10_thrown hl h) g2 rfl rfl (Nat.le_of_ble_eq_true rfl) (by decide) ⟨by omega, by omega⟩ rfl dL_law_1492 rfl (fun v6 w5 => ?_)
  refine hz_iload (pc' := 1497) (j := 1) dL_law_1495 rfl rfl ?_
  refine hz_icmpeq (pc' := 1500) (tgt := 1502) dL_law_1497 (by decide) rfl ?_ ?_
  · refine hz_iload (pc' := 1504) (j := 1) dL_law_1502 rfl rfl ?_
    refine hz_ifne (pc' := 1507) (tgt := 1519) dL_law_1504 (by decide) rfl ?_ ?_
    · refine hz_goto (tgt := 2647) dL_law_1519 (by decide) ?_
      exact hz_wide (k' := k + 8) (sl' := sl + 48) (by omega) (by omega) rfl (hz_loc [2, 3, 4, 5, 6, 7] rfl (hj w5))
    · refine hz_aload_n (pc' := 1508) (j := 5) dL_law_1507 rfl rfl rfl ?_
      refine hz_iconst (pc' := 1509) (v := 0) dL_law_1508 rfl (by decide) ?_
      refine hz_lald (pc' := 1510) g3 rfl dL_law_1509 rfl (fun v7 => ?_)
      refine hz_iload (pc' := 1512) (j := 0) dL_law_1510 rfl rfl ?_
      refine hz_i2l (pc' := 1513) dL_law_1512 rfl ?_
      refine hz_lcmp (pc' := 1514) dL_law_1513 rfl ?_
      refine hz_ifeq (pc' := 1517) (tgt := 1519) dL_law_1514 (by decide) rfl ?_ ?_
      · refine hz_goto (tgt := 2647) dL_law_1519 (by decide) ?_
        exact hz_wide (k' := k + 8) (sl' := sl + 48) (by omega) (by omega) rfl (hz_loc [2, 3, 4, 5, 6, 7] rfl (hj w5))
      · refine hz_iconst (pc' := 1518) (v := 0) dL_law_1517 rfl (by decide) ?_
        exact hz_no rfl
  · refine hz_iconst (pc' := 1501) (v := 0) dL_law_1500 rfl (by decide) ?_
    exact hz_no rfl
def lawc_22 (xs : Nat → Int32) (Ls : Nat) (x5 : Int32) (w : MW) : Option MW :=
  hz_lds xs Ls (x5 + 1) (fun v1 => hz_lds xs Ls (x5 + 2) (fun v2 => hz_b (f_L_queued 0 v1 v2 356 w) (fun v3 w4 => hz_lds xs Ls (x5 + 1) (fun v5 => hz_lds xs Ls (x5 + 2) (fun v6 => hz_b (f_X10_queued 336 v5 v6 w4) (fun v8 w7 => hz_b (f_X10_thrown 336 w7) (fun v10 w9 => (if v10 = v3 then (if v3 = 0 then hz_let w9.2.2.1 (fun v11 => (if (lg_cmp v11 (Int32.toInt64 v8)) = 0 then some w9 else none)) else some w9) else none))))))))
set_option maxHeartbeats 4000000 in
set_option maxRecDepth 100000 in
theorem lct_22 {p : Program} {l : Launch} (hl : l.stackTraces = false) {e : Env} {s : State} {m : MethodId} {args : Array Value} {below : List Frame} {meth : Method} {c : Code} {ret : Option FieldType} {B : Bt} {tb : List ExceptionTableEntry} {ini : Bool} {ρ : Type} {Fi : ρ → State → Prop} {Ko : MW → Option ρ} {b Ls k sl : Nat} {xs : Nat → Int32} (hX : va_X b Ls xs s s.heap) (hbl : b < s.heap.size) (hbA : ¬ hz_A B b) (hk : k + 8 ≤ 603072 ∧ sl + 48 ≤ 7059562) {x5 : Int32} {w : MW} (hj : ∀ w', hz_J p l e (hz_rm 21 603072 7059562) s m args below meth c cL_law 9 RL ret B tb ini false Fi Ko 2647 [(0, .ref b), (1, .ref (B.1 + 0)), (2, .ref (B.1 + 336)), (3, .ref (B.1 + 356)), (4, .ref (B.1 + 357)), (5, .int x5)] [] (k + 8) (sl + 48) 358 w' (some w')) : hz_J p l e (hz_rm 21 603072 7059562) s m args below meth c cL_law 9 RL ret B tb ini false Fi Ko 1522 [(0, .ref b), (1, .ref (B.1 + 0)), (2, .ref (B.1 + 336)), (3, .ref (B.1 + 356)), (4, .ref (B.1 + 357)), (5, .int x5)] [] k sl 358 w (lawc_22 xs Ls x5 w) := by
  have g1 : hz_g 358 0 10 = true := by decide +kernel
  have g2 : hz_g 358 336 11 = true := by decide +kernel
  have g3 : hz_g 358 356 23 = true := by decide +kernel
  have g4 : hz_g 358 357 24 = true := by decide +kernel
  obtain ⟨hk1, hk2⟩ := hk
  unfold lawc_22
  refine hz_aload_n (pc' := 1523) (j := 1) dL_law_1522 rfl rfl rfl ?_
  refine hz_aload_n (pc' := 1524) (j := 0) dL_law_1523 rfl rfl rfl ?_
  refine hz_iload (pc' := 1526) (j := 5) dL_law_1524 rfl rfl ?_
  refine hz_iconst (pc' := 1527) (v := 1) dL_law_1526 rfl (by decide) ?_
  refine hz_iadd (pc' := 1528) dL_law_1527 rfl ?_
  refine hz_sld (pc' := 1529) hX hbl hbA dL_law_1528 rfl (fun v1 => ?_)
  refine hz_aload_n (pc' := 1530) (j := 0) dL_law_1529 rfl rfl rfl ?_
  refine hz_iload (pc' := 1532) (j := 5) dL_law_1530 rfl rfl ?_
  refine hz_iconst (pc' := 1533) (v := 2) dL_law_1532 rfl (by decide) ?_
  refine hz_iadd (pc' := 1534) dL_law_1533 rfl ?_
  refine hz_sld (pc' := 1535) hX hbl hbA dL_law_1534 rfl (fun v2 => ?_)
  refine hz_aload_n (pc' := 1536) (j := 3) dL_law_1535 rfl rfl rfl ?_
  refine hz_cW (pc' := 1539) (na := 4) (hh := [(0, 10, 13, 13), (0, 10, 17, 19), (0, 10, 21, 63)]) (av := [.ref (B.1 + 0), .int v1, .int v2, .ref (B.1 + 356)]) (rest := []) hq_1009 hq_1010 hq_0 hq_1011 ⟨by decide, by decide, by decide +kernel⟩ (fun x w' h => ct_L_queued hl h) rfl rfl (Nat.le_of_ble_eq_true rfl) (by decide) ⟨by omega, by omega⟩ rfl dL_law_1536 rfl (fun v3 w4 => ?_)
  refine hz_istore (pc' := 1541) (L' := [(6, .int v3), (0, .ref b), (1, .ref (B.1 + 0)), (2, .ref (B.1 + 336)), (3, .ref (B.1 + 356)), (4, .ref (B.1 + 357)), (5, .int x5)]) dL_law_1539 rfl (by decide) rfl ?_
  refine hz_aload_n (pc' := 1542) (j := 3) dL_law_1541 rfl rfl rfl ?_
  refine hz_aload_n (pc' := 1543) (j := 1) dL_law_1542 rfl rfl rfl ?_
  refine hz_iload (pc' := 1545) (j := 6) dL_law_1543 rfl rfl ?_
  refine hz_iconst (pc' := 1546) (v := 1) dL_law_1545 rfl (by decide) ?_
  refine hz_iadd (pc' := 1547) dL_law_1546 rfl ?_
  refine hz_sld (pc' := 1548) hX hbl hbA dL_law_1547 rfl (fun v5 => ?_)
  refine hz_aload_n (pc' := 1549) (j := 1) dL_law_1548 rfl rfl rfl ?_
  refine hz_iload (pc' := 1551) (j := 6) dL_law_1549 rfl rfl ?_
  refine hz_iconst (pc' := 1552) (v := 2) dL_law_1551 rfl (by decide) ?_
  refine hz_iadd (pc' := 1553) dL_law_1552 rfl ?_
  refine hz_sld (pc' := 1554) hX hbl hbA dL_law_1553 rfl (fun v6 => ?_)
  refine hz_cVi (pc' := 1557) (av := [.int v5, .int v6]) (rest := []) vl_L_225 (fun x w' h => ct_X10_queued hl h) g2 rfl rfl (Nat.le_of_ble_eq_true rfl) (by decide) ⟨by omega, by omega⟩ rfl dL_law_1554 rfl (fun v8 w7 => ?_)
  refine hz_istore (pc' := 1559) (L' := [(7, .int v8), (6, .int v3), (0, .ref b), (1, .ref (B.1 + 0)), (2, .ref (B.1 + 336)), (3, .ref (B.1 + 356)), (4, .ref (B.1 + 357)), (5, .int x5)]) dL_law_1557 rfl (by decide) rfl ?_
  refine hz_aload_n (pc' := 1560) (j := 4) dL_law_1559 rfl rfl rfl ?_
  refine hz_cVi (pc' := 1563) (av := []) (rest := []) vl_L_150 (fun x w' h => ct_X10_thrown hl h) g2 rfl rfl (Nat.le_of_ble_eq_true rfl) (by decide) ⟨by omega, by omega⟩ rfl dL_law_1560 rfl (fun v10 w9 => ?_)
  refine hz_iload (pc' := 1565) (j := 1) dL_law_1563 rfl rfl ?_
  refine hz_icmpeq (pc' := 1568) (tgt := 1570) dL_law_1565 (by decide) rfl ?_ ?_
  · refine hz_iload (pc' := 1572) (j := 1) dL_law_1570 rfl rfl ?_
    refine hz_ifne (pc' := 1575) (tgt := 1587) dL_law_1572 (by decide) rfl ?_ ?_
    · refine hz_goto (tgt := 2647) dL_law_1587 (by decide) ?_
      exact hz_wide (k' := k + 8) (sl' := sl + 48) (by omega) (by omega) rfl (hz_loc [2, 3, 4, 5, 6, 7] rfl (hj w9))
    · refine hz_aload_n (pc' := 1576) (j := 5) dL_law_1575 rfl rfl rfl ?_
      refine hz_iconst (pc' := 1577) (v := 0) dL_law_1576 rfl (by decide) ?_
      refine hz_lald (pc' := 1578) g3 rfl dL_law_1577 rfl (fun v11 => ?_)
      refine hz_iload (pc' := 1580) (j := 0) dL_law_1578 rfl rfl ?_
      refine hz_i2l (pc' := 1581) dL_law_1580 rfl ?_
      refine hz_lcmp (pc' := 1582) dL_law_1581 rfl ?_
      refine hz_ifeq (pc' := 1585) (tgt := 1587) dL_law_1582 (by decide) rfl ?_ ?_
      · refine hz_goto (tgt := 2647) dL_law_1587 (by decide) ?_
        exact hz_wide (k' := k + 8) (sl' := sl + 48) (by omega) (by omega) rfl (hz_loc [2, 3, 4, 5, 6, 7] rfl (hj w9))
      · refine hz_iconst (pc' := 1586) (v := 0) dL_law_1585 rfl (by decide) ?_
        exact hz_no rfl
  · refine hz_iconst (pc' := 1569) (v := 0) dL_law_1568 rfl (by decide) ?_
    exact hz_no rfl
def lawc_23 (xs : Nat → Int32) (Ls : Nat) (x5 : Int32) (w : MW) : Option MW :=
  hz_lds xs Ls (x5 + 1) (fun v1 => hz_b (f_L_estimate 0 v1 356 w) (fun v2 w3 => hz_lds xs Ls (x5 + 1) (fun v4 => hz_b (f_X10_estimate 336 v4 w3) (fun v6 w5 => hz_b (f_X10_thrown 336 w5) (fun v8 w7 => (if v8 = v2 then (if v2 = 0 then hz_let w7.2.2.1 (fun v9 => (if (lg_cmp v9 (Int32.toInt64 v6)) = 0 then some w7 else none)) else some w7) else none))))))
set_option maxHeartbeats 4000000 in
set_option maxRecDepth 100000 in
theorem lct_23 {p : Program} {l : Launch} (hl : l.stackTraces = false) {e : Env} {s : State} {m : MethodId} {args : Array Value} {below : List Frame} {meth : Method} {c : Code} {ret : Option FieldType} {B : Bt} {tb : List ExceptionTableEntry} {ini : Bool} {ρ : Type} {Fi : ρ → State → Prop} {Ko : MW → Option ρ} {b Ls k sl : Nat} {xs : Nat → Int32} (hX : va_X b Ls xs s s.heap) (hbl : b < s.heap.size) (hbA : ¬ hz_A B b) (hk : k + 8 ≤ 603072 ∧ sl + 48 ≤ 7059562) {x5 : Int32} {w : MW} (hj : ∀ w', hz_J p l e (hz_rm 21 603072 7059562) s m args below meth c cL_law 9 RL ret B tb ini false Fi Ko 2647 [(0, .ref b), (1, .ref (B.1 + 0)), (2, .ref (B.1 + 336)), (3, .ref (B.1 + 356)), (4, .ref (B.1 + 357)), (5, .int x5)] [] (k + 8) (sl + 48) 358 w' (some w')) : hz_J p l e (hz_rm 21 603072 7059562) s m args below meth c cL_law 9 RL ret B tb ini false Fi Ko 1590 [(0, .ref b), (1, .ref (B.1 + 0)), (2, .ref (B.1 + 336)), (3, .ref (B.1 + 356)), (4, .ref (B.1 + 357)), (5, .int x5)] [] k sl 358 w (lawc_23 xs Ls x5 w) := by
  have g1 : hz_g 358 0 10 = true := by decide +kernel
  have g2 : hz_g 358 336 11 = true := by decide +kernel
  have g3 : hz_g 358 356 23 = true := by decide +kernel
  have g4 : hz_g 358 357 24 = true := by decide +kernel
  obtain ⟨hk1, hk2⟩ := hk
  unfold lawc_23
  refine hz_aload_n (pc' := 1591) (j := 1) dL_law_1590 rfl rfl rfl ?_
  refine hz_aload_n (pc' := 1592) (j := 0) dL_law_1591 rfl rfl rfl ?_
  refine hz_iload (pc' := 1594) (j := 5) dL_law_1592 rfl rfl ?_
  refine hz_iconst (pc' := 1595) (v := 1) dL_law_1594 rfl (by decide) ?_
  refine hz_iadd (pc' := 1596) dL_law_1595 rfl ?_
  refine hz_sld (pc' := 1597) hX hbl hbA dL_law_1596 rfl (fun v1 => ?_)
  refine hz_aload_n (pc' := 1598) (j := 3) dL_law_1597 rfl rfl rfl ?_
  refine hz_cW (pc' := 1601) (na := 3) (hh := [(0, 9, 12, 13), (0, 9, 15, 19)]) (av := [.ref (B.1 + 0), .int v1, .ref (B.1 + 356)]) (rest := []) hq_1025 hq_1026 hq_0 hq_1027 ⟨by decide, by decide, by decide +kernel⟩ (fun x w' h => ct_L_estimate hl h) rfl rfl (Nat.le_of_ble_eq_true rfl) (by decide) ⟨by omega, by omega⟩ rfl dL_law_1598 rfl (fun v2 w3 => ?_)
  refine hz_istore (pc' := 1603) (L' := [(6, .int v2), (0, .ref b), (1, .ref (B.1 + 0)), (2, .ref (B.1 + 336)), (3, .ref (B.1 + 356)), (4, .ref (B.1 + 357)), (5, .int x5)]) dL_law_1601 rfl (by decide) rfl ?_
  refine hz_aload_n (pc' := 1604) (j := 3) dL_law_1603 rfl rfl rfl ?_
  refine hz_aload_n (pc' := 1605) (j := 1) dL_law_1604 rfl rfl rfl ?_
  refine hz_iload (pc' := 1607) (j := 6) dL_law_1605 rfl rfl ?_
  refine hz_iconst (pc' := 1608) (v := 1) dL_law_1607 rfl (by decide) ?_
  refine hz_iadd (pc' := 1609) dL_law_1608 rfl ?_
  refine hz_sld (pc' := 1610) hX hbl hbA dL_law_1609 rfl (fun v4 => ?_)
  refine hz_cVi (pc' := 1613) (av := [.int v4]) (rest := []) vl_L_228 (fun x w' h => ct_X10_estimate hl h) g2 rfl rfl (Nat.le_of_ble_eq_true rfl) (by decide) ⟨by omega, by omega⟩ rfl dL_law_1610 rfl (fun v6 w5 => ?_)
  refine hz_istore (pc' := 1615) (L' := [(7, .int v6), (6, .int v2), (0, .ref b), (1, .ref (B.1 + 0)), (2, .ref (B.1 + 336)), (3, .ref (B.1 + 356)), (4, .ref (B.1 + 357)), (5, .int x5)]) dL_law_1613 rfl (by decide) rfl ?_
  refine hz_aload_n (pc' := 1616) (j := 4) dL_law_1615 rfl rfl rfl ?_
  refine hz_cVi (pc' := 1619) (av := []) (rest := []) vl_L_150 (fun x w' h => ct_X10_thrown hl h) g2 rfl rfl (Nat.le_of_ble_eq_true rfl) (by decide) ⟨by omega, by omega⟩ rfl dL_law_1616 rfl (fun v8 w7 => ?_)
  refine hz_iload (pc' := 1621) (j := 1) dL_law_1619 rfl rfl ?_
  refine hz_icmpeq (pc' := 1624) (tgt := 1626) dL_law_1621 (by decide) rfl ?_ ?_
  · refine hz_iload (pc' := 1628) (j := 1) dL_law_1626 rfl rfl ?_
    refine hz_ifne (pc' := 1631) (tgt := 1643) dL_law_1628 (by decide) rfl ?_ ?_
    · refine hz_goto (tgt := 2647) dL_law_1643 (by decide) ?_
      exact hz_wide (k' := k + 8) (sl' := sl + 48) (by omega) (by omega) rfl (hz_loc [2, 3, 4, 5, 6, 7] rfl (hj w7))
    · refine hz_aload_n (pc' := 1632) (j := 5) dL_law_1631 rfl rfl rfl ?_
      refine hz_iconst (pc' := 1633) (v := 0) dL_law_1632 rfl (by decide) ?_
      refine hz_lald (pc' := 1634) g3 rfl dL_law_1633 rfl (fun v9 => ?_)
      refine hz_iload (pc' := 1636) (j := 0) dL_law_1634 rfl rfl ?_
      refine hz_i2l (pc' := 1637) dL_law_1636 rfl ?_
      refine hz_lcmp (pc' := 1638) dL_law_1637 rfl ?_
      refine hz_ifeq (pc' := 1641) (tgt := 1643) dL_law_1638 (by decide) rfl ?_ ?_
      · refine hz_goto (tgt := 2647) dL_law_1643 (by decide) ?_
        exact hz_wide (k' := k + 8) (sl' := sl + 48) (by omega) (by omega) rfl (hz_loc [2, 3, 4, 5, 6, 7] rfl (hj w7))
      · refine hz_iconst (pc' := 1642) (v := 0) dL_law_1641 rfl (by decide) ?_
        exact hz_no rfl
  · refine hz_iconst (pc' := 1625) (v := 0) dL_law_1624 rfl (by decide) ?_
    exact hz_no rfl
def lawc_24 (xs : Nat → Int32) (Ls : Nat) (x5 : Int32) (w : MW) : Option MW :=
  hz_lds xs Ls (x5 + 1) (fun v1 => hz_b (f_L_deviation 0 v1 357 w) (fun v2 w3 => hz_lds xs Ls (x5 + 1) (fun v4 => hz_b (f_X10_deviation 336 v4 w3) (fun v6 w5 => hz_b (f_X10_thrown 336 w5) (fun v8 w7 => (if v8 = v2 then (if v2 = 0 then hz_let w7.2.2.2 (fun v9 => (if (Op.cmpValue (FP.dcmp v9 v6) CmpOp.l) = 0 then some w7 else hz_let w7.2.2.2 (fun v10 => hz_let w7.2.2.2 (fun v11 => (if (Op.cmpValue (FP.dcmp v10 v11) CmpOp.l) = 0 then none else (if (Op.cmpValue (FP.dcmp v6 v6) CmpOp.l) = 0 then none else some w7)))))) else some w7) else none))))))
set_option maxHeartbeats 4000000 in
set_option maxRecDepth 100000 in
theorem lct_24 {p : Program} {l : Launch} (hl : l.stackTraces = false) {e : Env} {s : State} {m : MethodId} {args : Array Value} {below : List Frame} {meth : Method} {c : Code} {ret : Option FieldType} {B : Bt} {tb : List ExceptionTableEntry} {ini : Bool} {ρ : Type} {Fi : ρ → State → Prop} {Ko : MW → Option ρ} {b Ls k sl : Nat} {xs : Nat → Int32} (hX : va_X b Ls xs s s.heap) (hbl : b < s.heap.size) (hbA : ¬ hz_A B b) (hk : k + 8 ≤ 603072 ∧ sl + 48 ≤ 7059562) {x5 : Int32} {w : MW} (hj : ∀ w', hz_J p l e (hz_rm 21 603072 7059562) s m args below meth c cL_law 9 RL ret B tb ini false Fi Ko 2647 [(0, .ref b), (1, .ref (B.1 + 0)), (2, .ref (B.1 + 336)), (3, .ref (B.1 + 356)), (4, .ref (B.1 + 357)), (5, .int x5)] [] (k + 8) (sl + 48) 358 w' (some w')) : hz_J p l e (hz_rm 21 603072 7059562) s m args below meth c cL_law 9 RL ret B tb ini false Fi Ko 1646 [(0, .ref b), (1, .ref (B.1 + 0)), (2, .ref (B.1 + 336)), (3, .ref (B.1 + 356)), (4, .ref (B.1 + 357)), (5, .int x5)] [] k sl 358 w (lawc_24 xs Ls x5 w) := by
  have g1 : hz_g 358 0 10 = true := by decide +kernel
  have g2 : hz_g 358 336 11 = true := by decide +kernel
  have g3 : hz_g 358 356 23 = true := by decide +kernel
  have g4 : hz_g 358 357 24 = true := by decide +kernel
  obtain ⟨hk1, hk2⟩ := hk
  unfold lawc_24
  refine hz_aload_n (pc' := 1647) (j := 1) dL_law_1646 rfl rfl rfl ?_
  refine hz_aload_n (pc' := 1648) (j := 0) dL_law_1647 rfl rfl rfl ?_
  refine hz_iload (pc' := 1650) (j := 5) dL_law_1648 rfl rfl ?_
  refine hz_iconst (pc' := 1651) (v := 1) dL_law_1650 rfl (by decide) ?_
  refine hz_iadd (pc' := 1652) dL_law_1651 rfl ?_
  refine hz_sld (pc' := 1653) hX hbl hbA dL_law_1652 rfl (fun v1 => ?_)
  refine hz_aload (pc' := 1655) (j := 4) dL_law_1653 rfl rfl ?_
  refine hz_cW (pc' := 1658) (na := 3) (hh := [(0, 8, 11, 13), (0, 8, 14, 19), (0, 8, 17, 69)]) (av := [.ref (B.1 + 0), .int v1, .ref (B.1 + 357)]) (rest := []) hq_1032 hq_1033 hq_0 hq_1034 ⟨by decide, by decide, by decide +kernel⟩ (fun x w' h => ct_L_deviation hl h) rfl rfl (Nat.le_of_ble_eq_true rfl) (by decide) ⟨by omega, by omega⟩ rfl dL_law_1655 rfl (fun v2 w3 => ?_)
  refine hz_istore (pc' := 1660) (L' := [(6, .int v2), (0, .ref b), (1, .ref (B.1 + 0)), (2, .ref (B.1 + 336)), (3, .ref (B.1 + 356)), (4, .ref (B.1 + 357)), (5, .int x5)]) dL_law_1658 rfl (by decide) rfl ?_
  refine hz_aload_n (pc' := 1661) (j := 3) dL_law_1660 rfl rfl rfl ?_
  refine hz_aload_n (pc' := 1662) (j := 1) dL_law_1661 rfl rfl rfl ?_
  refine hz_iload (pc' := 1664) (j := 6) dL_law_1662 rfl rfl ?_
  refine hz_iconst (pc' := 1665) (v := 1) dL_law_1664 rfl (by decide) ?_
  refine hz_iadd (pc' := 1666) dL_law_1665 rfl ?_
  refine hz_sld (pc' := 1667) hX hbl hbA dL_law_1666 rfl (fun v4 => ?_)
  refine hz_cVd (pc' := 1670) (av := [.int v4]) (rest := []) vl_L_231 (fun x w' h => ct_X10_deviation hl h) g2 rfl rfl (Nat.le_of_ble_eq_true rfl) (by decide) ⟨by omega, by omega⟩ rfl dL_law_1667 rfl (fun v6 w5 => ?_)
  refine hz_dstore (pc' := 1672) (L' := [(7, .double v6), (6, .int v2), (0, .ref b), (1, .ref (B.1 + 0)), (2, .ref (B.1 + 336)), (3, .ref (B.1 + 356)), (4, .ref (B.1 + 357)), (5, .int x5)]) dL_law_1670 rfl (by decide) rfl ?_
  refine hz_aload_n (pc' := 1673) (j := 4) dL_law_1672 rfl rfl rfl ?_
  refine hz_cVi (pc' := 1676) (av := []) (rest := []) vl_L_150 (fun x w' h => ct_X10_thrown hl h) g2 rfl rfl (Nat.le_of_ble_eq_true rfl) (by decide) ⟨by omega, by omega⟩ rfl dL_law_1673 rfl (fun v8 w7 => ?_)
  refine hz_iload (pc' := 1678) (j := 1) dL_law_1676 rfl rfl ?_
  refine hz_icmpeq (pc' := 1681) (tgt := 1683) dL_law_1678 (by decide) rfl ?_ ?_
  · refine hz_iload (pc' := 1685) (j := 1) dL_law_1683 rfl rfl ?_
    refine hz_ifne (pc' := 1688) (tgt := 1720) dL_law_1685 (by decide) rfl ?_ ?_
    · refine hz_goto (tgt := 2647) dL_law_1720 (by decide) ?_
      exact hz_wide (k' := k + 8) (sl' := sl + 48) (by omega) (by omega) rfl (hz_loc [2, 3, 4, 5, 6, 7] rfl (hj w7))
    · refine hz_aload (pc' := 1690) (j := 6) dL_law_1688 rfl rfl ?_
      refine hz_iconst (pc' := 1691) (v := 0) dL_law_1690 rfl (by decide) ?_
      refine hz_dald (pc' := 1692) g4 rfl dL_law_1691 rfl (fun v9 => ?_)
      refine hz_dload (pc' := 1694) (j := 0) dL_law_1692 rfl rfl ?_
      refine hz_dcmp (pc' := 1695) dL_law_1694 rfl ?_
      refine hz_ifeq (pc' := 1698) (tgt := 1720) dL_law_1695 (by decide) rfl ?_ ?_
      · refine hz_goto (tgt := 2647) dL_law_1720 (by decide) ?_
        exact hz_wide (k' := k + 8) (sl' := sl + 48) (by omega) (by omega) rfl (hz_loc [2, 3, 4, 5, 6, 7] rfl (hj w7))
      · refine hz_aload (pc' := 1700) (j := 6) dL_law_1698 rfl rfl ?_
        refine hz_iconst (pc' := 1701) (v := 0) dL_law_1700 rfl (by decide) ?_
        refine hz_dald (pc' := 1702) g4 rfl dL_law_1701 rfl (fun v10 => ?_)
        refine hz_aload (pc' := 1704) (j := 6) dL_law_1702 rfl rfl ?_
        refine hz_iconst (pc' := 1705) (v := 0) dL_law_1704 rfl (by decide) ?_
        refine hz_dald (pc' := 1706) g4 rfl dL_law_1705 rfl (fun v11 => ?_)
        refine hz_dcmp (pc' := 1707) dL_law_1706 rfl ?_
        refine hz_ifeq (pc' := 1710) (tgt := 1718) dL_law_1707 (by decide) rfl ?_ ?_
        · refine hz_iconst (pc' := 1719) (v := 0) dL_law_1718 rfl (by decide) ?_
          exact hz_no rfl
        · refine hz_dload (pc' := 1712) (j := 0) dL_law_1710 rfl rfl ?_
          refine hz_dload (pc' := 1714) (j := 0) dL_law_1712 rfl rfl ?_
          refine hz_dcmp (pc' := 1715) dL_law_1714 rfl ?_
          refine hz_ifne (pc' := 1718) (tgt := 1720) dL_law_1715 (by decide) rfl ?_ ?_
          · refine hz_goto (tgt := 2647) dL_law_1720 (by decide) ?_
            exact hz_wide (k' := k + 8) (sl' := sl + 48) (by omega) (by omega) rfl (hz_loc [2, 3, 4, 5, 6, 7] rfl (hj w7))
          · refine hz_iconst (pc' := 1719) (v := 0) dL_law_1718 rfl (by decide) ?_
            exact hz_no rfl
  · refine hz_iconst (pc' := 1682) (v := 0) dL_law_1681 rfl (by decide) ?_
    exact hz_no rfl
def lawc_25 (xs : Nat → Int32) (Ls : Nat) (x5 : Int32) (w : MW) : Option MW :=
  hz_lds xs Ls (x5 + 1) (fun v1 => hz_b (f_L_willBeDone 0 v1 356 w) (fun v2 w3 => hz_lds xs Ls (x5 + 1) (fun v4 => hz_b (f_X10_willBeDone 336 v4 w3) (fun v6 w5 => hz_b (f_X10_thrown 336 w5) (fun v8 w7 => (if v8 = v2 then (if v2 = 0 then hz_let w7.2.2.1 (fun v9 => (if (lg_cmp v9 (Int32.toInt64 v6)) = 0 then some w7 else none)) else some w7) else none))))))
set_option maxHeartbeats 4000000 in
set_option maxRecDepth 100000 in
theorem lct_25 {p : Program} {l : Launch} (hl : l.stackTraces = false) {e : Env} {s : State} {m : MethodId} {args : Array Value} {below : List Frame} {meth : Method} {c : Code} {ret : Option FieldType} {B : Bt} {tb : List ExceptionTableEntry} {ini : Bool} {ρ : Type} {Fi : ρ → State → Prop} {Ko : MW → Option ρ} {b Ls k sl : Nat} {xs : Nat → Int32} (hX : va_X b Ls xs s s.heap) (hbl : b < s.heap.size) (hbA : ¬ hz_A B b) (hk : k + 8 ≤ 603072 ∧ sl + 48 ≤ 7059562) {x5 : Int32} {w : MW} (hj : ∀ w', hz_J p l e (hz_rm 21 603072 7059562) s m args below meth c cL_law 9 RL ret B tb ini false Fi Ko 2647 [(0, .ref b), (1, .ref (B.1 + 0)), (2, .ref (B.1 + 336)), (3, .ref (B.1 + 356)), (4, .ref (B.1 + 357)), (5, .int x5)] [] (k + 8) (sl + 48) 358 w' (some w')) : hz_J p l e (hz_rm 21 603072 7059562) s m args below meth c cL_law 9 RL ret B tb ini false Fi Ko 1723 [(0, .ref b), (1, .ref (B.1 + 0)), (2, .ref (B.1 + 336)), (3, .ref (B.1 + 356)), (4, .ref (B.1 + 357)), (5, .int x5)] [] k sl 358 w (lawc_25 xs Ls x5 w) := by
  have g1 : hz_g 358 0 10 = true := by decide +kernel
  have g2 : hz_g 358 336 11 = true := by decide +kernel
  have g3 : hz_g 358 356 23 = true := by decide +kernel
  have g4 : hz_g 358 357 24 = true := by decide +kernel
  obtain ⟨hk1, hk2⟩ := hk
  unfold lawc_25
  refine hz_aload_n (pc' := 1724) (j := 1) dL_law_1723 rfl rfl rfl ?_
  refine hz_aload_n (pc' := 1725) (j := 0) dL_law_1724 rfl rfl rfl ?_
  refine hz_iload (pc' := 1727) (j := 5) dL_law_1725 rfl rfl ?_
  refine hz_iconst (pc' := 1728) (v := 1) dL_law_1727 rfl (by decide) ?_
  refine hz_iadd (pc' := 1729) dL_law_1728 rfl ?_
  refine hz_sld (pc' := 1730) hX hbl hbA dL_law_1729 rfl (fun v1 => ?_)
  refine hz_aload_n (pc' := 1731) (j := 3) dL_law_1730 rfl rfl rfl ?_
  refine hz_cW (pc' := 1734) (na := 3) (hh := [(0, 9, 12, 13), (0, 9, 15, 19)]) (av := [.ref (B.1 + 0), .int v1, .ref (B.1 + 356)]) (rest := []) hq_1047 hq_1048 hq_0 hq_1049 ⟨by decide, by decide, by decide +kernel⟩ (fun x w' h => ct_L_willBeDone hl h) rfl rfl (Nat.le_of_ble_eq_true rfl) (by decide) ⟨by omega, by omega⟩ rfl dL_law_1731 rfl (fun v2 w3 => ?_)
  refine hz_istore (pc' := 1736) (L' := [(6, .int v2), (0, .ref b), (1, .ref (B.1 + 0)), (2, .ref (B.1 + 336)), (3, .ref (B.1 + 356)), (4, .ref (B.1 + 357)), (5, .int x5)]) dL_law_1734 rfl (by decide) rfl ?_
  refine hz_aload_n (pc' := 1737) (j := 3) dL_law_1736 rfl rfl rfl ?_
  refine hz_aload_n (pc' := 1738) (j := 1) dL_law_1737 rfl rfl rfl ?_
  refine hz_iload (pc' := 1740) (j := 6) dL_law_1738 rfl rfl ?_
  refine hz_iconst (pc' := 1741) (v := 1) dL_law_1740 rfl (by decide) ?_
  refine hz_iadd (pc' := 1742) dL_law_1741 rfl ?_
  refine hz_sld (pc' := 1743) hX hbl hbA dL_law_1742 rfl (fun v4 => ?_)
  refine hz_cVi (pc' := 1746) (av := [.int v4]) (rest := []) vl_L_234 (fun x w' h => ct_X10_willBeDone hl h) g2 rfl rfl (Nat.le_of_ble_eq_true rfl) (by decide) ⟨by omega, by omega⟩ rfl dL_law_1743 rfl (fun v6 w5 => ?_)
  refine hz_istore (pc' := 1748) (L' := [(7, .int v6), (6, .int v2), (0, .ref b), (1, .ref (B.1 + 0)), (2, .ref (B.1 + 336)), (3, .ref (B.1 + 356)), (4, .ref (B.1 + 357)), (5, .int x5)]) dL_law_1746 rfl (by decide) rfl ?_
  refine hz_aload_n (pc' := 1749) (j := 4) dL_law_1748 rfl rfl rfl ?_
  refine hz_cVi (pc' := 1752) (av := []) (rest := []) vl_L_150 (fun x w' h => ct_X10_thrown hl h) g2 rfl rfl (Nat.le_of_ble_eq_true rfl) (by decide) ⟨by omega, by omega⟩ rfl dL_law_1749 rfl (fun v8 w7 => ?_)
  refine hz_iload (pc' := 1754) (j := 1) dL_law_1752 rfl rfl ?_
  refine hz_icmpeq (pc' := 1757) (tgt := 1759) dL_law_1754 (by decide) rfl ?_ ?_
  · refine hz_iload (pc' := 1761) (j := 1) dL_law_1759 rfl rfl ?_
    refine hz_ifne (pc' := 1764) (tgt := 1776) dL_law_1761 (by decide) rfl ?_ ?_
    · refine hz_goto (tgt := 2647) dL_law_1776 (by decide) ?_
      exact hz_wide (k' := k + 8) (sl' := sl + 48) (by omega) (by omega) rfl (hz_loc [2, 3, 4, 5, 6, 7] rfl (hj w7))
    · refine hz_aload_n (pc' := 1765) (j := 5) dL_law_1764 rfl rfl rfl ?_
      refine hz_iconst (pc' := 1766) (v := 0) dL_law_1765 rfl (by decide) ?_
      refine hz_lald (pc' := 1767) g3 rfl dL_law_1766 rfl (fun v9 => ?_)
      refine hz_iload (pc' := 1769) (j := 0) dL_law_1767 rfl rfl ?_
      refine hz_i2l (pc' := 1770) dL_law_1769 rfl ?_
      refine hz_lcmp (pc' := 1771) dL_law_1770 rfl ?_
      refine hz_ifeq (pc' := 1774) (tgt := 1776) dL_law_1771 (by decide) rfl ?_ ?_
      · refine hz_goto (tgt := 2647) dL_law_1776 (by decide) ?_
        exact hz_wide (k' := k + 8) (sl' := sl + 48) (by omega) (by omega) rfl (hz_loc [2, 3, 4, 5, 6, 7] rfl (hj w7))
      · refine hz_iconst (pc' := 1775) (v := 0) dL_law_1774 rfl (by decide) ?_
        exact hz_no rfl
  · refine hz_iconst (pc' := 1758) (v := 0) dL_law_1757 rfl (by decide) ?_
    exact hz_no rfl
def lawc_26 (xs : Nat → Int32) (Ls : Nat) (x5 : Int32) (w : MW) : Option MW :=
  hz_b (f_L_allOver 0 356 w) (fun v1 w2 => hz_b (f_X10_allOver 336 w2) (fun v4 w3 => hz_b (f_X10_thrown 336 w3) (fun v6 w5 => (if v6 = v1 then (if v1 = 0 then hz_let w5.2.2.1 (fun v7 => (if (lg_cmp v7 (Int32.toInt64 v4)) = 0 then some w5 else none)) else some w5) else none))))
set_option maxHeartbeats 4000000 in
set_option maxRecDepth 100000 in
theorem lct_26 {p : Program} {l : Launch} (hl : l.stackTraces = false) {e : Env} {s : State} {m : MethodId} {args : Array Value} {below : List Frame} {meth : Method} {c : Code} {ret : Option FieldType} {B : Bt} {tb : List ExceptionTableEntry} {ini : Bool} {ρ : Type} {Fi : ρ → State → Prop} {Ko : MW → Option ρ} {b Ls k sl : Nat} {xs : Nat → Int32} (hX : va_X b Ls xs s s.heap) (hbl : b < s.heap.size) (hbA : ¬ hz_A B b) (hk : k + 8 ≤ 603072 ∧ sl + 48 ≤ 7059562) {x5 : Int32} {w : MW} (hj : ∀ w', hz_J p l e (hz_rm 21 603072 7059562) s m args below meth c cL_law 9 RL ret B tb ini false Fi Ko 2647 [(0, .ref b), (1, .ref (B.1 + 0)), (2, .ref (B.1 + 336)), (3, .ref (B.1 + 356)), (4, .ref (B.1 + 357)), (5, .int x5)] [] (k + 8) (sl + 48) 358 w' (some w')) : hz_J p l e (hz_rm 21 603072 7059562) s m args below meth c cL_law 9 RL ret B tb ini false Fi Ko 1779 [(0, .ref b), (1, .ref (B.1 + 0)), (2, .ref (B.1 + 336)), (3, .ref (B.1 + 356)), (4, .ref (B.1 + 357)), (5, .int x5)] [] k sl 358 w (lawc_26 xs Ls x5 w) := by
  have g1 : hz_g 358 0 10 = true := by decide +kernel
  have g2 : hz_g 358 336 11 = true := by decide +kernel
  have g3 : hz_g 358 356 23 = true := by decide +kernel
  have g4 : hz_g 358 357 24 = true := by decide +kernel
  obtain ⟨hk1, hk2⟩ := hk
  unfold lawc_26
  refine hz_aload_n (pc' := 1780) (j := 1) dL_law_1779 rfl rfl rfl ?_
  refine hz_aload_n (pc' := 1781) (j := 3) dL_law_1780 rfl rfl rfl ?_
  refine hz_cW (pc' := 1784) (na := 2) (hh := [(0, 8, 11, 13)]) (av := [.ref (B.1 + 0), .ref (B.1 + 356)]) (rest := []) hq_1055 hq_1056 hq_0 hq_1057 ⟨by decide, by decide, by decide +kernel⟩ (fun x w' h => ct_L_allOver hl h) rfl rfl (Nat.le_of_ble_eq_true rfl) (by decide) ⟨by omega, by omega⟩ rfl dL_law_1781 rfl (fun v1 w2 => ?_)
  refine hz_istore (pc' := 1786) (L' := [(6, .int v1), (0, .ref b), (1, .ref (B.1 + 0)), (2, .ref (B.1 + 336)), (3, .ref (B.1 + 356)), (4, .ref (B.1 + 357)), (5, .int x5)]) dL_law_1784 rfl (by decide) rfl ?_
  refine hz_aload_n (pc' := 1787) (j := 3) dL_law_1786 rfl rfl rfl ?_
  refine hz_cVi (pc' := 1790) (av := []) (rest := []) vl_L_237 (fun x w' h => ct_X10_allOver hl h) g2 rfl rfl (Nat.le_of_ble_eq_true rfl) (by decide) ⟨by omega, by omega⟩ rfl dL_law_1787 rfl (fun v4 w3 => ?_)
  refine hz_istore (pc' := 1792) (L' := [(7, .int v4), (6, .int v1), (0, .ref b), (1, .ref (B.1 + 0)), (2, .ref (B.1 + 336)), (3, .ref (B.1 + 356)), (4, .ref (B.1 + 357)), (5, .int x5)]) dL_law_1790 rfl (by decide) rfl ?_
  refine hz_aload_n (pc' := 1793) (j := 4) dL_law_1792 rfl rfl rfl ?_
  refine hz_cVi (pc' := 1796) (av := []) (rest := []) vl_L_150 (fun x w' h => ct_X10_thrown hl h) g2 rfl rfl (Nat.le_of_ble_eq_true rfl) (by decide) ⟨by omega, by omega⟩ rfl dL_law_1793 rfl (fun v6 w5 => ?_)
  refine hz_iload (pc' := 1798) (j := 1) dL_law_1796 rfl rfl ?_
  refine hz_icmpeq (pc' := 1801) (tgt := 1803) dL_law_1798 (by decide) rfl ?_ ?_
  · refine hz_iload (pc' := 1805) (j := 1) dL_law_1803 rfl rfl ?_
    refine hz_ifne (pc' := 1808) (tgt := 1820) dL_law_1805 (by decide) rfl ?_ ?_
    · refine hz_goto (tgt := 2647) dL_law_1820 (by decide) ?_
      exact hz_wide (k' := k + 8) (sl' := sl + 48) (by omega) (by omega) rfl (hz_loc [2, 3, 4, 5, 6, 7] rfl (hj w5))
    · refine hz_aload_n (pc' := 1809) (j := 5) dL_law_1808 rfl rfl rfl ?_
      refine hz_iconst (pc' := 1810) (v := 0) dL_law_1809 rfl (by decide) ?_
      refine hz_lald (pc' := 1811) g3 rfl dL_law_1810 rfl (fun v7 => ?_)
      refine hz_iload (pc' := 1813) (j := 0) dL_law_1811 rfl rfl ?_
      refine hz_i2l (pc' := 1814) dL_law_1813 rfl ?_
      refine hz_lcmp (pc' := 1815) dL_law_1814 rfl ?_
      refine hz_ifeq (pc' := 1818) (tgt := 1820) dL_law_1815 (by decide) rfl ?_ ?_
      · refine hz_goto (tgt := 2647) dL_law_1820 (by decide) ?_
        exact hz_wide (k' := k + 8) (sl' := sl + 48) (by omega) (by omega) rfl (hz_loc [2, 3, 4, 5, 6, 7] rfl (hj w5))
      · refine hz_iconst (pc' := 1819) (v := 0) dL_law_1818 rfl (by decide) ?_
        exact hz_no rfl
  · refine hz_iconst (pc' := 1802) (v := 0) dL_law_1801 rfl (by decide) ?_
    exact hz_no rfl
def lawc_27 (xs : Nat → Int32) (Ls : Nat) (x5 : Int32) (w : MW) : Option MW :=
  hz_b (f_L_willBeLate 0 356 w) (fun v1 w2 => hz_b (f_X10_willBeLate 336 w2) (fun v4 w3 => hz_b (f_X10_thrown 336 w3) (fun v6 w5 => (if v6 = v1 then (if v1 = 0 then hz_let w5.2.2.1 (fun v7 => (if (lg_cmp v7 (Int32.toInt64 v4)) = 0 then some w5 else none)) else some w5) else none))))
set_option maxHeartbeats 4000000 in
set_option maxRecDepth 100000 in
theorem lct_27 {p : Program} {l : Launch} (hl : l.stackTraces = false) {e : Env} {s : State} {m : MethodId} {args : Array Value} {below : List Frame} {meth : Method} {c : Code} {ret : Option FieldType} {B : Bt} {tb : List ExceptionTableEntry} {ini : Bool} {ρ : Type} {Fi : ρ → State → Prop} {Ko : MW → Option ρ} {b Ls k sl : Nat} {xs : Nat → Int32} (hX : va_X b Ls xs s s.heap) (hbl : b < s.heap.size) (hbA : ¬ hz_A B b) (hk : k + 8 ≤ 603072 ∧ sl + 48 ≤ 7059562) {x5 : Int32} {w : MW} (hj : ∀ w', hz_J p l e (hz_rm 21 603072 7059562) s m args below meth c cL_law 9 RL ret B tb ini false Fi Ko 2647 [(0, .ref b), (1, .ref (B.1 + 0)), (2, .ref (B.1 + 336)), (3, .ref (B.1 + 356)), (4, .ref (B.1 + 357)), (5, .int x5)] [] (k + 8) (sl + 48) 358 w' (some w')) : hz_J p l e (hz_rm 21 603072 7059562) s m args below meth c cL_law 9 RL ret B tb ini false Fi Ko 1823 [(0, .ref b), (1, .ref (B.1 + 0)), (2, .ref (B.1 + 336)), (3, .ref (B.1 + 356)), (4, .ref (B.1 + 357)), (5, .int x5)] [] k sl 358 w (lawc_27 xs Ls x5 w) := by
  have g1 : hz_g 358 0 10 = true := by decide +kernel
  have g2 : hz_g 358 336 11 = true := by decide +kernel
  have g3 : hz_g 358 356 23 = true := by decide +kernel
  have g4 : hz_g 358 357 24 = true := by decide +kernel
  obtain ⟨hk1, hk2⟩ := hk
  unfold lawc_27
  refine hz_aload_n (pc' := 1824) (j := 1) dL_law_1823 rfl rfl rfl ?_
  refine hz_aload_n (pc' := 1825) (j := 3) dL_law_1824 rfl rfl rfl ?_
  refine hz_cW (pc' := 1828) (na := 2) (hh := [(0, 8, 11, 13)]) (av := [.ref (B.1 + 0), .ref (B.1 + 356)]) (rest := []) hq_1072 hq_1073 hq_0 hq_1074 ⟨by decide, by decide, by decide +kernel⟩ (fun x w' h => ct_L_willBeLate hl h) rfl rfl (Nat.le_of_ble_eq_true rfl) (by decide) ⟨by omega, by omega⟩ rfl dL_law_1825 rfl (fun v1 w2 => ?_)
  refine hz_istore (pc' := 1830) (L' := [(6, .int v1), (0, .ref b), (1, .ref (B.1 + 0)), (2, .ref (B.1 + 336)), (3, .ref (B.1 + 356)), (4, .ref (B.1 + 357)), (5, .int x5)]) dL_law_1828 rfl (by decide) rfl ?_
  refine hz_aload_n (pc' := 1831) (j := 3) dL_law_1830 rfl rfl rfl ?_
  refine hz_cVi (pc' := 1834) (av := []) (rest := []) vl_L_240 (fun x w' h => ct_X10_willBeLate hl h) g2 rfl rfl (Nat.le_of_ble_eq_true rfl) (by decide) ⟨by omega, by omega⟩ rfl dL_law_1831 rfl (fun v4 w3 => ?_)
  refine hz_istore (pc' := 1836) (L' := [(7, .int v4), (6, .int v1), (0, .ref b), (1, .ref (B.1 + 0)), (2, .ref (B.1 + 336)), (3, .ref (B.1 + 356)), (4, .ref (B.1 + 357)), (5, .int x5)]) dL_law_1834 rfl (by decide) rfl ?_
  refine hz_aload_n (pc' := 1837) (j := 4) dL_law_1836 rfl rfl rfl ?_
  refine hz_cVi (pc' := 1840) (av := []) (rest := []) vl_L_150 (fun x w' h => ct_X10_thrown hl h) g2 rfl rfl (Nat.le_of_ble_eq_true rfl) (by decide) ⟨by omega, by omega⟩ rfl dL_law_1837 rfl (fun v6 w5 => ?_)
  refine hz_iload (pc' := 1842) (j := 1) dL_law_1840 rfl rfl ?_
  refine hz_icmpeq (pc' := 1845) (tgt := 1847) dL_law_1842 (by decide) rfl ?_ ?_
  · refine hz_iload (pc' := 1849) (j := 1) dL_law_1847 rfl rfl ?_
    refine hz_ifne (pc' := 1852) (tgt := 1864) dL_law_1849 (by decide) rfl ?_ ?_
    · refine hz_goto (tgt := 2647) dL_law_1864 (by decide) ?_
      exact hz_wide (k' := k + 8) (sl' := sl + 48) (by omega) (by omega) rfl (hz_loc [2, 3, 4, 5, 6, 7] rfl (hj w5))
    · refine hz_aload_n (pc' := 1853) (j := 5) dL_law_1852 rfl rfl rfl ?_
      refine hz_iconst (pc' := 1854) (v := 0) dL_law_1853 rfl (by decide) ?_
      refine hz_lald (pc' := 1855) g3 rfl dL_law_1854 rfl (fun v7 => ?_)
      refine hz_iload (pc' := 1857) (j := 0) dL_law_1855 rfl rfl ?_
      refine hz_i2l (pc' := 1858) dL_law_1857 rfl ?_
      refine hz_lcmp (pc' := 1859) dL_law_1858 rfl ?_
      refine hz_ifeq (pc' := 1862) (tgt := 1864) dL_law_1859 (by decide) rfl ?_ ?_
      · refine hz_goto (tgt := 2647) dL_law_1864 (by decide) ?_
        exact hz_wide (k' := k + 8) (sl' := sl + 48) (by omega) (by omega) rfl (hz_loc [2, 3, 4, 5, 6, 7] rfl (hj w5))
      · refine hz_iconst (pc' := 1863) (v := 0) dL_law_1862 rfl (by decide) ?_
        exact hz_no rfl
  · refine hz_iconst (pc' := 1846) (v := 0) dL_law_1845 rfl (by decide) ?_
    exact hz_no rfl
def lawc_28 (xs : Nat → Int32) (Ls : Nat) (x5 : Int32) (w : MW) : Option MW :=
  hz_lds xs Ls (x5 + 1) (fun v1 => hz_lds xs Ls (x5 + 2) (fun v2 => hz_b (f_L_peak 0 v1 v2 356 w) (fun v3 w4 => hz_lds xs Ls (x5 + 1) (fun v5 => hz_lds xs Ls (x5 + 2) (fun v6 => hz_b (f_X10_peak 336 v5 v6 w4) (fun v8 w7 => hz_b (f_X10_thrown 336 w7) (fun v10 w9 => (if v10 = v3 then (if v3 = 0 then hz_let w9.2.2.1 (fun v11 => (if (lg_cmp v11 (Int32.toInt64 v8)) = 0 then some w9 else none)) else some w9) else none))))))))
set_option maxHeartbeats 4000000 in
set_option maxRecDepth 100000 in
theorem lct_28 {p : Program} {l : Launch} (hl : l.stackTraces = false) {e : Env} {s : State} {m : MethodId} {args : Array Value} {below : List Frame} {meth : Method} {c : Code} {ret : Option FieldType} {B : Bt} {tb : List ExceptionTableEntry} {ini : Bool} {ρ : Type} {Fi : ρ → State → Prop} {Ko : MW → Option ρ} {b Ls k sl : Nat} {xs : Nat → Int32} (hX : va_X b Ls xs s s.heap) (hbl : b < s.heap.size) (hbA : ¬ hz_A B b) (hk : k + 8 ≤ 603072 ∧ sl + 48 ≤ 7059562) {x5 : Int32} {w : MW} (hj : ∀ w', hz_J p l e (hz_rm 21 603072 7059562) s m args below meth c cL_law 9 RL ret B tb ini false Fi Ko 2647 [(0, .ref b), (1, .ref (B.1 + 0)), (2, .ref (B.1 + 336)), (3, .ref (B.1 + 356)), (4, .ref (B.1 + 357)), (5, .int x5)] [] (k + 8) (sl + 48) 358 w' (some w')) : hz_J p l e (hz_rm 21 603072 7059562) s m args below meth c cL_law 9 RL ret B tb ini false Fi Ko 1867 [(0, .ref b), (1, .ref (B.1 + 0)), (2, .ref (B.1 + 336)), (3, .ref (B.1 + 356)), (4, .ref (B.1 + 357)), (5, .int x5)] [] k sl 358 w (lawc_28 xs Ls x5 w) := by
  have g1 : hz_g 358 0 10 = true := by decide +kernel
  have g2 : hz_g 358 336 11 = true := by decide +kernel
  have g3 : hz_g 358 356 23 = true := by decide +kernel
  have g4 : hz_g 358 357 24 = true := by decide +kernel
  obtain ⟨hk1, hk2⟩ := hk
  unfold lawc_28
  refine hz_aload_n (pc' := 1868) (j := 1) dL_law_1867 rfl rfl rfl ?_
  refine hz_aload_n (pc' := 1869) (j := 0) dL_law_1868 rfl rfl rfl ?_
  refine hz_iload (pc' := 1871) (j := 5) dL_law_1869 rfl rfl ?_
  refine hz_iconst (pc' := 1872) (v := 1) dL_law_1871 rfl (by decide) ?_
  refine hz_iadd (pc' := 1873) dL_law_1872 rfl ?_
  refine hz_sld (pc' := 1874) hX hbl hbA dL_law_1873 rfl (fun v1 => ?_)
  refine hz_aload_n (pc' := 1875) (j := 0) dL_law_1874 rfl rfl rfl ?_
  refine hz_iload (pc' := 1877) (j := 5) dL_law_1875 rfl rfl ?_
  refine hz_iconst (pc' := 1878) (v := 2) dL_law_1877 rfl (by decide) ?_
  refine hz_iadd (pc' := 1879) dL_law_1878 rfl ?_
  refine hz_sld (pc' := 1880) hX hbl hbA dL_law_1879 rfl (fun v2 => ?_)
  refine hz_aload_n (pc' := 1881) (j := 3) dL_law_1880 rfl rfl rfl ?_
  refine hz_cW (pc' := 1884) (na := 4) (hh := [(0, 10, 13, 13), (0, 10, 17, 19)]) (av := [.ref (B.1 + 0), .int v1, .int v2, .ref (B.1 + 356)]) (rest := []) hq_1084 hq_1085 hq_0 hq_1086 ⟨by decide, by decide, by decide +kernel⟩ (fun x w' h => ct_L_peak hl h) rfl rfl (Nat.le_of_ble_eq_true rfl) (by decide) ⟨by omega, by omega⟩ rfl dL_law_1881 rfl (fun v3 w4 => ?_)
  refine hz_istore (pc' := 1886) (L' := [(6, .int v3), (0, .ref b), (1, .ref (B.1 + 0)), (2, .ref (B.1 + 336)), (3, .ref (B.1 + 356)), (4, .ref (B.1 + 357)), (5, .int x5)]) dL_law_1884 rfl (by decide) rfl ?_
  refine hz_aload_n (pc' := 1887) (j := 3) dL_law_1886 rfl rfl rfl ?_
  refine hz_aload_n (pc' := 1888) (j := 1) dL_law_1887 rfl rfl rfl ?_
  refine hz_iload (pc' := 1890) (j := 6) dL_law_1888 rfl rfl ?_
  refine hz_iconst (pc' := 1891) (v := 1) dL_law_1890 rfl (by decide) ?_
  refine hz_iadd (pc' := 1892) dL_law_1891 rfl ?_
  refine hz_sld (pc' := 1893) hX hbl hbA dL_law_1892 rfl (fun v5 => ?_)
  refine hz_aload_n (pc' := 1894) (j := 1) dL_law_1893 rfl rfl rfl ?_
  refine hz_iload (pc' := 1896) (j := 6) dL_law_1894 rfl rfl ?_
  refine hz_iconst (pc' := 1897) (v := 2) dL_law_1896 rfl (by decide) ?_
  refine hz_iadd (pc' := 1898) dL_law_1897 rfl ?_
  refine hz_sld (pc' := 1899) hX hbl hbA dL_law_1898 rfl (fun v6 => ?_)
  refine hz_cVi (pc' := 1902) (av := [.int v5, .int v6]) (rest := []) vl_L_243 (fun x w' h => ct_X10_peak hl h) g2 rfl rfl (Nat.le_of_ble_eq_true rfl) (by decide) ⟨by omega, by omega⟩ rfl dL_law_1899 rfl (fun v8 w7 => ?_)
  refine hz_istore (pc' := 1904) (L' := [(7, .int v8), (6, .int v3), (0, .ref b), (1, .ref (B.1 + 0)), (2, .ref (B.1 + 336)), (3, .ref (B.1 + 356)), (4, .ref (B.1 + 357)), (5, .int x5)]) dL_law_1902 rfl (by decide) rfl ?_
  refine hz_aload_n (pc' := 1905) (j := 4) dL_law_1904 rfl rfl rfl ?_
  refine hz_cVi (pc' := 1908) (av := []) (rest := []) vl_L_150 (fun x w' h => ct_X10_thrown hl h) g2 rfl rfl (Nat.le_of_ble_eq_true rfl) (by decide) ⟨by omega, by omega⟩ rfl dL_law_1905 rfl (fun v10 w9 => ?_)
  refine hz_iload (pc' := 1910) (j := 1) dL_law_1908 rfl rfl ?_
  refine hz_icmpeq (pc' := 1913) (tgt := 1915) dL_law_1910 (by decide) rfl ?_ ?_
  · refine hz_iload (pc' := 1917) (j := 1) dL_law_1915 rfl rfl ?_
    refine hz_ifne (pc' := 1920) (tgt := 1932) dL_law_1917 (by decide) rfl ?_ ?_
    · refine hz_goto (tgt := 2647) dL_law_1932 (by decide) ?_
      exact hz_wide (k' := k + 8) (sl' := sl + 48) (by omega) (by omega) rfl (hz_loc [2, 3, 4, 5, 6, 7] rfl (hj w9))
    · refine hz_aload_n (pc' := 1921) (j := 5) dL_law_1920 rfl rfl rfl ?_
      refine hz_iconst (pc' := 1922) (v := 0) dL_law_1921 rfl (by decide) ?_
      refine hz_lald (pc' := 1923) g3 rfl dL_law_1922 rfl (fun v11 => ?_)
      refine hz_iload (pc' := 1925) (j := 0) dL_law_1923 rfl rfl ?_
      refine hz_i2l (pc' := 1926) dL_law_1925 rfl ?_
      refine hz_lcmp (pc' := 1927) dL_law_1926 rfl ?_
      refine hz_ifeq (pc' := 1930) (tgt := 1932) dL_law_1927 (by decide) rfl ?_ ?_
      · refine hz_goto (tgt := 2647) dL_law_1932 (by decide) ?_
        exact hz_wide (k' := k + 8) (sl' := sl + 48) (by omega) (by omega) rfl (hz_loc [2, 3, 4, 5, 6, 7] rfl (hj w9))
      · refine hz_iconst (pc' := 1931) (v := 0) dL_law_1930 rfl (by decide) ?_
        exact hz_no rfl
  · refine hz_iconst (pc' := 1914) (v := 0) dL_law_1913 rfl (by decide) ?_
    exact hz_no rfl
def lawc_29 (xs : Nat → Int32) (Ls : Nat) (x5 : Int32) (w : MW) : Option MW :=
  hz_lds xs Ls (x5 + 1) (fun v1 => hz_b (f_L_energyIn 0 v1 356 w) (fun v2 w3 => hz_lds xs Ls (x5 + 1) (fun v4 => hz_b (f_X10_energyIn 336 v4 w3) (fun v6 w5 => hz_b (f_X10_thrown 336 w5) (fun v8 w7 => (if v8 = v2 then (if v2 = 0 then hz_let w7.2.2.1 (fun v9 => (if (lg_cmp v9 (Int32.toInt64 v6)) = 0 then some w7 else none)) else some w7) else none))))))
set_option maxHeartbeats 4000000 in
set_option maxRecDepth 100000 in
theorem lct_29 {p : Program} {l : Launch} (hl : l.stackTraces = false) {e : Env} {s : State} {m : MethodId} {args : Array Value} {below : List Frame} {meth : Method} {c : Code} {ret : Option FieldType} {B : Bt} {tb : List ExceptionTableEntry} {ini : Bool} {ρ : Type} {Fi : ρ → State → Prop} {Ko : MW → Option ρ} {b Ls k sl : Nat} {xs : Nat → Int32} (hX : va_X b Ls xs s s.heap) (hbl : b < s.heap.size) (hbA : ¬ hz_A B b) (hk : k + 8 ≤ 603072 ∧ sl + 48 ≤ 7059562) {x5 : Int32} {w : MW} (hj : ∀ w', hz_J p l e (hz_rm 21 603072 7059562) s m args below meth c cL_law 9 RL ret B tb ini false Fi Ko 2647 [(0, .ref b), (1, .ref (B.1 + 0)), (2, .ref (B.1 + 336)), (3, .ref (B.1 + 356)), (4, .ref (B.1 + 357)), (5, .int x5)] [] (k + 8) (sl + 48) 358 w' (some w')) : hz_J p l e (hz_rm 21 603072 7059562) s m args below meth c cL_law 9 RL ret B tb ini false Fi Ko 1935 [(0, .ref b), (1, .ref (B.1 + 0)), (2, .ref (B.1 + 336)), (3, .ref (B.1 + 356)), (4, .ref (B.1 + 357)), (5, .int x5)] [] k sl 358 w (lawc_29 xs Ls x5 w) := by
  have g1 : hz_g 358 0 10 = true := by decide +kernel
  have g2 : hz_g 358 336 11 = true := by decide +kernel
  have g3 : hz_g 358 356 23 = true := by decide +kernel
  have g4 : hz_g 358 357 24 = true := by decide +kernel
  obtain ⟨hk1, hk2⟩ := hk
  unfold lawc_29
  refine hz_aload_n (pc' := 1936) (j := 1) dL_law_1935 rfl rfl rfl ?_
  refine hz_aload_n (pc' := 1937) (j := 0) dL_law_1936 rfl rfl rfl ?_
  refine hz_iload (pc' := 1939) (j := 5) dL_law_1937 rfl rfl ?_
  refine hz_iconst (pc' := 1940) (v := 1) dL_law_1939 rfl (by decide) ?_
  refine hz_iadd (pc' := 1941) dL_law_1940 rfl ?_
  refine hz_sld (pc' := 1942) hX hbl hbA dL_law_1941 rfl (fun v1 => ?_)
  refine hz_aload_n (pc' := 1943) (j := 3) dL_law_1942 rfl rfl rfl ?_
  refine hz_cW (pc' := 1946) (na := 3) (hh := [(0, 9, 12, 13), (0, 9, 15, 19)]) (av := [.ref (B.1 + 0), .int v1, .ref (B.1 + 356)]) (rest := []) hq_1092 hq_1093 hq_0 hq_1094 ⟨by decide, by decide, by decide +kernel⟩ (fun x w' h => ct_L_energyIn hl h) rfl rfl (Nat.le_of_ble_eq_true rfl) (by decide) ⟨by omega, by omega⟩ rfl dL_law_1943 rfl (fun v2 w3 => ?_)
  refine hz_istore (pc' := 1948) (L' := [(6, .int v2), (0, .ref b), (1, .ref (B.1 + 0)), (2, .ref (B.1 + 336)), (3, .ref (B.1 + 356)), (4, .ref (B.1 + 357)), (5, .int x5)]) dL_law_1946 rfl (by decide) rfl ?_
  refine hz_aload_n (pc' := 1949) (j := 3) dL_law_1948 rfl rfl rfl ?_
  refine hz_aload_n (pc' := 1950) (j := 1) dL_law_1949 rfl rfl rfl ?_
  refine hz_iload (pc' := 1952) (j := 6) dL_law_1950 rfl rfl ?_
  refine hz_iconst (pc' := 1953) (v := 1) dL_law_1952 rfl (by decide) ?_
  refine hz_iadd (pc' := 1954) dL_law_1953 rfl ?_
  refine hz_sld (pc' := 1955) hX hbl hbA dL_law_1954 rfl (fun v4 => ?_)
  refine hz_cVi (pc' := 1958) (av := [.int v4]) (rest := []) vl_L_246 (fun x w' h => ct_X10_energyIn hl h) g2 rfl rfl (Nat.le_of_ble_eq_true rfl) (by decide) ⟨by omega, by omega⟩ rfl dL_law_1955 rfl (fun v6 w5 => ?_)
  refine hz_istore (pc' := 1960) (L' := [(7, .int v6), (6, .int v2), (0, .ref b), (1, .ref (B.1 + 0)), (2, .ref (B.1 + 336)), (3, .ref (B.1 + 356)), (4, .ref (B.1 + 357)), (5, .int x5)]) dL_law_1958 rfl (by decide) rfl ?_
  refine hz_aload_n (pc' := 1961) (j := 4) dL_law_1960 rfl rfl rfl ?_
  refine hz_cVi (pc' := 1964) (av := []) (rest := []) vl_L_150 (fun x w' h => ct_X10_thrown hl h) g2 rfl rfl (Nat.le_of_ble_eq_true rfl) (by decide) ⟨by omega, by omega⟩ rfl dL_law_1961 rfl (fun v8 w7 => ?_)
  refine hz_iload (pc' := 1966) (j := 1) dL_law_1964 rfl rfl ?_
  refine hz_icmpeq (pc' := 1969) (tgt := 1971) dL_law_1966 (by decide) rfl ?_ ?_
  · refine hz_iload (pc' := 1973) (j := 1) dL_law_1971 rfl rfl ?_
    refine hz_ifne (pc' := 1976) (tgt := 1988) dL_law_1973 (by decide) rfl ?_ ?_
    · refine hz_goto (tgt := 2647) dL_law_1988 (by decide) ?_
      exact hz_wide (k' := k + 8) (sl' := sl + 48) (by omega) (by omega) rfl (hz_loc [2, 3, 4, 5, 6, 7] rfl (hj w7))
    · refine hz_aload_n (pc' := 1977) (j := 5) dL_law_1976 rfl rfl rfl ?_
      refine hz_iconst (pc' := 1978) (v := 0) dL_law_1977 rfl (by decide) ?_
      refine hz_lald (pc' := 1979) g3 rfl dL_law_1978 rfl (fun v9 => ?_)
      refine hz_iload (pc' := 1981) (j := 0) dL_law_1979 rfl rfl ?_
      refine hz_i2l (pc' := 1982) dL_law_1981 rfl ?_
      refine hz_lcmp (pc' := 1983) dL_law_1982 rfl ?_
      refine hz_ifeq (pc' := 1986) (tgt := 1988) dL_law_1983 (by decide) rfl ?_ ?_
      · refine hz_goto (tgt := 2647) dL_law_1988 (by decide) ?_
        exact hz_wide (k' := k + 8) (sl' := sl + 48) (by omega) (by omega) rfl (hz_loc [2, 3, 4, 5, 6, 7] rfl (hj w7))
      · refine hz_iconst (pc' := 1987) (v := 0) dL_law_1986 rfl (by decide) ?_
        exact hz_no rfl
  · refine hz_iconst (pc' := 1970) (v := 0) dL_law_1969 rfl (by decide) ?_
    exact hz_no rfl
def lawc_30 (xs : Nat → Int32) (Ls : Nat) (x5 : Int32) (w : MW) : Option MW :=
  hz_lds xs Ls (x5 + 1) (fun v1 => hz_b (f_L_nextThrottle 0 v1 356 w) (fun v2 w3 => hz_lds xs Ls (x5 + 1) (fun v4 => hz_b (f_X10_nextThrottle 336 v4 w3) (fun v6 w5 => hz_b (f_X10_thrown 336 w5) (fun v8 w7 => (if v8 = v2 then (if v2 = 0 then hz_let w7.2.2.1 (fun v9 => (if (lg_cmp v9 (Int32.toInt64 v6)) = 0 then some w7 else none)) else some w7) else none))))))
set_option maxHeartbeats 4000000 in
set_option maxRecDepth 100000 in
theorem lct_30 {p : Program} {l : Launch} (hl : l.stackTraces = false) {e : Env} {s : State} {m : MethodId} {args : Array Value} {below : List Frame} {meth : Method} {c : Code} {ret : Option FieldType} {B : Bt} {tb : List ExceptionTableEntry} {ini : Bool} {ρ : Type} {Fi : ρ → State → Prop} {Ko : MW → Option ρ} {b Ls k sl : Nat} {xs : Nat → Int32} (hX : va_X b Ls xs s s.heap) (hbl : b < s.heap.size) (hbA : ¬ hz_A B b) (hk : k + 8 ≤ 603072 ∧ sl + 48 ≤ 7059562) {x5 : Int32} {w : MW} (hj : ∀ w', hz_J p l e (hz_rm 21 603072 7059562) s m args below meth c cL_law 9 RL ret B tb ini false Fi Ko 2647 [(0, .ref b), (1, .ref (B.1 + 0)), (2, .ref (B.1 + 336)), (3, .ref (B.1 + 356)), (4, .ref (B.1 + 357)), (5, .int x5)] [] (k + 8) (sl + 48) 358 w' (some w')) : hz_J p l e (hz_rm 21 603072 7059562) s m args below meth c cL_law 9 RL ret B tb ini false Fi Ko 1991 [(0, .ref b), (1, .ref (B.1 + 0)), (2, .ref (B.1 + 336)), (3, .ref (B.1 + 356)), (4, .ref (B.1 + 357)), (5, .int x5)] [] k sl 358 w (lawc_30 xs Ls x5 w) := by
  have g1 : hz_g 358 0 10 = true := by decide +kernel
  have g2 : hz_g 358 336 11 = true := by decide +kernel
  have g3 : hz_g 358 356 23 = true := by decide +kernel
  have g4 : hz_g 358 357 24 = true := by decide +kernel
  obtain ⟨hk1, hk2⟩ := hk
  unfold lawc_30
  refine hz_aload_n (pc' := 1992) (j := 1) dL_law_1991 rfl rfl rfl ?_
  refine hz_aload_n (pc' := 1993) (j := 0) dL_law_1992 rfl rfl rfl ?_
  refine hz_iload (pc' := 1995) (j := 5) dL_law_1993 rfl rfl ?_
  refine hz_iconst (pc' := 1996) (v := 1) dL_law_1995 rfl (by decide) ?_
  refine hz_iadd (pc' := 1997) dL_law_1996 rfl ?_
  refine hz_sld (pc' := 1998) hX hbl hbA dL_law_1997 rfl (fun v1 => ?_)
  refine hz_aload_n (pc' := 1999) (j := 3) dL_law_1998 rfl rfl rfl ?_
  refine hz_cW (pc' := 2002) (na := 3) (hh := [(0, 9, 12, 13), (0, 9, 15, 19)]) (av := [.ref (B.1 + 0), .int v1, .ref (B.1 + 356)]) (rest := []) hq_1103 hq_1104 hq_0 hq_1105 ⟨by decide, by decide, by decide +kernel⟩ (fun x w' h => ct_L_nextThrottle hl h) rfl rfl (Nat.le_of_ble_eq_true rfl) (by decide) ⟨by omega, by omega⟩ rfl dL_law_1999 rfl (fun v2 w3 => ?_)
  refine hz_istore (pc' := 2004) (L' := [(6, .int v2), (0, .ref b), (1, .ref (B.1 + 0)), (2, .ref (B.1 + 336)), (3, .ref (B.1 + 356)), (4, .ref (B.1 + 357)), (5, .int x5)]) dL_law_2002 rfl (by decide) rfl ?_
  refine hz_aload_n (pc' := 2005) (j := 3) dL_law_2004 rfl rfl rfl ?_
  refine hz_aload_n (pc' := 2006) (j := 1) dL_law_2005 rfl rfl rfl ?_
  refine hz_iload (pc' := 2008) (j := 6) dL_law_2006 rfl rfl ?_
  refine hz_iconst (pc' := 2009) (v := 1) dL_law_2008 rfl (by decide) ?_
  refine hz_iadd (pc' := 2010) dL_law_2009 rfl ?_
  refine hz_sld (pc' := 2011) hX hbl hbA dL_law_2010 rfl (fun v4 => ?_)
  refine hz_cVi (pc' := 2014) (av := [.int v4]) (rest := []) vl_L_249 (fun x w' h => ct_X10_nextThrottle hl h) g2 rfl rfl (Nat.le_of_ble_eq_true rfl) (by decide) ⟨by omega, by omega⟩ rfl dL_law_2011 rfl (fun v6 w5 => ?_)
  refine hz_istore (pc' := 2016) (L' := [(7, .int v6), (6, .int v2), (0, .ref b), (1, .ref (B.1 + 0)), (2, .ref (B.1 + 336)), (3, .ref (B.1 + 356)), (4, .ref (B.1 + 357)), (5, .int x5)]) dL_law_2014 rfl (by decide) rfl ?_
  refine hz_aload_n (pc' := 2017) (j := 4) dL_law_2016 rfl rfl rfl ?_
  refine hz_cVi (pc' := 2020) (av := []) (rest := []) vl_L_150 (fun x w' h => ct_X10_thrown hl h) g2 rfl rfl (Nat.le_of_ble_eq_true rfl) (by decide) ⟨by omega, by omega⟩ rfl dL_law_2017 rfl (fun v8 w7 => ?_)
  refine hz_iload (pc' := 2022) (j := 1) dL_law_2020 rfl rfl ?_
  refine hz_icmpeq (pc' := 2025) (tgt := 2027) dL_law_2022 (by decide) rfl ?_ ?_
  · refine hz_iload (pc' := 2029) (j := 1) dL_law_2027 rfl rfl ?_
    refine hz_ifne (pc' := 2032) (tgt := 2044) dL_law_2029 (by decide) rfl ?_ ?_
    · refine hz_goto (tgt := 2647) dL_law_2044 (by decide) ?_
      exact hz_wide (k' := k + 8) (sl' := sl + 48) (by omega) (by omega) rfl (hz_loc [2, 3, 4, 5, 6, 7] rfl (hj w7))
    · refine hz_aload_n (pc' := 2033) (j := 5) dL_law_2032 rfl rfl rfl ?_
      refine hz_iconst (pc' := 2034) (v := 0) dL_law_2033 rfl (by decide) ?_
      refine hz_lald (pc' := 2035) g3 rfl dL_law_2034 rfl (fun v9 => ?_)
      refine hz_iload (pc' := 2037) (j := 0) dL_law_2035 rfl rfl ?_
      refine hz_i2l (pc' := 2038) dL_law_2037 rfl ?_
      refine hz_lcmp (pc' := 2039) dL_law_2038 rfl ?_
      refine hz_ifeq (pc' := 2042) (tgt := 2044) dL_law_2039 (by decide) rfl ?_ ?_
      · refine hz_goto (tgt := 2647) dL_law_2044 (by decide) ?_
        exact hz_wide (k' := k + 8) (sl' := sl + 48) (by omega) (by omega) rfl (hz_loc [2, 3, 4, 5, 6, 7] rfl (hj w7))
      · refine hz_iconst (pc' := 2043) (v := 0) dL_law_2042 rfl (by decide) ?_
        exact hz_no rfl
  · refine hz_iconst (pc' := 2026) (v := 0) dL_law_2025 rfl (by decide) ?_
    exact hz_no rfl
def lawc_31 (xs : Nat → Int32) (Ls : Nat) (x5 : Int32) (w : MW) : Option MW :=
  hz_lds xs Ls (x5 + 1) (fun v1 => hz_b (f_L_bestPolicy 0 v1 356 w) (fun v2 w3 => hz_lds xs Ls (x5 + 1) (fun v4 => hz_b (f_X10_bestPolicy 336 v4 w3) (fun v6 w5 => hz_b (f_X10_thrown 336 w5) (fun v8 w7 => (if v8 = v2 then (if v2 = 0 then hz_let w7.2.2.1 (fun v9 => (if (lg_cmp v9 (Int32.toInt64 v6)) = 0 then some w7 else none)) else some w7) else none))))))
set_option maxHeartbeats 4000000 in
set_option maxRecDepth 100000 in
theorem lct_31 {p : Program} {l : Launch} (hl : l.stackTraces = false) {e : Env} {s : State} {m : MethodId} {args : Array Value} {below : List Frame} {meth : Method} {c : Code} {ret : Option FieldType} {B : Bt} {tb : List ExceptionTableEntry} {ini : Bool} {ρ : Type} {Fi : ρ → State → Prop} {Ko : MW → Option ρ} {b Ls k sl : Nat} {xs : Nat → Int32} (hX : va_X b Ls xs s s.heap) (hbl : b < s.heap.size) (hbA : ¬ hz_A B b) (hk : k + 8 ≤ 603072 ∧ sl + 48 ≤ 7059562) {x5 : Int32} {w : MW} (hj : ∀ w', hz_J p l e (hz_rm 21 603072 7059562) s m args below meth c cL_law 9 RL ret B tb ini false Fi Ko 2647 [(0, .ref b), (1, .ref (B.1 + 0)), (2, .ref (B.1 + 336)), (3, .ref (B.1 + 356)), (4, .ref (B.1 + 357)), (5, .int x5)] [] (k + 8) (sl + 48) 358 w' (some w')) : hz_J p l e (hz_rm 21 603072 7059562) s m args below meth c cL_law 9 RL ret B tb ini false Fi Ko 2047 [(0, .ref b), (1, .ref (B.1 + 0)), (2, .ref (B.1 + 336)), (3, .ref (B.1 + 356)), (4, .ref (B.1 + 357)), (5, .int x5)] [] k sl 358 w (lawc_31 xs Ls x5 w) := by
  have g1 : hz_g 358 0 10 = true := by decide +kernel
  have g2 : hz_g 358 336 11 = true := by decide +kernel
  have g3 : hz_g 358 356 23 = true := by decide +kernel
  have g4 : hz_g 358 357 24 = true := by decide +kernel
  obtain ⟨hk1, hk2⟩ := hk
  unfold lawc_31
  refine hz_aload_n (pc' := 2048) (j := 1) dL_law_2047 rfl rfl rfl ?_
  refine hz_aload_n (pc' := 2049) (j := 0) dL_law_2048 rfl rfl rfl ?_
  refine hz_iload (pc' := 2051) (j := 5) dL_law_2049 rfl rfl ?_
  refine hz_iconst (pc' := 2052) (v := 1) dL_law_2051 rfl (by decide) ?_
  refine hz_iadd (pc' := 2053) dL_law_2052 rfl ?_
  refine hz_sld (pc' := 2054) hX hbl hbA dL_law_2053 rfl (fun v1 => ?_)
  refine hz_aload_n (pc' := 2055) (j := 3) dL_law_2054 rfl rfl rfl ?_
  refine hz_cW (pc' := 2058) (na := 3) (hh := [(0, 9, 12, 13), (0, 9, 15, 19)]) (av := [.ref (B.1 + 0), .int v1, .ref (B.1 + 356)]) (rest := []) hq_1110 hq_1111 hq_0 hq_1112 ⟨by decide, by decide, by decide +kernel⟩ (fun x w' h => ct_L_bestPolicy hl h) rfl rfl (Nat.le_of_ble_eq_true rfl) (by decide) ⟨by omega, by omega⟩ rfl dL_law_2055 rfl (fun v2 w3 => ?_)
  refine hz_istore (pc' := 2060) (L' := [(6, .int v2), (0, .ref b), (1, .ref (B.1 + 0)), (2, .ref (B.1 + 336)), (3, .ref (B.1 + 356)), (4, .ref (B.1 + 357)), (5, .int x5)]) dL_law_2058 rfl (by decide) rfl ?_
  refine hz_aload_n (pc' := 2061) (j := 3) dL_law_2060 rfl rfl rfl ?_
  refine hz_aload_n (pc' := 2062) (j := 1) dL_law_2061 rfl rfl rfl ?_
  refine hz_iload (pc' := 2064) (j := 6) dL_law_2062 rfl rfl ?_
  refine hz_iconst (pc' := 2065) (v := 1) dL_law_2064 rfl (by decide) ?_
  refine hz_iadd (pc' := 2066) dL_law_2065 rfl ?_
  refine hz_sld (pc' := 2067) hX hbl hbA dL_law_2066 rfl (fun v4 => ?_)
  refine hz_cVi (pc' := 2070) (av := [.int v4]) (rest := []) vl_L_252 (fun x w' h => ct_X10_bestPolicy hl h) g2 rfl rfl (Nat.le_of_ble_eq_true rfl) (by decide) ⟨by omega, by omega⟩ rfl dL_law_2067 rfl (fun v6 w5 => ?_)
  refine hz_istore (pc' := 2072) (L' := [(7, .int v6), (6, .int v2), (0, .ref b), (1, .ref (B.1 + 0)), (2, .ref (B.1 + 336)), (3, .ref (B.1 + 356)), (4, .ref (B.1 + 357)), (5, .int x5)]) dL_law_2070 rfl (by decide) rfl ?_
  refine hz_aload_n (pc' := 2073) (j := 4) dL_law_2072 rfl rfl rfl ?_
  refine hz_cVi (pc' := 2076) (av := []) (rest := []) vl_L_150 (fun x w' h => ct_X10_thrown hl h) g2 rfl rfl (Nat.le_of_ble_eq_true rfl) (by decide) ⟨by omega, by omega⟩ rfl dL_law_2073 rfl (fun v8 w7 => ?_)
  refine hz_iload (pc' := 2078) (j := 1) dL_law_2076 rfl rfl ?_
  refine hz_icmpeq (pc' := 2081) (tgt := 2083) dL_law_2078 (by decide) rfl ?_ ?_
  · refine hz_iload (pc' := 2085) (j := 1) dL_law_2083 rfl rfl ?_
    refine hz_ifne (pc' := 2088) (tgt := 2100) dL_law_2085 (by decide) rfl ?_ ?_
    · refine hz_goto (tgt := 2647) dL_law_2100 (by decide) ?_
      exact hz_wide (k' := k + 8) (sl' := sl + 48) (by omega) (by omega) rfl (hz_loc [2, 3, 4, 5, 6, 7] rfl (hj w7))
    · refine hz_aload_n (pc' := 2089) (j := 5) dL_law_2088 rfl rfl rfl ?_
      refine hz_iconst (pc' := 2090) (v := 0) dL_law_2089 rfl (by decide) ?_
      refine hz_lald (pc' := 2091) g3 rfl dL_law_2090 rfl (fun v9 => ?_)
      refine hz_iload (pc' := 2093) (j := 0) dL_law_2091 rfl rfl ?_
      refine hz_i2l (pc' := 2094) dL_law_2093 rfl ?_
      refine hz_lcmp (pc' := 2095) dL_law_2094 rfl ?_
      refine hz_ifeq (pc' := 2098) (tgt := 2100) dL_law_2095 (by decide) rfl ?_ ?_
      · refine hz_goto (tgt := 2647) dL_law_2100 (by decide) ?_
        exact hz_wide (k' := k + 8) (sl' := sl + 48) (by omega) (by omega) rfl (hz_loc [2, 3, 4, 5, 6, 7] rfl (hj w7))
      · refine hz_iconst (pc' := 2099) (v := 0) dL_law_2098 rfl (by decide) ?_
        exact hz_no rfl
  · refine hz_iconst (pc' := 2082) (v := 0) dL_law_2081 rfl (by decide) ?_
    exact hz_no rfl
def lawc_32 (xs : Nat → Int32) (Ls : Nat) (x5 : Int32) (w : MW) : Option MW :=
  hz_lds xs Ls (x5 + 1) (fun v1 => hz_b (f_L_coolLimit 0 v1 356 w) (fun v2 w3 => hz_lds xs Ls (x5 + 1) (fun v4 => hz_b (f_X10_coolLimit 336 v4 w3) (fun v6 w5 => hz_b (f_X10_thrown 336 w5) (fun v8 w7 => (if v8 = v2 then (if v2 = 0 then hz_let w7.2.2.1 (fun v9 => (if (lg_cmp v9 (Int32.toInt64 v6)) = 0 then some w7 else none)) else some w7) else none))))))
set_option maxHeartbeats 4000000 in
set_option maxRecDepth 100000 in
theorem lct_32 {p : Program} {l : Launch} (hl : l.stackTraces = false) {e : Env} {s : State} {m : MethodId} {args : Array Value} {below : List Frame} {meth : Method} {c : Code} {ret : Option FieldType} {B : Bt} {tb : List ExceptionTableEntry} {ini : Bool} {ρ : Type} {Fi : ρ → State → Prop} {Ko : MW → Option ρ} {b Ls k sl : Nat} {xs : Nat → Int32} (hX : va_X b Ls xs s s.heap) (hbl : b < s.heap.size) (hbA : ¬ hz_A B b) (hk : k + 8 ≤ 603072 ∧ sl + 48 ≤ 7059562) {x5 : Int32} {w : MW} (hj : ∀ w', hz_J p l e (hz_rm 21 603072 7059562) s m args below meth c cL_law 9 RL ret B tb ini false Fi Ko 2647 [(0, .ref b), (1, .ref (B.1 + 0)), (2, .ref (B.1 + 336)), (3, .ref (B.1 + 356)), (4, .ref (B.1 + 357)), (5, .int x5)] [] (k + 8) (sl + 48) 358 w' (some w')) : hz_J p l e (hz_rm 21 603072 7059562) s m args below meth c cL_law 9 RL ret B tb ini false Fi Ko 2103 [(0, .ref b), (1, .ref (B.1 + 0)), (2, .ref (B.1 + 336)), (3, .ref (B.1 + 356)), (4, .ref (B.1 + 357)), (5, .int x5)] [] k sl 358 w (lawc_32 xs Ls x5 w) := by
  have g1 : hz_g 358 0 10 = true := by decide +kernel
  have g2 : hz_g 358 336 11 = true := by decide +kernel
  have g3 : hz_g 358 356 23 = true := by decide +kernel
  have g4 : hz_g 358 357 24 = true := by decide +kernel
  obtain ⟨hk1, hk2⟩ := hk
  unfold lawc_32
  refine hz_aload_n (pc' := 2104) (j := 1) dL_law_2103 rfl rfl rfl ?_
  refine hz_aload_n (pc' := 2105) (j := 0) dL_law_2104 rfl rfl rfl ?_
  refine hz_iload (pc' := 2107) (j := 5) dL_law_2105 rfl rfl ?_
  refine hz_iconst (pc' := 2108) (v := 1) dL_law_2107 rfl (by decide) ?_
  refine hz_iadd (pc' := 2109) dL_law_2108 rfl ?_
  refine hz_sld (pc' := 2110) hX hbl hbA dL_law_2109 rfl (fun v1 => ?_)
  refine hz_aload_n (pc' := 2111) (j := 3) dL_law_2110 rfl rfl rfl ?_
  refine hz_cW (pc' := 2114) (na := 3) (hh := [(0, 9, 12, 13), (0, 9, 15, 19)]) (av := [.ref (B.1 + 0), .int v1, .ref (B.1 + 356)]) (rest := []) hq_1117 hq_1118 hq_0 hq_1119 ⟨by decide, by decide, by decide +kernel⟩ (fun x w' h => ct_L_coolLimit hl h) rfl rfl (Nat.le_of_ble_eq_true rfl) (by decide) ⟨by omega, by omega⟩ rfl dL_law_2111 rfl (fun v2 w3 => ?_)
  refine hz_istore (pc' := 2116) (L' := [(6, .int v2), (0, .ref b), (1, .ref (B.1 + 0)), (2, .ref (B.1 + 336)), (3, .ref (B.1 + 356)), (4, .ref (B.1 + 357)), (5, .int x5)]) dL_law_2114 rfl (by decide) rfl ?_
  refine hz_aload_n (pc' := 2117) (j := 3) dL_law_2116 rfl rfl rfl ?_
  refine hz_aload_n (pc' := 2118) (j := 1) dL_law_2117 rfl rfl rfl ?_
  refine hz_iload (pc' := 2120) (j := 6) dL_law_2118 rfl rfl ?_
  refine hz_iconst (pc' := 2121) (v := 1) dL_law_2120 rfl (by decide) ?_
  refine hz_iadd (pc' := 2122) dL_law_2121 rfl ?_
  refine hz_sld (pc' := 2123) hX hbl hbA dL_law_2122 rfl (fun v4 => ?_)
  refine hz_cVi (pc' := 2126) (av := [.int v4]) (rest := []) vl_L_255 (fun x w' h => ct_X10_coolLimit hl h) g2 rfl rfl (Nat.le_of_ble_eq_true rfl) (by decide) ⟨by omega, by omega⟩ rfl dL_law_2123 rfl (fun v6 w5 => ?_)
  refine hz_istore (pc' := 2128) (L' := [(7, .int v6), (6, .int v2), (0, .ref b), (1, .ref (B.1 + 0)), (2, .ref (B.1 + 336)), (3, .ref (B.1 + 356)), (4, .ref (B.1 + 357)), (5, .int x5)]) dL_law_2126 rfl (by decide) rfl ?_
  refine hz_aload_n (pc' := 2129) (j := 4) dL_law_2128 rfl rfl rfl ?_
  refine hz_cVi (pc' := 2132) (av := []) (rest := []) vl_L_150 (fun x w' h => ct_X10_thrown hl h) g2 rfl rfl (Nat.le_of_ble_eq_true rfl) (by decide) ⟨by omega, by omega⟩ rfl dL_law_2129 rfl (fun v8 w7 => ?_)
  refine hz_iload (pc' := 2134) (j := 1) dL_law_2132 rfl rfl ?_
  refine hz_icmpeq (pc' := 2137) (tgt := 2139) dL_law_2134 (by decide) rfl ?_ ?_
  · refine hz_iload (pc' := 2141) (j := 1) dL_law_2139 rfl rfl ?_
    refine hz_ifne (pc' := 2144) (tgt := 2156) dL_law_2141 (by decide) rfl ?_ ?_
    · refine hz_goto (tgt := 2647) dL_law_2156 (by decide) ?_
      exact hz_wide (k' := k + 8) (sl' := sl + 48) (by omega) (by omega) rfl (hz_loc [2, 3, 4, 5, 6, 7] rfl (hj w7))
    · refine hz_aload_n (pc' := 2145) (j := 5) dL_law_2144 rfl rfl rfl ?_
      refine hz_iconst (pc' := 2146) (v := 0) dL_law_2145 rfl (by decide) ?_
      refine hz_lald (pc' := 2147) g3 rfl dL_law_2146 rfl (fun v9 => ?_)
      refine hz_iload (pc' := 2149) (j := 0) dL_law_2147 rfl rfl ?_
      refine hz_i2l (pc' := 2150) dL_law_2149 rfl ?_
      refine hz_lcmp (pc' := 2151) dL_law_2150 rfl ?_
      refine hz_ifeq (pc' := 2154) (tgt := 2156) dL_law_2151 (by decide) rfl ?_ ?_
      · refine hz_goto (tgt := 2647) dL_law_2156 (by decide) ?_
        exact hz_wide (k' := k + 8) (sl' := sl + 48) (by omega) (by omega) rfl (hz_loc [2, 3, 4, 5, 6, 7] rfl (hj w7))
      · refine hz_iconst (pc' := 2155) (v := 0) dL_law_2154 rfl (by decide) ?_
        exact hz_no rfl
  · refine hz_iconst (pc' := 2138) (v := 0) dL_law_2137 rfl (by decide) ?_
    exact hz_no rfl
def lawc_33 (xs : Nat → Int32) (Ls : Nat) (x5 : Int32) (w : MW) : Option MW :=
  hz_lds xs Ls (x5 + 1) (fun v1 => hz_lds xs Ls (x5 + 2) (fun v2 => hz_lds xs Ls (x5 + 3) (fun v3 => hz_lds xs Ls (x5 + 4) (fun v4 => hz_b (f_L_levelEnergy 0 v1 v2 v3 v4 356 w) (fun v5 w6 => hz_lds xs Ls (x5 + 1) (fun v7 => hz_lds xs Ls (x5 + 2) (fun v8 => hz_lds xs Ls (x5 + 3) (fun v9 => hz_lds xs Ls (x5 + 4) (fun v10 => hz_b (f_X10_levelEnergy 336 v7 v8 v9 v10 w6) (fun v12 w11 => hz_b (f_X10_thrown 336 w11) (fun v14 w13 => (if v14 = v5 then (if v5 = 0 then hz_let w13.2.2.1 (fun v15 => (if (lg_cmp v15 (Int32.toInt64 v12)) = 0 then some w13 else none)) else some w13) else none))))))))))))
set_option maxHeartbeats 4000000 in
set_option maxRecDepth 100000 in
theorem lct_33 {p : Program} {l : Launch} (hl : l.stackTraces = false) {e : Env} {s : State} {m : MethodId} {args : Array Value} {below : List Frame} {meth : Method} {c : Code} {ret : Option FieldType} {B : Bt} {tb : List ExceptionTableEntry} {ini : Bool} {ρ : Type} {Fi : ρ → State → Prop} {Ko : MW → Option ρ} {b Ls k sl : Nat} {xs : Nat → Int32} (hX : va_X b Ls xs s s.heap) (hbl : b < s.heap.size) (hbA : ¬ hz_A B b) (hk : k + 8 ≤ 603072 ∧ sl + 48 ≤ 7059562) {x5 : Int32} {w : MW} (hj : ∀ w', hz_J p l e (hz_rm 21 603072 7059562) s m args below meth c cL_law 9 RL ret B tb ini false Fi Ko 2647 [(0, .ref b), (1, .ref (B.1 + 0)), (2, .ref (B.1 + 336)), (3, .ref (B.1 + 356)), (4, .ref (B.1 + 357)), (5, .int x5)] [] (k + 8) (sl + 48) 358 w' (some w')) : hz_J p l e (hz_rm 21 603072 7059562) s m args below meth c cL_law 9 RL ret B tb ini false Fi Ko 2159 [(0, .ref b), (1, .ref (B.1 + 0)), (2, .ref (B.1 + 336)), (3, .ref (B.1 + 356)), (4, .ref (B.1 + 357)), (5, .int x5)] [] k sl 358 w (lawc_33 xs Ls x5 w) := by
  have g1 : hz_g 358 0 10 = true := by decide +kernel
  have g2 : hz_g 358 336 11 = true := by decide +kernel
  have g3 : hz_g 358 356 23 = true := by decide +kernel
  have g4 : hz_g 358 357 24 = true := by decide +kernel
  obtain ⟨hk1, hk2⟩ := hk
  unfold lawc_33
  refine hz_aload_n (pc' := 2160) (j := 1) dL_law_2159 rfl rfl rfl ?_
  refine hz_aload_n (pc' := 2161) (j := 0) dL_law_2160 rfl rfl rfl ?_
  refine hz_iload (pc' := 2163) (j := 5) dL_law_2161 rfl rfl ?_
  refine hz_iconst (pc' := 2164) (v := 1) dL_law_2163 rfl (by decide) ?_
  refine hz_iadd (pc' := 2165) dL_law_2164 rfl ?_
  refine hz_sld (pc' := 2166) hX hbl hbA dL_law_2165 rfl (fun v1 => ?_)
  refine hz_aload_n (pc' := 2167) (j := 0) dL_law_2166 rfl rfl rfl ?_
  refine hz_iload (pc' := 2169) (j := 5) dL_law_2167 rfl rfl ?_
  refine hz_iconst (pc' := 2170) (v := 2) dL_law_2169 rfl (by decide) ?_
  refine hz_iadd (pc' := 2171) dL_law_2170 rfl ?_
  refine hz_sld (pc' := 2172) hX hbl hbA dL_law_2171 rfl (fun v2 => ?_)
  refine hz_aload_n (pc' := 2173) (j := 0) dL_law_2172 rfl rfl rfl ?_
  refine hz_iload (pc' := 2175) (j := 5) dL_law_2173 rfl rfl ?_
  refine hz_iconst (pc' := 2176) (v := 3) dL_law_2175 rfl (by decide) ?_
  refine hz_iadd (pc' := 2177) dL_law_2176 rfl ?_
  refine hz_sld (pc' := 2178) hX hbl hbA dL_law_2177 rfl (fun v3 => ?_)
  refine hz_aload_n (pc' := 2179) (j := 0) dL_law_2178 rfl rfl rfl ?_
  refine hz_iload (pc' := 2181) (j := 5) dL_law_2179 rfl rfl ?_
  refine hz_iconst (pc' := 2182) (v := 4) dL_law_2181 rfl (by decide) ?_
  refine hz_iadd (pc' := 2183) dL_law_2182 rfl ?_
  refine hz_sld (pc' := 2184) hX hbl hbA dL_law_2183 rfl (fun v4 => ?_)
  refine hz_aload_n (pc' := 2185) (j := 3) dL_law_2184 rfl rfl rfl ?_
  refine hz_cW (pc' := 2188) (na := 6) (hh := [(0, 14, 17, 13), (0, 14, 21, 19)]) (av := [.ref (B.1 + 0), .int v1, .int v2, .int v3, .int v4, .ref (B.1 + 356)]) (rest := []) hq_1125 hq_1126 hq_0 hq_1127 ⟨by decide, by decide, by decide +kernel⟩ (fun x w' h => ct_L_levelEnergy hl h) rfl rfl (Nat.le_of_ble_eq_true rfl) (by decide) ⟨by omega, by omega⟩ rfl dL_law_2185 rfl (fun v5 w6 => ?_)
  refine hz_istore (pc' := 2190) (L' := [(6, .int v5), (0, .ref b), (1, .ref (B.1 + 0)), (2, .ref (B.1 + 336)), (3, .ref (B.1 + 356)), (4, .ref (B.1 + 357)), (5, .int x5)]) dL_law_2188 rfl (by decide) rfl ?_
  refine hz_aload_n (pc' := 2191) (j := 3) dL_law_2190 rfl rfl rfl ?_
  refine hz_aload_n (pc' := 2192) (j := 1) dL_law_2191 rfl rfl rfl ?_
  refine hz_iload (pc' := 2194) (j := 6) dL_law_2192 rfl rfl ?_
  refine hz_iconst (pc' := 2195) (v := 1) dL_law_2194 rfl (by decide) ?_
  refine hz_iadd (pc' := 2196) dL_law_2195 rfl ?_
  refine hz_sld (pc' := 2197) hX hbl hbA dL_law_2196 rfl (fun v7 => ?_)
  refine hz_aload_n (pc' := 2198) (j := 1) dL_law_2197 rfl rfl rfl ?_
  refine hz_iload (pc' := 2200) (j := 6) dL_law_2198 rfl rfl ?_
  refine hz_iconst (pc' := 2201) (v := 2) dL_law_2200 rfl (by decide) ?_
  refine hz_iadd (pc' := 2202) dL_law_2201 rfl ?_
  refine hz_sld (pc' := 2203) hX hbl hbA dL_law_2202 rfl (fun v8 => ?_)
  refine hz_aload_n (pc' := 2204) (j := 1) dL_law_2203 rfl rfl rfl ?_
  refine hz_iload (pc' := 2206) (j := 6) dL_law_2204 rfl rfl ?_
  refine hz_iconst (pc' := 2207) (v := 3) dL_law_2206 rfl (by decide) ?_
  refine hz_iadd (pc' := 2208) dL_law_2207 rfl ?_
  refine hz_sld (pc' := 2209) hX hbl hbA dL_law_2208 rfl (fun v9 => ?_)
  refine hz_aload_n (pc' := 2210) (j := 1) dL_law_2209 rfl rfl rfl ?_
  refine hz_iload (pc' := 2212) (j := 6) dL_law_2210 rfl rfl ?_
  refine hz_iconst (pc' := 2213) (v := 4) dL_law_2212 rfl (by decide) ?_
  refine hz_iadd (pc' := 2214) dL_law_2213 rfl ?_
  refine hz_sld (pc' := 2215) hX hbl hbA dL_law_2214 rfl (fun v10 => ?_)
  refine hz_cVi (pc' := 2218) (av := [.int v7, .int v8, .int v9, .int v10]) (rest := []) vl_L_259 (fun x w' h => ct_X10_levelEnergy hl h) g2 rfl rfl (Nat.le_of_ble_eq_true rfl) (by decide) ⟨by omega, by omega⟩ rfl dL_law_2215 rfl (fun v12 w11 => ?_)
  refine hz_istore (pc' := 2220) (L' := [(7, .int v12), (6, .int v5), (0, .ref b), (1, .ref (B.1 + 0)), (2, .ref (B.1 + 336)), (3, .ref (B.1 + 356)), (4, .ref (B.1 + 357)), (5, .int x5)]) dL_law_2218 rfl (by decide) rfl ?_
  refine hz_aload_n (pc' := 2221) (j := 4) dL_law_2220 rfl rfl rfl ?_
  refine hz_cVi (pc' := 2224) (av := []) (rest := []) vl_L_150 (fun x w' h => ct_X10_thrown hl h) g2 rfl rfl (Nat.le_of_ble_eq_true rfl) (by decide) ⟨by omega, by omega⟩ rfl dL_law_2221 rfl (fun v14 w13 => ?_)
  refine hz_iload (pc' := 2226) (j := 1) dL_law_2224 rfl rfl ?_
  refine hz_icmpeq (pc' := 2229) (tgt := 2231) dL_law_2226 (by decide) rfl ?_ ?_
  · refine hz_iload (pc' := 2233) (j := 1) dL_law_2231 rfl rfl ?_
    refine hz_ifne (pc' := 2236) (tgt := 2248) dL_law_2233 (by decide) rfl ?_ ?_
    · refine hz_goto (tgt := 2647) dL_law_2248 (by decide) ?_
      exact hz_wide (k' := k + 8) (sl' := sl + 48) (by omega) (by omega) rfl (hz_loc [2, 3, 4, 5, 6, 7] rfl (hj w13))
    · refine hz_aload_n (pc' := 2237) (j := 5) dL_law_2236 rfl rfl rfl ?_
      refine hz_iconst (pc' := 2238) (v := 0) dL_law_2237 rfl (by decide) ?_
      refine hz_lald (pc' := 2239) g3 rfl dL_law_2238 rfl (fun v15 => ?_)
      refine hz_iload (pc' := 2241) (j := 0) dL_law_2239 rfl rfl ?_
      refine hz_i2l (pc' := 2242) dL_law_2241 rfl ?_
      refine hz_lcmp (pc' := 2243) dL_law_2242 rfl ?_
      refine hz_ifeq (pc' := 2246) (tgt := 2248) dL_law_2243 (by decide) rfl ?_ ?_
      · refine hz_goto (tgt := 2647) dL_law_2248 (by decide) ?_
        exact hz_wide (k' := k + 8) (sl' := sl + 48) (by omega) (by omega) rfl (hz_loc [2, 3, 4, 5, 6, 7] rfl (hj w13))
      · refine hz_iconst (pc' := 2247) (v := 0) dL_law_2246 rfl (by decide) ?_
        exact hz_no rfl
  · refine hz_iconst (pc' := 2230) (v := 0) dL_law_2229 rfl (by decide) ?_
    exact hz_no rfl
def lawc_34 (xs : Nat → Int32) (Ls : Nat) (x5 : Int32) (w : MW) : Option MW :=
  hz_lds xs Ls (x5 + 1) (fun v1 => hz_lds xs Ls (x5 + 2) (fun v2 => hz_lds xs Ls (x5 + 3) (fun v3 => hz_b (f_L_bestLevel 0 v1 v2 v3 356 w) (fun v4 w5 => hz_lds xs Ls (x5 + 1) (fun v6 => hz_lds xs Ls (x5 + 2) (fun v7 => hz_lds xs Ls (x5 + 3) (fun v8 => hz_b (f_X10_bestLevel 336 v6 v7 v8 w5) (fun v10 w9 => hz_b (f_X10_thrown 336 w9) (fun v12 w11 => (if v12 = v4 then (if v4 = 0 then hz_let w11.2.2.1 (fun v13 => (if (lg_cmp v13 (Int32.toInt64 v10)) = 0 then some w11 else none)) else some w11) else none))))))))))
set_option maxHeartbeats 4000000 in
set_option maxRecDepth 100000 in
theorem lct_34 {p : Program} {l : Launch} (hl : l.stackTraces = false) {e : Env} {s : State} {m : MethodId} {args : Array Value} {below : List Frame} {meth : Method} {c : Code} {ret : Option FieldType} {B : Bt} {tb : List ExceptionTableEntry} {ini : Bool} {ρ : Type} {Fi : ρ → State → Prop} {Ko : MW → Option ρ} {b Ls k sl : Nat} {xs : Nat → Int32} (hX : va_X b Ls xs s s.heap) (hbl : b < s.heap.size) (hbA : ¬ hz_A B b) (hk : k + 8 ≤ 603072 ∧ sl + 48 ≤ 7059562) {x5 : Int32} {w : MW} (hj : ∀ w', hz_J p l e (hz_rm 21 603072 7059562) s m args below meth c cL_law 9 RL ret B tb ini false Fi Ko 2647 [(0, .ref b), (1, .ref (B.1 + 0)), (2, .ref (B.1 + 336)), (3, .ref (B.1 + 356)), (4, .ref (B.1 + 357)), (5, .int x5)] [] (k + 8) (sl + 48) 358 w' (some w')) : hz_J p l e (hz_rm 21 603072 7059562) s m args below meth c cL_law 9 RL ret B tb ini false Fi Ko 2251 [(0, .ref b), (1, .ref (B.1 + 0)), (2, .ref (B.1 + 336)), (3, .ref (B.1 + 356)), (4, .ref (B.1 + 357)), (5, .int x5)] [] k sl 358 w (lawc_34 xs Ls x5 w) := by
  have g1 : hz_g 358 0 10 = true := by decide +kernel
  have g2 : hz_g 358 336 11 = true := by decide +kernel
  have g3 : hz_g 358 356 23 = true := by decide +kernel
  have g4 : hz_g 358 357 24 = true := by decide +kernel
  obtain ⟨hk1, hk2⟩ := hk
  unfold lawc_34
  refine hz_aload_n (pc' := 2252) (j := 1) dL_law_2251 rfl rfl rfl ?_
  refine hz_aload_n (pc' := 2253) (j := 0) dL_law_2252 rfl rfl rfl ?_
  refine hz_iload (pc' := 2255) (j := 5) dL_law_2253 rfl rfl ?_
  refine hz_iconst (pc' := 2256) (v := 1) dL_law_2255 rfl (by decide) ?_
  refine hz_iadd (pc' := 2257) dL_law_2256 rfl ?_
  refine hz_sld (pc' := 2258) hX hbl hbA dL_law_2257 rfl (fun v1 => ?_)
  refine hz_aload_n (pc' := 2259) (j := 0) dL_law_2258 rfl rfl rfl ?_
  refine hz_iload (pc' := 2261) (j := 5) dL_law_2259 rfl rfl ?_
  refine hz_iconst (pc' := 2262) (v := 2) dL_law_2261 rfl (by decide) ?_
  refine hz_iadd (pc' := 2263) dL_law_2262 rfl ?_
  refine hz_sld (pc' := 2264) hX hbl hbA dL_law_2263 rfl (fun v2 => ?_)
  refine hz_aload_n (pc' := 2265) (j := 0) dL_law_2264 rfl rfl rfl ?_
  refine hz_iload (pc' := 2267) (j := 5) dL_law_2265 rfl rfl ?_
  refine hz_iconst (pc' := 2268) (v := 3) dL_law_2267 rfl (by decide) ?_
  refine hz_iadd (pc' := 2269) dL_law_2268 rfl ?_
  refine hz_sld (pc' := 2270) hX hbl hbA dL_law_2269 rfl (fun v3 => ?_)
  refine hz_aload_n (pc' := 2271) (j := 3) dL_law_2270 rfl rfl rfl ?_
  refine hz_cW (pc' := 2274) (na := 5) (hh := [(0, 12, 15, 13), (0, 12, 19, 19)]) (av := [.ref (B.1 + 0), .int v1, .int v2, .int v3, .ref (B.1 + 356)]) (rest := []) hq_1137 hq_1138 hq_0 hq_1139 ⟨by decide, by decide, by decide +kernel⟩ (fun x w' h => ct_L_bestLevel hl h) rfl rfl (Nat.le_of_ble_eq_true rfl) (by decide) ⟨by omega, by omega⟩ rfl dL_law_2271 rfl (fun v4 w5 => ?_)
  refine hz_istore (pc' := 2276) (L' := [(6, .int v4), (0, .ref b), (1, .ref (B.1 + 0)), (2, .ref (B.1 + 336)), (3, .ref (B.1 + 356)), (4, .ref (B.1 + 357)), (5, .int x5)]) dL_law_2274 rfl (by decide) rfl ?_
  refine hz_aload_n (pc' := 2277) (j := 3) dL_law_2276 rfl rfl rfl ?_
  refine hz_aload_n (pc' := 2278) (j := 1) dL_law_2277 rfl rfl rfl ?_
  refine hz_iload (pc' := 2280) (j := 6) dL_law_2278 rfl rfl ?_
  refine hz_iconst (pc' := 2281) (v := 1) dL_law_2280 rfl (by decide) ?_
  refine hz_iadd (pc' := 2282) dL_law_2281 rfl ?_
  refine hz_sld (pc' := 2283) hX hbl hbA dL_law_2282 rfl (fun v6 => ?_)
  refine hz_aload_n (pc' := 2284) (j := 1) dL_law_2283 rfl rfl rfl ?_
  refine hz_iload (pc' := 2286) (j := 6) dL_law_2284 rfl rfl ?_
  refine hz_iconst (pc' := 2287) (v := 2) dL_law_2286 rfl (by decide) ?_
  refine hz_iadd (pc' := 2288) dL_law_2287 rfl ?_
  refine hz_sld (pc' := 2289) hX hbl hbA dL_law_2288 rfl (fun v7 => ?_)
  refine hz_aload_n (pc' := 2290) (j := 1) dL_law_2289 rfl rfl rfl ?_
  refine hz_iload (pc' := 2292) (j := 6) dL_law_2290 rfl rfl ?_
  refine hz_iconst (pc' := 2293) (v := 3) dL_law_2292 rfl (by decide) ?_
  refine hz_iadd (pc' := 2294) dL_law_2293 rfl ?_
  refine hz_sld (pc' := 2295) hX hbl hbA dL_law_2294 rfl (fun v8 => ?_)
  refine hz_cVi (pc' := 2298) (av := [.int v6, .int v7, .int v8]) (rest := []) vl_L_263 (fun x w' h => ct_X10_bestLevel hl h) g2 rfl rfl (Nat.le_of_ble_eq_true rfl) (by decide) ⟨by omega, by omega⟩ rfl dL_law_2295 rfl (fun v10 w9 => ?_)
  refine hz_istore (pc' := 2300) (L' := [(7, .int v10), (6, .int v4), (0, .ref b), (1, .ref (B.1 + 0)), (2, .ref (B.1 + 336)), (3, .ref (B.1 + 356)), (4, .ref (B.1 + 357)), (5, .int x5)]) dL_law_2298 rfl (by decide) rfl ?_
  refine hz_aload_n (pc' := 2301) (j := 4) dL_law_2300 rfl rfl rfl ?_
  refine hz_cVi (pc' := 2304) (av := []) (rest := []) vl_L_150 (fun x w' h => ct_X10_thrown hl h) g2 rfl rfl (Nat.le_of_ble_eq_true rfl) (by decide) ⟨by omega, by omega⟩ rfl dL_law_2301 rfl (fun v12 w11 => ?_)
  refine hz_iload (pc' := 2306) (j := 1) dL_law_2304 rfl rfl ?_
  refine hz_icmpeq (pc' := 2309) (tgt := 2311) dL_law_2306 (by decide) rfl ?_ ?_
  · refine hz_iload (pc' := 2313) (j := 1) dL_law_2311 rfl rfl ?_
    refine hz_ifne (pc' := 2316) (tgt := 2328) dL_law_2313 (by decide) rfl ?_ ?_
    · refine hz_goto (tgt := 2647) dL_law_2328 (by decide) ?_
      exact hz_wide (k' := k + 8) (sl' := sl + 48) (by omega) (by omega) rfl (hz_loc [2, 3, 4, 5, 6, 7] rfl (hj w11))
    · refine hz_aload_n (pc' := 2317) (j := 5) dL_law_2316 rfl rfl rfl ?_
      refine hz_iconst (pc' := 2318) (v := 0) dL_law_2317 rfl (by decide) ?_
      refine hz_lald (pc' := 2319) g3 rfl dL_law_2318 rfl (fun v13 => ?_)
      refine hz_iload (pc' := 2321) (j := 0) dL_law_2319 rfl rfl ?_
      refine hz_i2l (pc' := 2322) dL_law_2321 rfl ?_
      refine hz_lcmp (pc' := 2323) dL_law_2322 rfl ?_
      refine hz_ifeq (pc' := 2326) (tgt := 2328) dL_law_2323 (by decide) rfl ?_ ?_
      · refine hz_goto (tgt := 2647) dL_law_2328 (by decide) ?_
        exact hz_wide (k' := k + 8) (sl' := sl + 48) (by omega) (by omega) rfl (hz_loc [2, 3, 4, 5, 6, 7] rfl (hj w11))
      · refine hz_iconst (pc' := 2327) (v := 0) dL_law_2326 rfl (by decide) ?_
        exact hz_no rfl
  · refine hz_iconst (pc' := 2310) (v := 0) dL_law_2309 rfl (by decide) ?_
    exact hz_no rfl
def lawc_35 (xs : Nat → Int32) (Ls : Nat) (x5 : Int32) (w : MW) : Option MW :=
  hz_lds xs Ls (x5 + 1) (fun v1 => hz_lds xs Ls (x5 + 2) (fun v2 => hz_lds xs Ls (x5 + 3) (fun v3 => hz_b (f_L_mixedEnergy 0 v1 v2 v3 356 w) (fun v4 w5 => hz_lds xs Ls (x5 + 1) (fun v6 => hz_lds xs Ls (x5 + 2) (fun v7 => hz_lds xs Ls (x5 + 3) (fun v8 => hz_b (f_X10_mixedEnergy 336 v6 v7 v8 w5) (fun v10 w9 => hz_b (f_X10_thrown 336 w9) (fun v12 w11 => (if v12 = v4 then (if v4 = 0 then hz_let w11.2.2.1 (fun v13 => (if (lg_cmp v13 (Int32.toInt64 v10)) = 0 then some w11 else none)) else some w11) else none))))))))))
set_option maxHeartbeats 4000000 in
set_option maxRecDepth 100000 in
theorem lct_35 {p : Program} {l : Launch} (hl : l.stackTraces = false) {e : Env} {s : State} {m : MethodId} {args : Array Value} {below : List Frame} {meth : Method} {c : Code} {ret : Option FieldType} {B : Bt} {tb : List ExceptionTableEntry} {ini : Bool} {ρ : Type} {Fi : ρ → State → Prop} {Ko : MW → Option ρ} {b Ls k sl : Nat} {xs : Nat → Int32} (hX : va_X b Ls xs s s.heap) (hbl : b < s.heap.size) (hbA : ¬ hz_A B b) (hk : k + 8 ≤ 603072 ∧ sl + 48 ≤ 7059562) {x5 : Int32} {w : MW} (hj : ∀ w', hz_J p l e (hz_rm 21 603072 7059562) s m args below meth c cL_law 9 RL ret B tb ini false Fi Ko 2647 [(0, .ref b), (1, .ref (B.1 + 0)), (2, .ref (B.1 + 336)), (3, .ref (B.1 + 356)), (4, .ref (B.1 + 357)), (5, .int x5)] [] (k + 8) (sl + 48) 358 w' (some w')) : hz_J p l e (hz_rm 21 603072 7059562) s m args below meth c cL_law 9 RL ret B tb ini false Fi Ko 2331 [(0, .ref b), (1, .ref (B.1 + 0)), (2, .ref (B.1 + 336)), (3, .ref (B.1 + 356)), (4, .ref (B.1 + 357)), (5, .int x5)] [] k sl 358 w (lawc_35 xs Ls x5 w) := by
  have g1 : hz_g 358 0 10 = true := by decide +kernel
  have g2 : hz_g 358 336 11 = true := by decide +kernel
  have g3 : hz_g 358 356 23 = true := by decide +kernel
  have g4 : hz_g 358 357 24 = true := by decide +kernel
  obtain ⟨hk1, hk2⟩ := hk
  unfold lawc_35
  refine hz_aload_n (pc' := 2332) (j := 1) dL_law_2331 rfl rfl rfl ?_
  refine hz_aload_n (pc' := 2333) (j := 0) dL_law_2332 rfl rfl rfl ?_
  refine hz_iload (pc' := 2335) (j := 5) dL_law_2333 rfl rfl ?_
  refine hz_iconst (pc' := 2336) (v := 1) dL_law_2335 rfl (by decide) ?_
  refine hz_iadd (pc' := 2337) dL_law_2336 rfl ?_
  refine hz_sld (pc' := 2338) hX hbl hbA dL_law_2337 rfl (fun v1 => ?_)
  refine hz_aload_n (pc' := 2339) (j := 0) dL_law_2338 rfl rfl rfl ?_
  refine hz_iload (pc' := 2341) (j := 5) dL_law_2339 rfl rfl ?_
  refine hz_iconst (pc' := 2342) (v := 2) dL_law_2341 rfl (by decide) ?_
  refine hz_iadd (pc' := 2343) dL_law_2342 rfl ?_
  refine hz_sld (pc' := 2344) hX hbl hbA dL_law_2343 rfl (fun v2 => ?_)
  refine hz_aload_n (pc' := 2345) (j := 0) dL_law_2344 rfl rfl rfl ?_
  refine hz_iload (pc' := 2347) (j := 5) dL_law_2345 rfl rfl ?_
  refine hz_iconst (pc' := 2348) (v := 3) dL_law_2347 rfl (by decide) ?_
  refine hz_iadd (pc' := 2349) dL_law_2348 rfl ?_
  refine hz_sld (pc' := 2350) hX hbl hbA dL_law_2349 rfl (fun v3 => ?_)
  refine hz_aload_n (pc' := 2351) (j := 3) dL_law_2350 rfl rfl rfl ?_
  refine hz_cW (pc' := 2354) (na := 5) (hh := [(0, 12, 15, 13), (0, 12, 19, 19)]) (av := [.ref (B.1 + 0), .int v1, .int v2, .int v3, .ref (B.1 + 356)]) (rest := []) hq_1144 hq_1145 hq_0 hq_1146 ⟨by decide, by decide, by decide +kernel⟩ (fun x w' h => ct_L_mixedEnergy hl h) rfl rfl (Nat.le_of_ble_eq_true rfl) (by decide) ⟨by omega, by omega⟩ rfl dL_law_2351 rfl (fun v4 w5 => ?_)
  refine hz_istore (pc' := 2356) (L' := [(6, .int v4), (0, .ref b), (1, .ref (B.1 + 0)), (2, .ref (B.1 + 336)), (3, .ref (B.1 + 356)), (4, .ref (B.1 + 357)), (5, .int x5)]) dL_law_2354 rfl (by decide) rfl ?_
  refine hz_aload_n (pc' := 2357) (j := 3) dL_law_2356 rfl rfl rfl ?_
  refine hz_aload_n (pc' := 2358) (j := 1) dL_law_2357 rfl rfl rfl ?_
  refine hz_iload (pc' := 2360) (j := 6) dL_law_2358 rfl rfl ?_
  refine hz_iconst (pc' := 2361) (v := 1) dL_law_2360 rfl (by decide) ?_
  refine hz_iadd (pc' := 2362) dL_law_2361 rfl ?_
  refine hz_sld (pc' := 2363) hX hbl hbA dL_law_2362 rfl (fun v6 => ?_)
  refine hz_aload_n (pc' := 2364) (j := 1) dL_law_2363 rfl rfl rfl ?_
  refine hz_iload (pc' := 2366) (j := 6) dL_law_2364 rfl rfl ?_
  refine hz_iconst (pc' := 2367) (v := 2) dL_law_2366 rfl (by decide) ?_
  refine hz_iadd (pc' := 2368) dL_law_2367 rfl ?_
  refine hz_sld (pc' := 2369) hX hbl hbA dL_law_2368 rfl (fun v7 => ?_)
  refine hz_aload_n (pc' := 2370) (j := 1) dL_law_2369 rfl rfl rfl ?_
  refine hz_iload (pc' := 2372) (j := 6) dL_law_2370 rfl rfl ?_
  refine hz_iconst (pc' := 2373) (v := 3) dL_law_2372 rfl (by decide) ?_
  refine hz_iadd (pc' := 2374) dL_law_2373 rfl ?_
  refine hz_sld (pc' := 2375) hX hbl hbA dL_law_2374 rfl (fun v8 => ?_)
  refine hz_cVi (pc' := 2378) (av := [.int v6, .int v7, .int v8]) (rest := []) vl_L_266 (fun x w' h => ct_X10_mixedEnergy hl h) g2 rfl rfl (Nat.le_of_ble_eq_true rfl) (by decide) ⟨by omega, by omega⟩ rfl dL_law_2375 rfl (fun v10 w9 => ?_)
  refine hz_istore (pc' := 2380) (L' := [(7, .int v10), (6, .int v4), (0, .ref b), (1, .ref (B.1 + 0)), (2, .ref (B.1 + 336)), (3, .ref (B.1 + 356)), (4, .ref (B.1 + 357)), (5, .int x5)]) dL_law_2378 rfl (by decide) rfl ?_
  refine hz_aload_n (pc' := 2381) (j := 4) dL_law_2380 rfl rfl rfl ?_
  refine hz_cVi (pc' := 2384) (av := []) (rest := []) vl_L_150 (fun x w' h => ct_X10_thrown hl h) g2 rfl rfl (Nat.le_of_ble_eq_true rfl) (by decide) ⟨by omega, by omega⟩ rfl dL_law_2381 rfl (fun v12 w11 => ?_)
  refine hz_iload (pc' := 2386) (j := 1) dL_law_2384 rfl rfl ?_
  refine hz_icmpeq (pc' := 2389) (tgt := 2391) dL_law_2386 (by decide) rfl ?_ ?_
  · refine hz_iload (pc' := 2393) (j := 1) dL_law_2391 rfl rfl ?_
    refine hz_ifne (pc' := 2396) (tgt := 2408) dL_law_2393 (by decide) rfl ?_ ?_
    · refine hz_goto (tgt := 2647) dL_law_2408 (by decide) ?_
      exact hz_wide (k' := k + 8) (sl' := sl + 48) (by omega) (by omega) rfl (hz_loc [2, 3, 4, 5, 6, 7] rfl (hj w11))
    · refine hz_aload_n (pc' := 2397) (j := 5) dL_law_2396 rfl rfl rfl ?_
      refine hz_iconst (pc' := 2398) (v := 0) dL_law_2397 rfl (by decide) ?_
      refine hz_lald (pc' := 2399) g3 rfl dL_law_2398 rfl (fun v13 => ?_)
      refine hz_iload (pc' := 2401) (j := 0) dL_law_2399 rfl rfl ?_
      refine hz_i2l (pc' := 2402) dL_law_2401 rfl ?_
      refine hz_lcmp (pc' := 2403) dL_law_2402 rfl ?_
      refine hz_ifeq (pc' := 2406) (tgt := 2408) dL_law_2403 (by decide) rfl ?_ ?_
      · refine hz_goto (tgt := 2647) dL_law_2408 (by decide) ?_
        exact hz_wide (k' := k + 8) (sl' := sl + 48) (by omega) (by omega) rfl (hz_loc [2, 3, 4, 5, 6, 7] rfl (hj w11))
      · refine hz_iconst (pc' := 2407) (v := 0) dL_law_2406 rfl (by decide) ?_
        exact hz_no rfl
  · refine hz_iconst (pc' := 2390) (v := 0) dL_law_2389 rfl (by decide) ?_
    exact hz_no rfl
def lawc_36 (xs : Nat → Int32) (Ls : Nat) (x5 : Int32) (w : MW) : Option MW :=
  hz_lds xs Ls (x5 + 1) (fun v1 => hz_b (f_L_packedWakeUps 0 v1 356 w) (fun v2 w3 => hz_lds xs Ls (x5 + 1) (fun v4 => hz_b (f_X10_packedWakeUps 336 v4 w3) (fun v6 w5 => hz_b (f_X10_thrown 336 w5) (fun v8 w7 => (if v8 = v2 then (if v2 = 0 then hz_let w7.2.2.1 (fun v9 => (if (lg_cmp v9 (Int32.toInt64 v6)) = 0 then some w7 else none)) else some w7) else none))))))
set_option maxHeartbeats 4000000 in
set_option maxRecDepth 100000 in
theorem lct_36 {p : Program} {l : Launch} (hl : l.stackTraces = false) {e : Env} {s : State} {m : MethodId} {args : Array Value} {below : List Frame} {meth : Method} {c : Code} {ret : Option FieldType} {B : Bt} {tb : List ExceptionTableEntry} {ini : Bool} {ρ : Type} {Fi : ρ → State → Prop} {Ko : MW → Option ρ} {b Ls k sl : Nat} {xs : Nat → Int32} (hX : va_X b Ls xs s s.heap) (hbl : b < s.heap.size) (hbA : ¬ hz_A B b) (hk : k + 8 ≤ 603072 ∧ sl + 48 ≤ 7059562) {x5 : Int32} {w : MW} (hj : ∀ w', hz_J p l e (hz_rm 21 603072 7059562) s m args below meth c cL_law 9 RL ret B tb ini false Fi Ko 2647 [(0, .ref b), (1, .ref (B.1 + 0)), (2, .ref (B.1 + 336)), (3, .ref (B.1 + 356)), (4, .ref (B.1 + 357)), (5, .int x5)] [] (k + 8) (sl + 48) 358 w' (some w')) : hz_J p l e (hz_rm 21 603072 7059562) s m args below meth c cL_law 9 RL ret B tb ini false Fi Ko 2411 [(0, .ref b), (1, .ref (B.1 + 0)), (2, .ref (B.1 + 336)), (3, .ref (B.1 + 356)), (4, .ref (B.1 + 357)), (5, .int x5)] [] k sl 358 w (lawc_36 xs Ls x5 w) := by
  have g1 : hz_g 358 0 10 = true := by decide +kernel
  have g2 : hz_g 358 336 11 = true := by decide +kernel
  have g3 : hz_g 358 356 23 = true := by decide +kernel
  have g4 : hz_g 358 357 24 = true := by decide +kernel
  obtain ⟨hk1, hk2⟩ := hk
  unfold lawc_36
  refine hz_aload_n (pc' := 2412) (j := 1) dL_law_2411 rfl rfl rfl ?_
  refine hz_aload_n (pc' := 2413) (j := 0) dL_law_2412 rfl rfl rfl ?_
  refine hz_iload (pc' := 2415) (j := 5) dL_law_2413 rfl rfl ?_
  refine hz_iconst (pc' := 2416) (v := 1) dL_law_2415 rfl (by decide) ?_
  refine hz_iadd (pc' := 2417) dL_law_2416 rfl ?_
  refine hz_sld (pc' := 2418) hX hbl hbA dL_law_2417 rfl (fun v1 => ?_)
  refine hz_aload_n (pc' := 2419) (j := 3) dL_law_2418 rfl rfl rfl ?_
  refine hz_cW (pc' := 2422) (na := 3) (hh := [(0, 9, 12, 13), (0, 9, 15, 19)]) (av := [.ref (B.1 + 0), .int v1, .ref (B.1 + 356)]) (rest := []) hq_1162 hq_1163 hq_0 hq_1164 ⟨by decide, by decide, by decide +kernel⟩ (fun x w' h => ct_L_packedWakeUps hl h) rfl rfl (Nat.le_of_ble_eq_true rfl) (by decide) ⟨by omega, by omega⟩ rfl dL_law_2419 rfl (fun v2 w3 => ?_)
  refine hz_istore (pc' := 2424) (L' := [(6, .int v2), (0, .ref b), (1, .ref (B.1 + 0)), (2, .ref (B.1 + 336)), (3, .ref (B.1 + 356)), (4, .ref (B.1 + 357)), (5, .int x5)]) dL_law_2422 rfl (by decide) rfl ?_
  refine hz_aload_n (pc' := 2425) (j := 3) dL_law_2424 rfl rfl rfl ?_
  refine hz_aload_n (pc' := 2426) (j := 1) dL_law_2425 rfl rfl rfl ?_
  refine hz_iload (pc' := 2428) (j := 6) dL_law_2426 rfl rfl ?_
  refine hz_iconst (pc' := 2429) (v := 1) dL_law_2428 rfl (by decide) ?_
  refine hz_iadd (pc' := 2430) dL_law_2429 rfl ?_
  refine hz_sld (pc' := 2431) hX hbl hbA dL_law_2430 rfl (fun v4 => ?_)
  refine hz_cVi (pc' := 2434) (av := [.int v4]) (rest := []) vl_L_269 (fun x w' h => ct_X10_packedWakeUps hl h) g2 rfl rfl (Nat.le_of_ble_eq_true rfl) (by decide) ⟨by omega, by omega⟩ rfl dL_law_2431 rfl (fun v6 w5 => ?_)
  refine hz_istore (pc' := 2436) (L' := [(7, .int v6), (6, .int v2), (0, .ref b), (1, .ref (B.1 + 0)), (2, .ref (B.1 + 336)), (3, .ref (B.1 + 356)), (4, .ref (B.1 + 357)), (5, .int x5)]) dL_law_2434 rfl (by decide) rfl ?_
  refine hz_aload_n (pc' := 2437) (j := 4) dL_law_2436 rfl rfl rfl ?_
  refine hz_cVi (pc' := 2440) (av := []) (rest := []) vl_L_150 (fun x w' h => ct_X10_thrown hl h) g2 rfl rfl (Nat.le_of_ble_eq_true rfl) (by decide) ⟨by omega, by omega⟩ rfl dL_law_2437 rfl (fun v8 w7 => ?_)
  refine hz_iload (pc' := 2442) (j := 1) dL_law_2440 rfl rfl ?_
  refine hz_icmpeq (pc' := 2445) (tgt := 2447) dL_law_2442 (by decide) rfl ?_ ?_
  · refine hz_iload (pc' := 2449) (j := 1) dL_law_2447 rfl rfl ?_
    refine hz_ifne (pc' := 2452) (tgt := 2464) dL_law_2449 (by decide) rfl ?_ ?_
    · refine hz_goto (tgt := 2647) dL_law_2464 (by decide) ?_
      exact hz_wide (k' := k + 8) (sl' := sl + 48) (by omega) (by omega) rfl (hz_loc [2, 3, 4, 5, 6, 7] rfl (hj w7))
    · refine hz_aload_n (pc' := 2453) (j := 5) dL_law_2452 rfl rfl rfl ?_
      refine hz_iconst (pc' := 2454) (v := 0) dL_law_2453 rfl (by decide) ?_
      refine hz_lald (pc' := 2455) g3 rfl dL_law_2454 rfl (fun v9 => ?_)
      refine hz_iload (pc' := 2457) (j := 0) dL_law_2455 rfl rfl ?_
      refine hz_i2l (pc' := 2458) dL_law_2457 rfl ?_
      refine hz_lcmp (pc' := 2459) dL_law_2458 rfl ?_
      refine hz_ifeq (pc' := 2462) (tgt := 2464) dL_law_2459 (by decide) rfl ?_ ?_
      · refine hz_goto (tgt := 2647) dL_law_2464 (by decide) ?_
        exact hz_wide (k' := k + 8) (sl' := sl + 48) (by omega) (by omega) rfl (hz_loc [2, 3, 4, 5, 6, 7] rfl (hj w7))
      · refine hz_iconst (pc' := 2463) (v := 0) dL_law_2462 rfl (by decide) ?_
        exact hz_no rfl
  · refine hz_iconst (pc' := 2446) (v := 0) dL_law_2445 rfl (by decide) ?_
    exact hz_no rfl
def lawc_37 (xs : Nat → Int32) (Ls : Nat) (x5 : Int32) (w : MW) : Option MW :=
  hz_lds xs Ls (x5 + 1) (fun v1 => hz_lds xs Ls (x5 + 2) (fun v2 => hz_b (f_L_packedTick 0 v1 v2 356 w) (fun v3 w4 => hz_lds xs Ls (x5 + 1) (fun v5 => hz_lds xs Ls (x5 + 2) (fun v6 => hz_b (f_X10_packedTick 336 v5 v6 w4) (fun v8 w7 => hz_b (f_X10_thrown 336 w7) (fun v10 w9 => (if v10 = v3 then (if v3 = 0 then hz_let w9.2.2.1 (fun v11 => (if (lg_cmp v11 (Int32.toInt64 v8)) = 0 then some w9 else none)) else some w9) else none))))))))
set_option maxHeartbeats 4000000 in
set_option maxRecDepth 100000 in
theorem lct_37 {p : Program} {l : Launch} (hl : l.stackTraces = false) {e : Env} {s : State} {m : MethodId} {args : Array Value} {below : List Frame} {meth : Method} {c : Code} {ret : Option FieldType} {B : Bt} {tb : List ExceptionTableEntry} {ini : Bool} {ρ : Type} {Fi : ρ → State → Prop} {Ko : MW → Option ρ} {b Ls k sl : Nat} {xs : Nat → Int32} (hX : va_X b Ls xs s s.heap) (hbl : b < s.heap.size) (hbA : ¬ hz_A B b) (hk : k + 8 ≤ 603072 ∧ sl + 48 ≤ 7059562) {x5 : Int32} {w : MW} (hj : ∀ w', hz_J p l e (hz_rm 21 603072 7059562) s m args below meth c cL_law 9 RL ret B tb ini false Fi Ko 2647 [(0, .ref b), (1, .ref (B.1 + 0)), (2, .ref (B.1 + 336)), (3, .ref (B.1 + 356)), (4, .ref (B.1 + 357)), (5, .int x5)] [] (k + 8) (sl + 48) 358 w' (some w')) : hz_J p l e (hz_rm 21 603072 7059562) s m args below meth c cL_law 9 RL ret B tb ini false Fi Ko 2467 [(0, .ref b), (1, .ref (B.1 + 0)), (2, .ref (B.1 + 336)), (3, .ref (B.1 + 356)), (4, .ref (B.1 + 357)), (5, .int x5)] [] k sl 358 w (lawc_37 xs Ls x5 w) := by
  have g1 : hz_g 358 0 10 = true := by decide +kernel
  have g2 : hz_g 358 336 11 = true := by decide +kernel
  have g3 : hz_g 358 356 23 = true := by decide +kernel
  have g4 : hz_g 358 357 24 = true := by decide +kernel
  obtain ⟨hk1, hk2⟩ := hk
  unfold lawc_37
  refine hz_aload_n (pc' := 2468) (j := 1) dL_law_2467 rfl rfl rfl ?_
  refine hz_aload_n (pc' := 2469) (j := 0) dL_law_2468 rfl rfl rfl ?_
  refine hz_iload (pc' := 2471) (j := 5) dL_law_2469 rfl rfl ?_
  refine hz_iconst (pc' := 2472) (v := 1) dL_law_2471 rfl (by decide) ?_
  refine hz_iadd (pc' := 2473) dL_law_2472 rfl ?_
  refine hz_sld (pc' := 2474) hX hbl hbA dL_law_2473 rfl (fun v1 => ?_)
  refine hz_aload_n (pc' := 2475) (j := 0) dL_law_2474 rfl rfl rfl ?_
  refine hz_iload (pc' := 2477) (j := 5) dL_law_2475 rfl rfl ?_
  refine hz_iconst (pc' := 2478) (v := 2) dL_law_2477 rfl (by decide) ?_
  refine hz_iadd (pc' := 2479) dL_law_2478 rfl ?_
  refine hz_sld (pc' := 2480) hX hbl hbA dL_law_2479 rfl (fun v2 => ?_)
  refine hz_aload_n (pc' := 2481) (j := 3) dL_law_2480 rfl rfl rfl ?_
  refine hz_cW (pc' := 2484) (na := 4) (hh := [(0, 10, 13, 13), (0, 10, 17, 19)]) (av := [.ref (B.1 + 0), .int v1, .int v2, .ref (B.1 + 356)]) (rest := []) hq_1176 hq_1177 hq_0 hq_1178 ⟨by decide, by decide, by decide +kernel⟩ (fun x w' h => ct_L_packedTick hl h) rfl rfl (Nat.le_of_ble_eq_true rfl) (by decide) ⟨by omega, by omega⟩ rfl dL_law_2481 rfl (fun v3 w4 => ?_)
  refine hz_istore (pc' := 2486) (L' := [(6, .int v3), (0, .ref b), (1, .ref (B.1 + 0)), (2, .ref (B.1 + 336)), (3, .ref (B.1 + 356)), (4, .ref (B.1 + 357)), (5, .int x5)]) dL_law_2484 rfl (by decide) rfl ?_
  refine hz_aload_n (pc' := 2487) (j := 3) dL_law_2486 rfl rfl rfl ?_
  refine hz_aload_n (pc' := 2488) (j := 1) dL_law_2487 rfl rfl rfl ?_
  refine hz_iload (pc' := 2490) (j := 6) dL_law_2488 rfl rfl ?_
  refine hz_iconst (pc' := 2491) (v := 1) dL_law_2490 rfl (by decide) ?_
  refine hz_iadd (pc' := 2492) dL_law_2491 rfl ?_
  refine hz_sld (pc' := 2493) hX hbl hbA dL_law_2492 rfl (fun v5 => ?_)
  refine hz_aload_n (pc' := 2494) (j := 1) dL_law_2493 rfl rfl rfl ?_
  refine hz_iload (pc' := 2496) (j := 6) dL_law_2494 rfl rfl ?_
  refine hz_iconst (pc' := 2497) (v := 2) dL_law_2496 rfl (by decide) ?_
  refine hz_iadd (pc' := 2498) dL_law_2497 rfl ?_
  refine hz_sld (pc' := 2499) hX hbl hbA dL_law_2498 rfl (fun v6 => ?_)
  refine hz_cVi (pc' := 2502) (av := [.int v5, .int v6]) (rest := []) vl_L_272 (fun x w' h => ct_X10_packedTick hl h) g2 rfl rfl (Nat.le_of_ble_eq_true rfl) (by decide) ⟨by omega, by omega⟩ rfl dL_law_2499 rfl (fun v8 w7 => ?_)
  refine hz_istore (pc' := 2504) (L' := [(7, .int v8), (6, .int v3), (0, .ref b), (1, .ref (B.1 + 0)), (2, .ref (B.1 + 336)), (3, .ref (B.1 + 356)), (4, .ref (B.1 + 357)), (5, .int x5)]) dL_law_2502 rfl (by decide) rfl ?_
  refine hz_aload_n (pc' := 2505) (j := 4) dL_law_2504 rfl rfl rfl ?_
  refine hz_cVi (pc' := 2508) (av := []) (rest := []) vl_L_150 (fun x w' h => ct_X10_thrown hl h) g2 rfl rfl (Nat.le_of_ble_eq_true rfl) (by decide) ⟨by omega, by omega⟩ rfl dL_law_2505 rfl (fun v10 w9 => ?_)
  refine hz_iload (pc' := 2510) (j := 1) dL_law_2508 rfl rfl ?_
  refine hz_icmpeq (pc' := 2513) (tgt := 2515) dL_law_2510 (by decide) rfl ?_ ?_
  · refine hz_iload (pc' := 2517) (j := 1) dL_law_2515 rfl rfl ?_
    refine hz_ifne (pc' := 2520) (tgt := 2532) dL_law_2517 (by decide) rfl ?_ ?_
    · refine hz_goto (tgt := 2647) dL_law_2532 (by decide) ?_
      exact hz_wide (k' := k + 8) (sl' := sl + 48) (by omega) (by omega) rfl (hz_loc [2, 3, 4, 5, 6, 7] rfl (hj w9))
    · refine hz_aload_n (pc' := 2521) (j := 5) dL_law_2520 rfl rfl rfl ?_
      refine hz_iconst (pc' := 2522) (v := 0) dL_law_2521 rfl (by decide) ?_
      refine hz_lald (pc' := 2523) g3 rfl dL_law_2522 rfl (fun v11 => ?_)
      refine hz_iload (pc' := 2525) (j := 0) dL_law_2523 rfl rfl ?_
      refine hz_i2l (pc' := 2526) dL_law_2525 rfl ?_
      refine hz_lcmp (pc' := 2527) dL_law_2526 rfl ?_
      refine hz_ifeq (pc' := 2530) (tgt := 2532) dL_law_2527 (by decide) rfl ?_ ?_
      · refine hz_goto (tgt := 2647) dL_law_2532 (by decide) ?_
        exact hz_wide (k' := k + 8) (sl' := sl + 48) (by omega) (by omega) rfl (hz_loc [2, 3, 4, 5, 6, 7] rfl (hj w9))
      · refine hz_iconst (pc' := 2531) (v := 0) dL_law_2530 rfl (by decide) ?_
        exact hz_no rfl
  · refine hz_iconst (pc' := 2514) (v := 0) dL_law_2513 rfl (by decide) ?_
    exact hz_no rfl
def lawc_38 (xs : Nat → Int32) (Ls : Nat) (x5 : Int32) (w : MW) : Option MW :=
  hz_lds xs Ls (x5 + 1) (fun v1 => hz_lds xs Ls (x5 + 2) (fun v2 => hz_b (f_L_packedJobs 0 v1 v2 356 w) (fun v3 w4 => hz_lds xs Ls (x5 + 1) (fun v5 => hz_lds xs Ls (x5 + 2) (fun v6 => hz_b (f_X10_packedJobs 336 v5 v6 w4) (fun v8 w7 => hz_b (f_X10_thrown 336 w7) (fun v10 w9 => (if v10 = v3 then (if v3 = 0 then hz_let w9.2.2.1 (fun v11 => (if (lg_cmp v11 (Int32.toInt64 v8)) = 0 then some w9 else none)) else some w9) else none))))))))
set_option maxHeartbeats 4000000 in
set_option maxRecDepth 100000 in
theorem lct_38 {p : Program} {l : Launch} (hl : l.stackTraces = false) {e : Env} {s : State} {m : MethodId} {args : Array Value} {below : List Frame} {meth : Method} {c : Code} {ret : Option FieldType} {B : Bt} {tb : List ExceptionTableEntry} {ini : Bool} {ρ : Type} {Fi : ρ → State → Prop} {Ko : MW → Option ρ} {b Ls k sl : Nat} {xs : Nat → Int32} (hX : va_X b Ls xs s s.heap) (hbl : b < s.heap.size) (hbA : ¬ hz_A B b) (hk : k + 8 ≤ 603072 ∧ sl + 48 ≤ 7059562) {x5 : Int32} {w : MW} (hj : ∀ w', hz_J p l e (hz_rm 21 603072 7059562) s m args below meth c cL_law 9 RL ret B tb ini false Fi Ko 2647 [(0, .ref b), (1, .ref (B.1 + 0)), (2, .ref (B.1 + 336)), (3, .ref (B.1 + 356)), (4, .ref (B.1 + 357)), (5, .int x5)] [] (k + 8) (sl + 48) 358 w' (some w')) : hz_J p l e (hz_rm 21 603072 7059562) s m args below meth c cL_law 9 RL ret B tb ini false Fi Ko 2535 [(0, .ref b), (1, .ref (B.1 + 0)), (2, .ref (B.1 + 336)), (3, .ref (B.1 + 356)), (4, .ref (B.1 + 357)), (5, .int x5)] [] k sl 358 w (lawc_38 xs Ls x5 w) := by
  have g1 : hz_g 358 0 10 = true := by decide +kernel
  have g2 : hz_g 358 336 11 = true := by decide +kernel
  have g3 : hz_g 358 356 23 = true := by decide +kernel
  have g4 : hz_g 358 357 24 = true := by decide +kernel
  obtain ⟨hk1, hk2⟩ := hk
  unfold lawc_38
  refine hz_aload_n (pc' := 2536) (j := 1) dL_law_2535 rfl rfl rfl ?_
  refine hz_aload_n (pc' := 2537) (j := 0) dL_law_2536 rfl rfl rfl ?_
  refine hz_iload (pc' := 2539) (j := 5) dL_law_2537 rfl rfl ?_
  refine hz_iconst (pc' := 2540) (v := 1) dL_law_2539 rfl (by decide) ?_
  refine hz_iadd (pc' := 2541) dL_law_2540 rfl ?_
  refine hz_sld (pc' := 2542) hX hbl hbA dL_law_2541 rfl (fun v1 => ?_)
  refine hz_aload_n (pc' := 2543) (j := 0) dL_law_2542 rfl rfl rfl ?_
  refine hz_iload (pc' := 2545) (j := 5) dL_law_2543 rfl rfl ?_
  refine hz_iconst (pc' := 2546) (v := 2) dL_law_2545 rfl (by decide) ?_
  refine hz_iadd (pc' := 2547) dL_law_2546 rfl ?_
  refine hz_sld (pc' := 2548) hX hbl hbA dL_law_2547 rfl (fun v2 => ?_)
  refine hz_aload_n (pc' := 2549) (j := 3) dL_law_2548 rfl rfl rfl ?_
  refine hz_cW (pc' := 2552) (na := 4) (hh := [(0, 10, 13, 13), (0, 10, 17, 19)]) (av := [.ref (B.1 + 0), .int v1, .int v2, .ref (B.1 + 356)]) (rest := []) hq_1183 hq_1184 hq_0 hq_1185 ⟨by decide, by decide, by decide +kernel⟩ (fun x w' h => ct_L_packedJobs hl h) rfl rfl (Nat.le_of_ble_eq_true rfl) (by decide) ⟨by omega, by omega⟩ rfl dL_law_2549 rfl (fun v3 w4 => ?_)
  refine hz_istore (pc' := 2554) (L' := [(6, .int v3), (0, .ref b), (1, .ref (B.1 + 0)), (2, .ref (B.1 + 336)), (3, .ref (B.1 + 356)), (4, .ref (B.1 + 357)), (5, .int x5)]) dL_law_2552 rfl (by decide) rfl ?_
  refine hz_aload_n (pc' := 2555) (j := 3) dL_law_2554 rfl rfl rfl ?_
  refine hz_aload_n (pc' := 2556) (j := 1) dL_law_2555 rfl rfl rfl ?_
  refine hz_iload (pc' := 2558) (j := 6) dL_law_2556 rfl rfl ?_
  refine hz_iconst (pc' := 2559) (v := 1) dL_law_2558 rfl (by decide) ?_
  refine hz_iadd (pc' := 2560) dL_law_2559 rfl ?_
  refine hz_sld (pc' := 2561) hX hbl hbA dL_law_2560 rfl (fun v5 => ?_)
  refine hz_aload_n (pc' := 2562) (j := 1) dL_law_2561 rfl rfl rfl ?_
  refine hz_iload (pc' := 2564) (j := 6) dL_law_2562 rfl rfl ?_
  refine hz_iconst (pc' := 2565) (v := 2) dL_law_2564 rfl (by decide) ?_
  refine hz_iadd (pc' := 2566) dL_law_2565 rfl ?_
  refine hz_sld (pc' := 2567) hX hbl hbA dL_law_2566 rfl (fun v6 => ?_)
  refine hz_cVi (pc' := 2570) (av := [.int v5, .int v6]) (rest := []) vl_L_275 (fun x w' h => ct_X10_packedJobs hl h) g2 rfl rfl (Nat.le_of_ble_eq_true rfl) (by decide) ⟨by omega, by omega⟩ rfl dL_law_2567 rfl (fun v8 w7 => ?_)
  refine hz_istore (pc' := 2572) (L' := [(7, .int v8), (6, .int v3), (0, .ref b), (1, .ref (B.1 + 0)), (2, .ref (B.1 + 336)), (3, .ref (B.1 + 356)), (4, .ref (B.1 + 357)), (5, .int x5)]) dL_law_2570 rfl (by decide) rfl ?_
  refine hz_aload_n (pc' := 2573) (j := 4) dL_law_2572 rfl rfl rfl ?_
  refine hz_cVi (pc' := 2576) (av := []) (rest := []) vl_L_150 (fun x w' h => ct_X10_thrown hl h) g2 rfl rfl (Nat.le_of_ble_eq_true rfl) (by decide) ⟨by omega, by omega⟩ rfl dL_law_2573 rfl (fun v10 w9 => ?_)
  refine hz_iload (pc' := 2578) (j := 1) dL_law_2576 rfl rfl ?_
  refine hz_icmpeq (pc' := 2581) (tgt := 2583) dL_law_2578 (by decide) rfl ?_ ?_
  · refine hz_iload (pc' := 2585) (j := 1) dL_law_2583 rfl rfl ?_
    refine hz_ifne (pc' := 2588) (tgt := 2600) dL_law_2585 (by decide) rfl ?_ ?_
    · refine hz_goto (tgt := 2647) dL_law_2600 (by decide) ?_
      exact hz_wide (k' := k + 8) (sl' := sl + 48) (by omega) (by omega) rfl (hz_loc [2, 3, 4, 5, 6, 7] rfl (hj w9))
    · refine hz_aload_n (pc' := 2589) (j := 5) dL_law_2588 rfl rfl rfl ?_
      refine hz_iconst (pc' := 2590) (v := 0) dL_law_2589 rfl (by decide) ?_
      refine hz_lald (pc' := 2591) g3 rfl dL_law_2590 rfl (fun v11 => ?_)
      refine hz_iload (pc' := 2593) (j := 0) dL_law_2591 rfl rfl ?_
      refine hz_i2l (pc' := 2594) dL_law_2593 rfl ?_
      refine hz_lcmp (pc' := 2595) dL_law_2594 rfl ?_
      refine hz_ifeq (pc' := 2598) (tgt := 2600) dL_law_2595 (by decide) rfl ?_ ?_
      · refine hz_goto (tgt := 2647) dL_law_2600 (by decide) ?_
        exact hz_wide (k' := k + 8) (sl' := sl + 48) (by omega) (by omega) rfl (hz_loc [2, 3, 4, 5, 6, 7] rfl (hj w9))
      · refine hz_iconst (pc' := 2599) (v := 0) dL_law_2598 rfl (by decide) ?_
        exact hz_no rfl
  · refine hz_iconst (pc' := 2582) (v := 0) dL_law_2581 rfl (by decide) ?_
    exact hz_no rfl
def lawc_39 (xs : Nat → Int32) (Ls : Nat) (x5 : Int32) (w : MW) : Option MW :=
  hz_b (f_L_undo 0 356 w) (fun v1 w2 => hz_b (f_X10_undo 336 w2) (fun v4 w3 => hz_b (f_X10_thrown 336 w3) (fun v6 w5 => (if v6 = v1 then (if v1 = 0 then hz_let w5.2.2.1 (fun v7 => (if (lg_cmp v7 (Int32.toInt64 v4)) = 0 then some w5 else none)) else some w5) else none))))
set_option maxHeartbeats 4000000 in
set_option maxRecDepth 100000 in
theorem lct_39 {p : Program} {l : Launch} (hl : l.stackTraces = false) {e : Env} {s : State} {m : MethodId} {args : Array Value} {below : List Frame} {meth : Method} {c : Code} {ret : Option FieldType} {B : Bt} {tb : List ExceptionTableEntry} {ini : Bool} {ρ : Type} {Fi : ρ → State → Prop} {Ko : MW → Option ρ} {b Ls k sl : Nat} {xs : Nat → Int32} (hX : va_X b Ls xs s s.heap) (hbl : b < s.heap.size) (hbA : ¬ hz_A B b) (hk : k + 8 ≤ 603072 ∧ sl + 48 ≤ 7059562) {x5 : Int32} {w : MW} (hj : ∀ w', hz_J p l e (hz_rm 21 603072 7059562) s m args below meth c cL_law 9 RL ret B tb ini false Fi Ko 2647 [(0, .ref b), (1, .ref (B.1 + 0)), (2, .ref (B.1 + 336)), (3, .ref (B.1 + 356)), (4, .ref (B.1 + 357)), (5, .int x5)] [] (k + 8) (sl + 48) 358 w' (some w')) : hz_J p l e (hz_rm 21 603072 7059562) s m args below meth c cL_law 9 RL ret B tb ini false Fi Ko 2603 [(0, .ref b), (1, .ref (B.1 + 0)), (2, .ref (B.1 + 336)), (3, .ref (B.1 + 356)), (4, .ref (B.1 + 357)), (5, .int x5)] [] k sl 358 w (lawc_39 xs Ls x5 w) := by
  have g1 : hz_g 358 0 10 = true := by decide +kernel
  have g2 : hz_g 358 336 11 = true := by decide +kernel
  have g3 : hz_g 358 356 23 = true := by decide +kernel
  have g4 : hz_g 358 357 24 = true := by decide +kernel
  obtain ⟨hk1, hk2⟩ := hk
  unfold lawc_39
  refine hz_aload_n (pc' := 2604) (j := 1) dL_law_2603 rfl rfl rfl ?_
  refine hz_aload_n (pc' := 2605) (j := 3) dL_law_2604 rfl rfl rfl ?_
  refine hz_cW (pc' := 2608) (na := 2) (hh := [(0, 8, 11, 13)]) (av := [.ref (B.1 + 0), .ref (B.1 + 356)]) (rest := []) hq_1190 hq_1191 hq_0 hq_1192 ⟨by decide, by decide, by decide +kernel⟩ (fun x w' h => ct_L_undo hl h) rfl rfl (Nat.le_of_ble_eq_true rfl) (by decide) ⟨by omega, by omega⟩ rfl dL_law_2605 rfl (fun v1 w2 => ?_)
  refine hz_istore (pc' := 2610) (L' := [(6, .int v1), (0, .ref b), (1, .ref (B.1 + 0)), (2, .ref (B.1 + 336)), (3, .ref (B.1 + 356)), (4, .ref (B.1 + 357)), (5, .int x5)]) dL_law_2608 rfl (by decide) rfl ?_
  refine hz_aload_n (pc' := 2611) (j := 3) dL_law_2610 rfl rfl rfl ?_
  refine hz_cVi (pc' := 2614) (av := []) (rest := []) vl_L_278 (fun x w' h => ct_X10_undo hl h) g2 rfl rfl (Nat.le_of_ble_eq_true rfl) (by decide) ⟨by omega, by omega⟩ rfl dL_law_2611 rfl (fun v4 w3 => ?_)
  refine hz_istore (pc' := 2616) (L' := [(7, .int v4), (6, .int v1), (0, .ref b), (1, .ref (B.1 + 0)), (2, .ref (B.1 + 336)), (3, .ref (B.1 + 356)), (4, .ref (B.1 + 357)), (5, .int x5)]) dL_law_2614 rfl (by decide) rfl ?_
  refine hz_aload_n (pc' := 2617) (j := 4) dL_law_2616 rfl rfl rfl ?_
  refine hz_cVi (pc' := 2620) (av := []) (rest := []) vl_L_150 (fun x w' h => ct_X10_thrown hl h) g2 rfl rfl (Nat.le_of_ble_eq_true rfl) (by decide) ⟨by omega, by omega⟩ rfl dL_law_2617 rfl (fun v6 w5 => ?_)
  refine hz_iload (pc' := 2622) (j := 1) dL_law_2620 rfl rfl ?_
  refine hz_icmpeq (pc' := 2625) (tgt := 2627) dL_law_2622 (by decide) rfl ?_ ?_
  · refine hz_iload (pc' := 2629) (j := 1) dL_law_2627 rfl rfl ?_
    refine hz_ifne (pc' := 2632) (tgt := 2644) dL_law_2629 (by decide) rfl ?_ ?_
    · refine hz_goto (tgt := 2647) dL_law_2644 (by decide) ?_
      exact hz_wide (k' := k + 8) (sl' := sl + 48) (by omega) (by omega) rfl (hz_loc [2, 3, 4, 5, 6, 7] rfl (hj w5))
    · refine hz_aload_n (pc' := 2633) (j := 5) dL_law_2632 rfl rfl rfl ?_
      refine hz_iconst (pc' := 2634) (v := 0) dL_law_2633 rfl (by decide) ?_
      refine hz_lald (pc' := 2635) g3 rfl dL_law_2634 rfl (fun v7 => ?_)
      refine hz_iload (pc' := 2637) (j := 0) dL_law_2635 rfl rfl ?_
      refine hz_i2l (pc' := 2638) dL_law_2637 rfl ?_
      refine hz_lcmp (pc' := 2639) dL_law_2638 rfl ?_
      refine hz_ifeq (pc' := 2642) (tgt := 2644) dL_law_2639 (by decide) rfl ?_ ?_
      · refine hz_goto (tgt := 2647) dL_law_2644 (by decide) ?_
        exact hz_wide (k' := k + 8) (sl' := sl + 48) (by omega) (by omega) rfl (hz_loc [2, 3, 4, 5, 6, 7] rfl (hj w5))
      · refine hz_iconst (pc' := 2643) (v := 0) dL_law_2642 rfl (by decide) ?_
        exact hz_no rfl
  · refine hz_iconst (pc' := 2626) (v := 0) dL_law_2625 rfl (by decide) ?_
    exact hz_no rfl
