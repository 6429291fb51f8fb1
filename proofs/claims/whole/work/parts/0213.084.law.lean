/-! L_law -/
set_option maxRecDepth 100000 in
set_option maxHeartbeats 4000000 in
theorem w_L_law_j937_23 {X : CX} {y : (Int32 × Mem) ⊕ ((Mem) ⊕ (Int32 × Mem))} (C : CK X cL_law 7 RL 2048 84000) (hRO : RO X.2.2.1 X.1.2.2.2.2.1 X.1.2.2.2.2.1.heap) (hl : X.1.2.1.stackTraces = false) {L : Nat} {xs : Nat → Int32} (hsc : HSC X L xs) (l1 : Nat) (l2 : Nat) (l3 : Nat) (l4 : Int32) (t0 : Int64) (t1 : Int64) (M : Mem) (h : F_L_law_j937_23 l1 l2 l3 l4 t0 t1 M L xs = some y) (kc : ∀ s' : Int32 × Mem, y = .inl s' → wq X 7 23 [(0, .retAddr 27), (1, .ref l1), (2, .ref l2), (3, .ref l3), (4, .int (s'.1))] [] s'.2) (kx : ∀ e' : Mem, y = (.inr (.inl e')) → wq X 7 3021 [(0, .retAddr 27)] [] e') (kf : ∀ f' : Int32 × Mem, y = (.inr (.inr f')) → FINL X f') : wq X 7 937 [(0, .retAddr 27), (1, .ref l1), (2, .ref l2), (3, .ref l3), (4, .int l4)] [.long t0, .long t1] M := by
  unfold F_L_law_j937_23 at h
  refine q_lcmp C dL_law_937 ?_
  refine q_if_eq (tgt := 943) C dL_law_938 (by decide) (fun c273 => ?_) (fun c273 => ?_)
  · have h := ifT c273 h
    refine q_goto (tgt := 3015) C dL_law_943 (by decide) ?_
    refine q_iinc 4 (v := (l4 + (6 : Int32))) (lv' := [(4, .int (l4 + (6 : Int32))), (0, .retAddr 27), (1, .ref l1), (2, .ref l2), (3, .ref l3)]) C dL_law_3015 rfl rfl (by decide) rfl ?_
    refine q_goto (tgt := 23) C dL_law_3018 (by decide) ?_
    exact q_sub (lv' := [(0, .retAddr 27), (1, .ref l1), (2, .ref l2), (3, .ref l3), (4, .int (l4 + (6 : Int32)))]) [1, 2, 3, 4, 0] rfl (kc ((l4 + (6 : Int32)), M) (someI h))
  · have h := ifF c273 h
    refine q_iconst (v := (0 : Int32)) C dL_law_941 (by decide) ?_
    exact q_lawret C (kf _ (someI h)) dL_law_942
set_option maxRecDepth 100000 in
set_option maxHeartbeats 4000000 in
theorem w_L_law_s23 {X : CX} {y : (Int32 × Mem) ⊕ ((Mem) ⊕ (Int32 × Mem))} (C : CK X cL_law 7 RL 2048 84000) (hRO : RO X.2.2.1 X.1.2.2.2.2.1 X.1.2.2.2.2.1.heap) (hl : X.1.2.1.stackTraces = false) {L : Nat} {xs : Nat → Int32} (hsc : HSC X L xs) (l1 : Nat) (l2 : Nat) (l3 : Nat) (l4 : Int32) (M : Mem) (h : F_L_law_s23 l1 l2 l3 l4 M L xs = some y) (kc : ∀ s' : Int32 × Mem, y = .inl s' → wq X 7 23 [(0, .retAddr 27), (1, .ref l1), (2, .ref l2), (3, .ref l3), (4, .int (s'.1))] [] s'.2) (kx : ∀ e' : Mem, y = (.inr (.inl e')) → wq X 7 3021 [(0, .retAddr 27)] [] e') (kf : ∀ f' : Int32 × Mem, y = (.inr (.inr f')) → FINL X f') : wq X 7 23 [(0, .retAddr 27), (1, .ref l1), (2, .ref l2), (3, .ref l3), (4, .int l4)] [] M := by
  unfold F_L_law_s23 at h
  refine q_iload 4 C dL_law_23 rfl ?_
  refine q_sload_n 0 C dL_law_25 rfl ?_
  refine q_slen C hsc dL_law_26 ?_
  refine q_bipush (v := (6 : Int32)) C dL_law_27 (by decide) ?_
  refine q_isub C dL_law_29 ?_
  refine q_icmp_gt (tgt := 3021) C dL_law_30 (by decide) (fun c13 => ?_) (fun c13 => ?_)
  · have h := ifT c13 h
    exact q_sub (lv' := [(0, .retAddr 27)]) [0] rfl (kx M (someI h))
  · have h := ifF c13 h
    refine q_sload_n 0 C dL_law_33 rfl ?_
    refine q_iload 4 C dL_law_34 rfl ?_
    obtain ⟨v14, e15, h⟩ := bindE h
    refine q_sald C hsc e15 dL_law_36 ?_
    refine q_bipush (v := (63 : Int32)) C dL_law_37 (by decide) ?_
    refine q_iand C dL_law_39 ?_
    by_cases c16 : (v14 &&& (63 : Int32)) = (0 : Int32)
    · have h := ifT c16 h
      refine q_tableIn (off := 212) (tgt := 252) C dL_law_40 (by rw [c16]; decide) (by rw [c16]; decide) (by rw [c16]; rfl) (by decide) ?_
      refine q_aload_n 1 C dL_law_252 rfl ?_
      refine q_sload_n 0 C dL_law_253 rfl ?_
      refine q_iload 4 C dL_law_254 rfl ?_
      refine q_iconst (v := (1 : Int32)) C dL_law_256 (by decide) ?_
      refine q_iadd C dL_law_257 ?_
      obtain ⟨v17, e18, h⟩ := bindE h
      refine q_sald C hsc e18 dL_law_258 ?_
      refine q_sload_n 0 C dL_law_259 rfl ?_
      refine q_iload 4 C dL_law_260 rfl ?_
      refine q_iconst (v := (2 : Int32)) C dL_law_262 (by decide) ?_
      refine q_iadd C dL_law_263 ?_
      obtain ⟨v19, e20, h⟩ := bindE h
      refine q_sald C hsc e20 dL_law_264 ?_
      refine q_sload_n 0 C dL_law_265 rfl ?_
      refine q_iload 4 C dL_law_266 rfl ?_
      refine q_iconst (v := (3 : Int32)) C dL_law_268 (by decide) ?_
      refine q_iadd C dL_law_269 ?_
      obtain ⟨v21, e22, h⟩ := bindE h
      refine q_sald C hsc e22 dL_law_270 ?_
      refine q_sload_n 0 C dL_law_271 rfl ?_
      refine q_iload 4 C dL_law_272 rfl ?_
      refine q_iconst (v := (4 : Int32)) C dL_law_274 (by decide) ?_
      refine q_iadd C dL_law_275 ?_
      obtain ⟨v23, e24, h⟩ := bindE h
      refine q_sald C hsc e24 dL_law_276 ?_
      refine q_sload_n 0 C dL_law_277 rfl ?_
      refine q_iload 4 C dL_law_278 rfl ?_
      refine q_iconst (v := (5 : Int32)) C dL_law_280 (by decide) ?_
      refine q_iadd C dL_law_281 ?_
      obtain ⟨v25, e26, h⟩ := bindE h
      refine q_sald C hsc e26 dL_law_282 ?_
      obtain ⟨e27, h⟩ := ckOE h
      obtain ⟨v30, M29, e28, h⟩ := bd2E h
      refine q_callV (v := some (.int v30)) [.int v17, .int v19, .int v21, .int v23, .int v25] C hRO lk_RL_145 vk_X8_feed e27 rfl rfl rfl (Nat.le_of_ble_eq_true rfl) (by decide) (by decide) dL_law_283 (k_X8_feed X.1.2.1 hl X.2.2.1 l1 v17 v19 v21 v23 v25 M _ e28) ?_
      refine q_aload_n 2 C dL_law_286 rfl ?_
      refine q_sload_n 0 C dL_law_287 rfl ?_
      refine q_iload 4 C dL_law_288 rfl ?_
      refine q_iconst (v := (1 : Int32)) C dL_law_290 (by decide) ?_
      refine q_iadd C dL_law_291 ?_
      obtain ⟨v31, e32, h⟩ := bindE h
      refine q_sald C hsc e32 dL_law_292 ?_
      refine q_sload_n 0 C dL_law_293 rfl ?_
      refine q_iload 4 C dL_law_294 rfl ?_
      refine q_iconst (v := (2 : Int32)) C dL_law_296 (by decide) ?_
      refine q_iadd C dL_law_297 ?_
      obtain ⟨v33, e34, h⟩ := bindE h
      refine q_sald C hsc e34 dL_law_298 ?_
      refine q_sload_n 0 C dL_law_299 rfl ?_
      refine q_iload 4 C dL_law_300 rfl ?_
      refine q_iconst (v := (3 : Int32)) C dL_law_302 (by decide) ?_
      refine q_iadd C dL_law_303 ?_
      obtain ⟨v35, e36, h⟩ := bindE h
      refine q_sald C hsc e36 dL_law_304 ?_
      refine q_sload_n 0 C dL_law_305 rfl ?_
      refine q_iload 4 C dL_law_306 rfl ?_
      refine q_iconst (v := (4 : Int32)) C dL_law_308 (by decide) ?_
      refine q_iadd C dL_law_309 ?_
      obtain ⟨v37, e38, h⟩ := bindE h
      refine q_sald C hsc e38 dL_law_310 ?_
      refine q_sload_n 0 C dL_law_311 rfl ?_
      refine q_iload 4 C dL_law_312 rfl ?_
      refine q_iconst (v := (5 : Int32)) C dL_law_314 (by decide) ?_
      refine q_iadd C dL_law_315 ?_
      obtain ⟨v39, e40, h⟩ := bindE h
      refine q_sald C hsc e40 dL_law_316 ?_
      obtain ⟨e41, h⟩ := ckOE h
      obtain ⟨v44, M43, e42, h⟩ := bd2E h
      refine q_callV (v := some (.int v44)) [.int v31, .int v33, .int v35, .int v37, .int v39] C hRO lk_RL_149 vk_X9_feed e41 rfl rfl rfl (Nat.le_of_ble_eq_true rfl) (by decide) (by decide) dL_law_317 (k_X9_feed X.1.2.1 hl X.2.2.1 l2 v31 v33 v35 v37 v39 M29 _ e42) ?_
      refine q_icmp_eq (tgt := 3015) C dL_law_320 (by decide) (fun c45 => ?_) (fun c45 => ?_)
      · have h := ifT c45 h
        refine q_iinc 4 (v := (l4 + (6 : Int32))) (lv' := [(4, .int (l4 + (6 : Int32))), (0, .retAddr 27), (1, .ref l1), (2, .ref l2), (3, .ref l3)]) C dL_law_3015 rfl rfl (by decide) rfl ?_
        refine q_goto (tgt := 23) C dL_law_3018 (by decide) ?_
        exact q_sub (lv' := [(0, .retAddr 27), (1, .ref l1), (2, .ref l2), (3, .ref l3), (4, .int (l4 + (6 : Int32)))]) [1, 2, 3, 4, 0] rfl (kc ((l4 + (6 : Int32)), M43) (someI h))
      · have h := ifF c45 h
        refine q_iconst (v := (0 : Int32)) C dL_law_323 (by decide) ?_
        exact q_lawret C (kf _ (someI h)) dL_law_324
    have h := ifF c16 h
    by_cases c46 : (v14 &&& (63 : Int32)) = (1 : Int32)
    · have h := ifT c46 h
      refine q_tableIn (off := 285) (tgt := 325) C dL_law_40 (by rw [c46]; decide) (by rw [c46]; decide) (by rw [c46]; rfl) (by decide) ?_
      refine q_aload_n 1 C dL_law_325 rfl ?_
      refine q_sload_n 0 C dL_law_326 rfl ?_
      refine q_iload 4 C dL_law_327 rfl ?_
      refine q_iconst (v := (1 : Int32)) C dL_law_329 (by decide) ?_
      refine q_iadd C dL_law_330 ?_
      obtain ⟨v47, e48, h⟩ := bindE h
      refine q_sald C hsc e48 dL_law_331 ?_
      refine q_aload_n 3 C dL_law_332 rfl ?_
      obtain ⟨v51, M50, e49, h⟩ := bd2E h
      refine q_callSH (v := some (.int v51)) [.ref l1, .int v47, .ref l3] C hRO lkh_RL_150 sk_L_town rfl rfl (Nat.le_of_ble_eq_true rfl) (by decide) (by decide) dL_law_333 (k_L_town X.1.2.1 hl X.2.2.1 l1 v47 l3 M _ e49) ?_
      refine q_istore (i := 5) (lv' := [(5, .int v51), (0, .retAddr 27), (1, .ref l1), (2, .ref l2), (3, .ref l3), (4, .int l4)]) C dL_law_336 (by decide) rfl ?_
      refine q_aload_n 3 C dL_law_338 rfl ?_
      refine q_sload_n 1 C dL_law_339 rfl ?_
      refine q_iload 5 C dL_law_340 rfl ?_
      refine q_iconst (v := (1 : Int32)) C dL_law_342 (by decide) ?_
      refine q_iadd C dL_law_343 ?_
      obtain ⟨v52, e53, h⟩ := bindE h
      refine q_sald C hsc e53 dL_law_344 ?_
      obtain ⟨e54, h⟩ := ckOE h
      obtain ⟨v57, M56, e55, h⟩ := bd2E h
      refine q_callV (v := some (.int v57)) [.int v52] C hRO lk_RL_155 vk_X9_town e54 rfl rfl rfl (Nat.le_of_ble_eq_true rfl) (by decide) (by decide) dL_law_345 (k_X9_town X.1.2.1 hl X.2.2.1 l2 v52 M50 _ e55) ?_
      refine q_istore (i := 6) (lv' := [(6, .int v57), (5, .int v51), (0, .retAddr 27), (1, .ref l1), (2, .ref l2), (3, .ref l3), (4, .int l4)]) C dL_law_348 (by decide) rfl ?_
      refine q_aload_n 4 C dL_law_350 rfl ?_
      obtain ⟨e58, h⟩ := ckOE h
      obtain ⟨v60, e59, h⟩ := bindE h
      refine q_callV (v := some (.int v60)) [] C hRO lk_RL_156 vk_X9_thrown e58 rfl rfl rfl (Nat.le_of_ble_eq_true rfl) (by decide) (by decide) dL_law_351 (k_X9_thrown X.1.2.1 hl X.2.2.1 l2 M56 _ e59) ?_
      refine q_iload 1 C dL_law_354 rfl ?_
      refine q_icmp_eq (tgt := 361) C dL_law_356 (by decide) (fun c61 => ?_) (fun c61 => ?_)
      · have h := ifT c61 h
        refine q_iload 1 C dL_law_361 rfl ?_
        refine q_if_ne (tgt := 378) C dL_law_363 (by decide) (fun c62 => ?_) (fun c62 => ?_)
        · have h := ifF c62 h
          refine q_goto (tgt := 3015) C dL_law_378 (by decide) ?_
          refine q_iinc 6 (v := (l4 + (6 : Int32))) (lv' := [(4, .int (l4 + (6 : Int32))), (6, .int v57), (5, .int v51), (0, .retAddr 27), (1, .ref l1), (2, .ref l2), (3, .ref l3)]) C dL_law_3015 rfl rfl (by decide) rfl ?_
          refine q_goto (tgt := 23) C dL_law_3018 (by decide) ?_
          exact q_sub (lv' := [(0, .retAddr 27), (1, .ref l1), (2, .ref l2), (3, .ref l3), (4, .int (l4 + (6 : Int32)))]) [3, 4, 5, 6, 0] rfl (kc ((l4 + (6 : Int32)), M56) (someI h))
        · have h := ifT c62 h
          refine q_aload_n 5 C dL_law_366 rfl ?_
          refine q_iconst (v := (0 : Int32)) C dL_law_367 (by decide) ?_
          obtain ⟨v63, e64, h⟩ := bindE h
          refine q_laload C e64 dL_law_368 ?_
          refine q_iload 0 C dL_law_369 rfl ?_
          refine q_i2l C dL_law_371 ?_
          refine q_lcmp C dL_law_372 ?_
          refine q_if_eq (tgt := 378) C dL_law_373 (by decide) (fun c65 => ?_) (fun c65 => ?_)
          · have h := ifT c65 h
            refine q_goto (tgt := 3015) C dL_law_378 (by decide) ?_
            refine q_iinc 6 (v := (l4 + (6 : Int32))) (lv' := [(4, .int (l4 + (6 : Int32))), (6, .int v57), (5, .int v51), (0, .retAddr 27), (1, .ref l1), (2, .ref l2), (3, .ref l3)]) C dL_law_3015 rfl rfl (by decide) rfl ?_
            refine q_goto (tgt := 23) C dL_law_3018 (by decide) ?_
            exact q_sub (lv' := [(0, .retAddr 27), (1, .ref l1), (2, .ref l2), (3, .ref l3), (4, .int (l4 + (6 : Int32)))]) [3, 4, 5, 6, 0] rfl (kc ((l4 + (6 : Int32)), M56) (someI h))
          · have h := ifF c65 h
            refine q_iconst (v := (0 : Int32)) C dL_law_376 (by decide) ?_
            exact q_lawret C (kf _ (someI h)) dL_law_377
      · have h := ifF c61 h
        refine q_iconst (v := (0 : Int32)) C dL_law_359 (by decide) ?_
        exact q_lawret C (kf _ (someI h)) dL_law_360
    have h := ifF c46 h
    by_cases c66 : (v14 &&& (63 : Int32)) = (2 : Int32)
    · have h := ifT c66 h
      refine q_tableIn (off := 341) (tgt := 381) C dL_law_40 (by rw [c66]; decide) (by rw [c66]; decide) (by rw [c66]; rfl) (by decide) ?_
      refine q_aload_n 1 C dL_law_381 rfl ?_
      obtain ⟨e67, h⟩ := ckOE h
      obtain ⟨v69, e68, h⟩ := bindE h
      refine q_callV (v := some (.int v69)) [] C hRO lk_RL_160 vk_X8_fault e67 rfl rfl rfl (Nat.le_of_ble_eq_true rfl) (by decide) (by decide) dL_law_382 (k_X8_fault X.1.2.1 hl X.2.2.1 l1 M _ e68) ?_
      refine q_aload_n 2 C dL_law_385 rfl ?_
      obtain ⟨e70, h⟩ := ckOE h
      obtain ⟨v73, M72, e71, h⟩ := bd2E h
      refine q_callV (v := some (.int v73)) [] C hRO lk_RL_163 vk_X9_fault e70 rfl rfl rfl (Nat.le_of_ble_eq_true rfl) (by decide) (by decide) dL_law_386 (k_X9_fault X.1.2.1 hl X.2.2.1 l2 M _ e71) ?_
      refine q_icmp_eq (tgt := 3015) C dL_law_389 (by decide) (fun c74 => ?_) (fun c74 => ?_)
      · have h := ifT c74 h
        refine q_iinc 4 (v := (l4 + (6 : Int32))) (lv' := [(4, .int (l4 + (6 : Int32))), (0, .retAddr 27), (1, .ref l1), (2, .ref l2), (3, .ref l3)]) C dL_law_3015 rfl rfl (by decide) rfl ?_
        refine q_goto (tgt := 23) C dL_law_3018 (by decide) ?_
        exact q_sub (lv' := [(0, .retAddr 27), (1, .ref l1), (2, .ref l2), (3, .ref l3), (4, .int (l4 + (6 : Int32)))]) [1, 2, 3, 4, 0] rfl (kc ((l4 + (6 : Int32)), M72) (someI h))
      · have h := ifF c74 h
        refine q_iconst (v := (0 : Int32)) C dL_law_392 (by decide) ?_
        exact q_lawret C (kf _ (someI h)) dL_law_393
    have h := ifF c66 h
    by_cases c75 : (v14 &&& (63 : Int32)) = (3 : Int32)
    · have h := ifT c75 h
      refine q_tableIn (off := 354) (tgt := 394) C dL_law_40 (by rw [c75]; decide) (by rw [c75]; decide) (by rw [c75]; rfl) (by decide) ?_
      refine q_aload_n 1 C dL_law_394 rfl ?_
      refine q_sload_n 0 C dL_law_395 rfl ?_
      refine q_iload 4 C dL_law_396 rfl ?_
      refine q_iconst (v := (1 : Int32)) C dL_law_398 (by decide) ?_
      refine q_iadd C dL_law_399 ?_
      obtain ⟨v76, e77, h⟩ := bindE h
      refine q_sald C hsc e77 dL_law_400 ?_
      refine q_aload_n 3 C dL_law_401 rfl ?_
      obtain ⟨v80, M79, e78, h⟩ := bd2E h
      refine q_callSH (v := some (.int v80)) [.ref l1, .int v76, .ref l3] C hRO lkh_RL_164 sk_L_count rfl rfl (Nat.le_of_ble_eq_true rfl) (by decide) (by decide) dL_law_402 (k_L_count X.1.2.1 hl X.2.2.1 l1 v76 l3 M _ e78) ?_
      refine q_istore (i := 5) (lv' := [(5, .int v80), (0, .retAddr 27), (1, .ref l1), (2, .ref l2), (3, .ref l3), (4, .int l4)]) C dL_law_405 (by decide) rfl ?_
      refine q_aload_n 3 C dL_law_407 rfl ?_
      refine q_sload_n 1 C dL_law_408 rfl ?_
      refine q_iload 5 C dL_law_409 rfl ?_
      refine q_iconst (v := (1 : Int32)) C dL_law_411 (by decide) ?_
      refine q_iadd C dL_law_412 ?_
      obtain ⟨v81, e82, h⟩ := bindE h
      refine q_sald C hsc e82 dL_law_413 ?_
      obtain ⟨e83, h⟩ := ckOE h
      obtain ⟨v86, M85, e84, h⟩ := bd2E h
      refine q_callV (v := some (.int v86)) [.int v81] C hRO lk_RL_166 vk_X9_count e83 rfl rfl rfl (Nat.le_of_ble_eq_true rfl) (by decide) (by decide) dL_law_414 (k_X9_count X.1.2.1 hl X.2.2.1 l2 v81 M79 _ e84) ?_
      refine q_istore (i := 6) (lv' := [(6, .int v86), (5, .int v80), (0, .retAddr 27), (1, .ref l1), (2, .ref l2), (3, .ref l3), (4, .int l4)]) C dL_law_417 (by decide) rfl ?_
      refine q_aload_n 4 C dL_law_419 rfl ?_
      obtain ⟨e87, h⟩ := ckOE h
      obtain ⟨v89, e88, h⟩ := bindE h
      refine q_callV (v := some (.int v89)) [] C hRO lk_RL_156 vk_X9_thrown e87 rfl rfl rfl (Nat.le_of_ble_eq_true rfl) (by decide) (by decide) dL_law_420 (k_X9_thrown X.1.2.1 hl X.2.2.1 l2 M85 _ e88) ?_
      refine q_iload 1 C dL_law_423 rfl ?_
      refine q_icmp_eq (tgt := 430) C dL_law_425 (by decide) (fun c90 => ?_) (fun c90 => ?_)
      · have h := ifT c90 h
        refine q_iload 1 C dL_law_430 rfl ?_
        refine q_if_ne (tgt := 447) C dL_law_432 (by decide) (fun c91 => ?_) (fun c91 => ?_)
        · have h := ifF c91 h
          refine q_goto (tgt := 3015) C dL_law_447 (by decide) ?_
          refine q_iinc 6 (v := (l4 + (6 : Int32))) (lv' := [(4, .int (l4 + (6 : Int32))), (6, .int v86), (5, .int v80), (0, .retAddr 27), (1, .ref l1), (2, .ref l2), (3, .ref l3)]) C dL_law_3015 rfl rfl (by decide) rfl ?_
          refine q_goto (tgt := 23) C dL_law_3018 (by decide) ?_
          exact q_sub (lv' := [(0, .retAddr 27), (1, .ref l1), (2, .ref l2), (3, .ref l3), (4, .int (l4 + (6 : Int32)))]) [3, 4, 5, 6, 0] rfl (kc ((l4 + (6 : Int32)), M85) (someI h))
        · have h := ifT c91 h
          refine q_aload_n 5 C dL_law_435 rfl ?_
          refine q_iconst (v := (0 : Int32)) C dL_law_436 (by decide) ?_
          obtain ⟨v92, e93, h⟩ := bindE h
          refine q_laload C e93 dL_law_437 ?_
          refine q_iload 0 C dL_law_438 rfl ?_
          refine q_i2l C dL_law_440 ?_
          refine q_lcmp C dL_law_441 ?_
          refine q_if_eq (tgt := 447) C dL_law_442 (by decide) (fun c94 => ?_) (fun c94 => ?_)
          · have h := ifT c94 h
            refine q_goto (tgt := 3015) C dL_law_447 (by decide) ?_
            refine q_iinc 6 (v := (l4 + (6 : Int32))) (lv' := [(4, .int (l4 + (6 : Int32))), (6, .int v86), (5, .int v80), (0, .retAddr 27), (1, .ref l1), (2, .ref l2), (3, .ref l3)]) C dL_law_3015 rfl rfl (by decide) rfl ?_
            refine q_goto (tgt := 23) C dL_law_3018 (by decide) ?_
            exact q_sub (lv' := [(0, .retAddr 27), (1, .ref l1), (2, .ref l2), (3, .ref l3), (4, .int (l4 + (6 : Int32)))]) [3, 4, 5, 6, 0] rfl (kc ((l4 + (6 : Int32)), M85) (someI h))
          · have h := ifF c94 h
            refine q_iconst (v := (0 : Int32)) C dL_law_445 (by decide) ?_
            exact q_lawret C (kf _ (someI h)) dL_law_446
      · have h := ifF c90 h
        refine q_iconst (v := (0 : Int32)) C dL_law_428 (by decide) ?_
        exact q_lawret C (kf _ (someI h)) dL_law_429
    have h := ifF c75 h
    by_cases c95 : (v14 &&& (63 : Int32)) = (4 : Int32)
    · have h := ifT c95 h
      refine q_tableIn (off := 410) (tgt := 450) C dL_law_40 (by rw [c95]; decide) (by rw [c95]; decide) (by rw [c95]; rfl) (by decide) ?_
      refine q_aload_n 1 C dL_law_450 rfl ?_
      refine q_sload_n 0 C dL_law_451 rfl ?_
      refine q_iload 4 C dL_law_452 rfl ?_
      refine q_iconst (v := (1 : Int32)) C dL_law_454 (by decide) ?_
      refine q_iadd C dL_law_455 ?_
      obtain ⟨v96, e97, h⟩ := bindE h
      refine q_sald C hsc e97 dL_law_456 ?_
      refine q_sload_n 0 C dL_law_457 rfl ?_
      refine q_iload 4 C dL_law_458 rfl ?_
      refine q_iconst (v := (2 : Int32)) C dL_law_460 (by decide) ?_
      refine q_iadd C dL_law_461 ?_
      obtain ⟨v98, e99, h⟩ := bindE h
      refine q_sald C hsc e99 dL_law_462 ?_
      refine q_aload_n 3 C dL_law_463 rfl ?_
      obtain ⟨v102, M101, e100, h⟩ := bd2E h
      refine q_callSH (v := some (.int v102)) [.ref l1, .int v96, .int v98, .ref l3] C hRO lkh_RL_167 sk_L_house rfl rfl (Nat.le_of_ble_eq_true rfl) (by decide) (by decide) dL_law_464 (k_L_house X.1.2.1 hl X.2.2.1 l1 v96 v98 l3 M _ e100) ?_
      refine q_istore (i := 5) (lv' := [(5, .int v102), (0, .retAddr 27), (1, .ref l1), (2, .ref l2), (3, .ref l3), (4, .int l4)]) C dL_law_467 (by decide) rfl ?_
      refine q_aload_n 3 C dL_law_469 rfl ?_
      refine q_sload_n 1 C dL_law_470 rfl ?_
      refine q_iload 5 C dL_law_471 rfl ?_
      refine q_iconst (v := (1 : Int32)) C dL_law_473 (by decide) ?_
      refine q_iadd C dL_law_474 ?_
      obtain ⟨v103, e104, h⟩ := bindE h
      refine q_sald C hsc e104 dL_law_475 ?_
      refine q_sload_n 1 C dL_law_476 rfl ?_
      refine q_iload 5 C dL_law_477 rfl ?_
      refine q_iconst (v := (2 : Int32)) C dL_law_479 (by decide) ?_
      refine q_iadd C dL_law_480 ?_
      obtain ⟨v105, e106, h⟩ := bindE h
      refine q_sald C hsc e106 dL_law_481 ?_
      obtain ⟨e107, h⟩ := ckOE h
      obtain ⟨v110, M109, e108, h⟩ := bd2E h
      refine q_callV (v := some (.int v110)) [.int v103, .int v105] C hRO lk_RL_170 vk_X9_house e107 rfl rfl rfl (Nat.le_of_ble_eq_true rfl) (by decide) (by decide) dL_law_482 (k_X9_house X.1.2.1 hl X.2.2.1 l2 v103 v105 M101 _ e108) ?_
      refine q_istore (i := 6) (lv' := [(6, .int v110), (5, .int v102), (0, .retAddr 27), (1, .ref l1), (2, .ref l2), (3, .ref l3), (4, .int l4)]) C dL_law_485 (by decide) rfl ?_
      refine q_aload_n 4 C dL_law_487 rfl ?_
      obtain ⟨e111, h⟩ := ckOE h
      obtain ⟨v113, e112, h⟩ := bindE h
      refine q_callV (v := some (.int v113)) [] C hRO lk_RL_156 vk_X9_thrown e111 rfl rfl rfl (Nat.le_of_ble_eq_true rfl) (by decide) (by decide) dL_law_488 (k_X9_thrown X.1.2.1 hl X.2.2.1 l2 M109 _ e112) ?_
      refine q_iload 1 C dL_law_491 rfl ?_
      refine q_icmp_eq (tgt := 498) C dL_law_493 (by decide) (fun c114 => ?_) (fun c114 => ?_)
      · have h := ifT c114 h
        refine q_iload 1 C dL_law_498 rfl ?_
        refine q_if_ne (tgt := 515) C dL_law_500 (by decide) (fun c115 => ?_) (fun c115 => ?_)
        · have h := ifF c115 h
          refine q_goto (tgt := 3015) C dL_law_515 (by decide) ?_
          refine q_iinc 6 (v := (l4 + (6 : Int32))) (lv' := [(4, .int (l4 + (6 : Int32))), (6, .int v110), (5, .int v102), (0, .retAddr 27), (1, .ref l1), (2, .ref l2), (3, .ref l3)]) C dL_law_3015 rfl rfl (by decide) rfl ?_
          refine q_goto (tgt := 23) C dL_law_3018 (by decide) ?_
          exact q_sub (lv' := [(0, .retAddr 27), (1, .ref l1), (2, .ref l2), (3, .ref l3), (4, .int (l4 + (6 : Int32)))]) [3, 4, 5, 6, 0] rfl (kc ((l4 + (6 : Int32)), M109) (someI h))
        · have h := ifT c115 h
          refine q_aload_n 5 C dL_law_503 rfl ?_
          refine q_iconst (v := (0 : Int32)) C dL_law_504 (by decide) ?_
          obtain ⟨v116, e117, h⟩ := bindE h
          refine q_laload C e117 dL_law_505 ?_
          refine q_iload 0 C dL_law_506 rfl ?_
          refine q_i2l C dL_law_508 ?_
          refine q_lcmp C dL_law_509 ?_
          refine q_if_eq (tgt := 515) C dL_law_510 (by decide) (fun c118 => ?_) (fun c118 => ?_)
          · have h := ifT c118 h
            refine q_goto (tgt := 3015) C dL_law_515 (by decide) ?_
            refine q_iinc 6 (v := (l4 + (6 : Int32))) (lv' := [(4, .int (l4 + (6 : Int32))), (6, .int v110), (5, .int v102), (0, .retAddr 27), (1, .ref l1), (2, .ref l2), (3, .ref l3)]) C dL_law_3015 rfl rfl (by decide) rfl ?_
            refine q_goto (tgt := 23) C dL_law_3018 (by decide) ?_
            exact q_sub (lv' := [(0, .retAddr 27), (1, .ref l1), (2, .ref l2), (3, .ref l3), (4, .int (l4 + (6 : Int32)))]) [3, 4, 5, 6, 0] rfl (kc ((l4 + (6 : Int32)), M109) (someI h))
          · have h := ifF c118 h
            refine q_iconst (v := (0 : Int32)) C dL_law_513 (by decide) ?_
            exact q_lawret C (kf _ (someI h)) dL_law_514
      · have h := ifF c114 h
        refine q_iconst (v := (0 : Int32)) C dL_law_496 (by decide) ?_
        exact q_lawret C (kf _ (someI h)) dL_law_497
    have h := ifF c95 h
    by_cases c119 : (v14 &&& (63 : Int32)) = (5 : Int32)
    · have h := ifT c119 h
      refine q_tableIn (off := 478) (tgt := 518) C dL_law_40 (by rw [c119]; decide) (by rw [c119]; decide) (by rw [c119]; rfl) (by decide) ?_
      refine q_aload_n 1 C dL_law_518 rfl ?_
      refine q_sload_n 0 C dL_law_519 rfl ?_
      refine q_iload 4 C dL_law_520 rfl ?_
      refine q_iconst (v := (1 : Int32)) C dL_law_522 (by decide) ?_
      refine q_iadd C dL_law_523 ?_
      obtain ⟨v120, e121, h⟩ := bindE h
      refine q_sald C hsc e121 dL_law_524 ?_
      refine q_sload_n 0 C dL_law_525 rfl ?_
      refine q_iload 4 C dL_law_526 rfl ?_
      refine q_iconst (v := (2 : Int32)) C dL_law_528 (by decide) ?_
      refine q_iadd C dL_law_529 ?_
      obtain ⟨v122, e123, h⟩ := bindE h
      refine q_sald C hsc e123 dL_law_530 ?_
      refine q_aload_n 3 C dL_law_531 rfl ?_
      obtain ⟨v126, M125, e124, h⟩ := bd2E h
      refine q_callSH (v := some (.int v126)) [.ref l1, .int v120, .int v122, .ref l3] C hRO lkh_RL_171 sk_L_person rfl rfl (Nat.le_of_ble_eq_true rfl) (by decide) (by decide) dL_law_532 (k_L_person X.1.2.1 hl X.2.2.1 l1 v120 v122 l3 M _ e124) ?_
      refine q_istore (i := 5) (lv' := [(5, .int v126), (0, .retAddr 27), (1, .ref l1), (2, .ref l2), (3, .ref l3), (4, .int l4)]) C dL_law_535 (by decide) rfl ?_
      refine q_aload_n 3 C dL_law_537 rfl ?_
      refine q_sload_n 1 C dL_law_538 rfl ?_
      refine q_iload 5 C dL_law_539 rfl ?_
      refine q_iconst (v := (1 : Int32)) C dL_law_541 (by decide) ?_
      refine q_iadd C dL_law_542 ?_
      obtain ⟨v127, e128, h⟩ := bindE h
      refine q_sald C hsc e128 dL_law_543 ?_
      refine q_sload_n 1 C dL_law_544 rfl ?_
      refine q_iload 5 C dL_law_545 rfl ?_
      refine q_iconst (v := (2 : Int32)) C dL_law_547 (by decide) ?_
      refine q_iadd C dL_law_548 ?_
      obtain ⟨v129, e130, h⟩ := bindE h
      refine q_sald C hsc e130 dL_law_549 ?_
      obtain ⟨e131, h⟩ := ckOE h
      obtain ⟨v134, M133, e132, h⟩ := bd2E h
      refine q_callV (v := some (.int v134)) [.int v127, .int v129] C hRO lk_RL_173 vk_X9_person e131 rfl rfl rfl (Nat.le_of_ble_eq_true rfl) (by decide) (by decide) dL_law_550 (k_X9_person X.1.2.1 hl X.2.2.1 l2 v127 v129 M125 _ e132) ?_
      refine q_istore (i := 6) (lv' := [(6, .int v134), (5, .int v126), (0, .retAddr 27), (1, .ref l1), (2, .ref l2), (3, .ref l3), (4, .int l4)]) C dL_law_553 (by decide) rfl ?_
      refine q_aload_n 4 C dL_law_555 rfl ?_
      obtain ⟨e135, h⟩ := ckOE h
      obtain ⟨v137, e136, h⟩ := bindE h
      refine q_callV (v := some (.int v137)) [] C hRO lk_RL_156 vk_X9_thrown e135 rfl rfl rfl (Nat.le_of_ble_eq_true rfl) (by decide) (by decide) dL_law_556 (k_X9_thrown X.1.2.1 hl X.2.2.1 l2 M133 _ e136) ?_
      refine q_iload 1 C dL_law_559 rfl ?_
      refine q_icmp_eq (tgt := 566) C dL_law_561 (by decide) (fun c138 => ?_) (fun c138 => ?_)
      · have h := ifT c138 h
        refine q_iload 1 C dL_law_566 rfl ?_
        refine q_if_ne (tgt := 583) C dL_law_568 (by decide) (fun c139 => ?_) (fun c139 => ?_)
        · have h := ifF c139 h
          refine q_goto (tgt := 3015) C dL_law_583 (by decide) ?_
          refine q_iinc 6 (v := (l4 + (6 : Int32))) (lv' := [(4, .int (l4 + (6 : Int32))), (6, .int v134), (5, .int v126), (0, .retAddr 27), (1, .ref l1), (2, .ref l2), (3, .ref l3)]) C dL_law_3015 rfl rfl (by decide) rfl ?_
          refine q_goto (tgt := 23) C dL_law_3018 (by decide) ?_
          exact q_sub (lv' := [(0, .retAddr 27), (1, .ref l1), (2, .ref l2), (3, .ref l3), (4, .int (l4 + (6 : Int32)))]) [3, 4, 5, 6, 0] rfl (kc ((l4 + (6 : Int32)), M133) (someI h))
        · have h := ifT c139 h
          refine q_aload_n 5 C dL_law_571 rfl ?_
          refine q_iconst (v := (0 : Int32)) C dL_law_572 (by decide) ?_
          obtain ⟨v140, e141, h⟩ := bindE h
          refine q_laload C e141 dL_law_573 ?_
          refine q_iload 0 C dL_law_574 rfl ?_
          refine q_i2l C dL_law_576 ?_
          refine q_lcmp C dL_law_577 ?_
          refine q_if_eq (tgt := 583) C dL_law_578 (by decide) (fun c142 => ?_) (fun c142 => ?_)
          · have h := ifT c142 h
            refine q_goto (tgt := 3015) C dL_law_583 (by decide) ?_
            refine q_iinc 6 (v := (l4 + (6 : Int32))) (lv' := [(4, .int (l4 + (6 : Int32))), (6, .int v134), (5, .int v126), (0, .retAddr 27), (1, .ref l1), (2, .ref l2), (3, .ref l3)]) C dL_law_3015 rfl rfl (by decide) rfl ?_
            refine q_goto (tgt := 23) C dL_law_3018 (by decide) ?_
            exact q_sub (lv' := [(0, .retAddr 27), (1, .ref l1), (2, .ref l2), (3, .ref l3), (4, .int (l4 + (6 : Int32)))]) [3, 4, 5, 6, 0] rfl (kc ((l4 + (6 : Int32)), M133) (someI h))
          · have h := ifF c142 h
            refine q_iconst (v := (0 : Int32)) C dL_law_581 (by decide) ?_
            exact q_lawret C (kf _ (someI h)) dL_law_582
      · have h := ifF c138 h
        refine q_iconst (v := (0 : Int32)) C dL_law_564 (by decide) ?_
        exact q_lawret C (kf _ (someI h)) dL_law_565
    have h := ifF c119 h
    by_cases c143 : (v14 &&& (63 : Int32)) = (6 : Int32)
    · have h := ifT c143 h
      refine q_tableIn (off := 546) (tgt := 586) C dL_law_40 (by rw [c143]; decide) (by rw [c143]; decide) (by rw [c143]; rfl) (by decide) ?_
      refine q_aload_n 1 C dL_law_586 rfl ?_
      refine q_sload_n 0 C dL_law_587 rfl ?_
      refine q_iload 4 C dL_law_588 rfl ?_
      refine q_iconst (v := (1 : Int32)) C dL_law_590 (by decide) ?_
      refine q_iadd C dL_law_591 ?_
      obtain ⟨v144, e145, h⟩ := bindE h
      refine q_sald C hsc e145 dL_law_592 ?_
      refine q_sload_n 0 C dL_law_593 rfl ?_
      refine q_iload 4 C dL_law_594 rfl ?_
      refine q_iconst (v := (2 : Int32)) C dL_law_596 (by decide) ?_
      refine q_iadd C dL_law_597 ?_
      obtain ⟨v146, e147, h⟩ := bindE h
      refine q_sald C hsc e147 dL_law_598 ?_
      refine q_aload_n 3 C dL_law_599 rfl ?_
      obtain ⟨v150, M149, e148, h⟩ := bd2E h
      refine q_callSH (v := some (.int v150)) [.ref l1, .int v144, .int v146, .ref l3] C hRO lkh_RL_174 sk_L_eases rfl rfl (Nat.le_of_ble_eq_true rfl) (by decide) (by decide) dL_law_600 (k_L_eases X.1.2.1 hl X.2.2.1 l1 v144 v146 l3 M _ e148) ?_
      refine q_istore (i := 5) (lv' := [(5, .int v150), (0, .retAddr 27), (1, .ref l1), (2, .ref l2), (3, .ref l3), (4, .int l4)]) C dL_law_603 (by decide) rfl ?_
      refine q_aload_n 3 C dL_law_605 rfl ?_
      refine q_sload_n 1 C dL_law_606 rfl ?_
      refine q_iload 5 C dL_law_607 rfl ?_
      refine q_iconst (v := (1 : Int32)) C dL_law_609 (by decide) ?_
      refine q_iadd C dL_law_610 ?_
      obtain ⟨v151, e152, h⟩ := bindE h
      refine q_sald C hsc e152 dL_law_611 ?_
      refine q_sload_n 1 C dL_law_612 rfl ?_
      refine q_iload 5 C dL_law_613 rfl ?_
      refine q_iconst (v := (2 : Int32)) C dL_law_615 (by decide) ?_
      refine q_iadd C dL_law_616 ?_
      obtain ⟨v153, e154, h⟩ := bindE h
      refine q_sald C hsc e154 dL_law_617 ?_
      obtain ⟨e155, h⟩ := ckOE h
      obtain ⟨v158, M157, e156, h⟩ := bd2E h
      refine q_callV (v := some (.int v158)) [.int v151, .int v153] C hRO lk_RL_176 vk_X9_eases e155 rfl rfl rfl (Nat.le_of_ble_eq_true rfl) (by decide) (by decide) dL_law_618 (k_X9_eases X.1.2.1 hl X.2.2.1 l2 v151 v153 M149 _ e156) ?_
      refine q_istore (i := 6) (lv' := [(6, .int v158), (5, .int v150), (0, .retAddr 27), (1, .ref l1), (2, .ref l2), (3, .ref l3), (4, .int l4)]) C dL_law_621 (by decide) rfl ?_
      refine q_aload_n 4 C dL_law_623 rfl ?_
      obtain ⟨e159, h⟩ := ckOE h
      obtain ⟨v161, e160, h⟩ := bindE h
      refine q_callV (v := some (.int v161)) [] C hRO lk_RL_156 vk_X9_thrown e159 rfl rfl rfl (Nat.le_of_ble_eq_true rfl) (by decide) (by decide) dL_law_624 (k_X9_thrown X.1.2.1 hl X.2.2.1 l2 M157 _ e160) ?_
      refine q_iload 1 C dL_law_627 rfl ?_
      refine q_icmp_eq (tgt := 634) C dL_law_629 (by decide) (fun c162 => ?_) (fun c162 => ?_)
      · have h := ifT c162 h
        refine q_iload 1 C dL_law_634 rfl ?_
        refine q_if_ne (tgt := 651) C dL_law_636 (by decide) (fun c163 => ?_) (fun c163 => ?_)
        · have h := ifF c163 h
          refine q_goto (tgt := 3015) C dL_law_651 (by decide) ?_
          refine q_iinc 6 (v := (l4 + (6 : Int32))) (lv' := [(4, .int (l4 + (6 : Int32))), (6, .int v158), (5, .int v150), (0, .retAddr 27), (1, .ref l1), (2, .ref l2), (3, .ref l3)]) C dL_law_3015 rfl rfl (by decide) rfl ?_
          refine q_goto (tgt := 23) C dL_law_3018 (by decide) ?_
          exact q_sub (lv' := [(0, .retAddr 27), (1, .ref l1), (2, .ref l2), (3, .ref l3), (4, .int (l4 + (6 : Int32)))]) [3, 4, 5, 6, 0] rfl (kc ((l4 + (6 : Int32)), M157) (someI h))
        · have h := ifT c163 h
          refine q_aload_n 5 C dL_law_639 rfl ?_
          refine q_iconst (v := (0 : Int32)) C dL_law_640 (by decide) ?_
          obtain ⟨v164, e165, h⟩ := bindE h
          refine q_laload C e165 dL_law_641 ?_
          refine q_iload 0 C dL_law_642 rfl ?_
          refine q_i2l C dL_law_644 ?_
          refine q_lcmp C dL_law_645 ?_
          refine q_if_eq (tgt := 651) C dL_law_646 (by decide) (fun c166 => ?_) (fun c166 => ?_)
          · have h := ifT c166 h
            refine q_goto (tgt := 3015) C dL_law_651 (by decide) ?_
            refine q_iinc 6 (v := (l4 + (6 : Int32))) (lv' := [(4, .int (l4 + (6 : Int32))), (6, .int v158), (5, .int v150), (0, .retAddr 27), (1, .ref l1), (2, .ref l2), (3, .ref l3)]) C dL_law_3015 rfl rfl (by decide) rfl ?_
            refine q_goto (tgt := 23) C dL_law_3018 (by decide) ?_
            exact q_sub (lv' := [(0, .retAddr 27), (1, .ref l1), (2, .ref l2), (3, .ref l3), (4, .int (l4 + (6 : Int32)))]) [3, 4, 5, 6, 0] rfl (kc ((l4 + (6 : Int32)), M157) (someI h))
          · have h := ifF c166 h
            refine q_iconst (v := (0 : Int32)) C dL_law_649 (by decide) ?_
            exact q_lawret C (kf _ (someI h)) dL_law_650
      · have h := ifF c162 h
        refine q_iconst (v := (0 : Int32)) C dL_law_632 (by decide) ?_
        exact q_lawret C (kf _ (someI h)) dL_law_633
    have h := ifF c143 h
    by_cases c167 : (v14 &&& (63 : Int32)) = (7 : Int32)
    · have h := ifT c167 h
      refine q_tableIn (off := 614) (tgt := 654) C dL_law_40 (by rw [c167]; decide) (by rw [c167]; decide) (by rw [c167]; rfl) (by decide) ?_
      refine q_aload_n 1 C dL_law_654 rfl ?_
      refine q_sload_n 0 C dL_law_655 rfl ?_
      refine q_iload 4 C dL_law_656 rfl ?_
      refine q_iconst (v := (1 : Int32)) C dL_law_658 (by decide) ?_
      refine q_iadd C dL_law_659 ?_
      obtain ⟨v168, e169, h⟩ := bindE h
      refine q_sald C hsc e169 dL_law_660 ?_
      obtain ⟨e170, h⟩ := ckOE h
      obtain ⟨v173, M172, e171, h⟩ := bd2E h
      refine q_callV (v := some (.int v173)) [.int v168] C hRO lk_RL_177 vk_X8_days e170 rfl rfl rfl (Nat.le_of_ble_eq_true rfl) (by decide) (by decide) dL_law_661 (k_X8_days X.1.2.1 hl X.2.2.1 l1 v168 M _ e171) ?_
      refine q_aload_n 2 C dL_law_664 rfl ?_
      refine q_sload_n 0 C dL_law_665 rfl ?_
      refine q_iload 4 C dL_law_666 rfl ?_
      refine q_iconst (v := (1 : Int32)) C dL_law_668 (by decide) ?_
      refine q_iadd C dL_law_669 ?_
      obtain ⟨v174, e175, h⟩ := bindE h
      refine q_sald C hsc e175 dL_law_670 ?_
      obtain ⟨e176, h⟩ := ckOE h
      obtain ⟨v179, M178, e177, h⟩ := bd2E h
      refine q_callV (v := some (.int v179)) [.int v174] C hRO lk_RL_180 vk_X9_days e176 rfl rfl rfl (Nat.le_of_ble_eq_true rfl) (by decide) (by decide) dL_law_671 (k_X9_days X.1.2.1 hl X.2.2.1 l2 v174 M172 _ e177) ?_
      refine q_icmp_eq (tgt := 3015) C dL_law_674 (by decide) (fun c180 => ?_) (fun c180 => ?_)
      · have h := ifT c180 h
        refine q_iinc 4 (v := (l4 + (6 : Int32))) (lv' := [(4, .int (l4 + (6 : Int32))), (0, .retAddr 27), (1, .ref l1), (2, .ref l2), (3, .ref l3)]) C dL_law_3015 rfl rfl (by decide) rfl ?_
        refine q_goto (tgt := 23) C dL_law_3018 (by decide) ?_
        exact q_sub (lv' := [(0, .retAddr 27), (1, .ref l1), (2, .ref l2), (3, .ref l3), (4, .int (l4 + (6 : Int32)))]) [1, 2, 3, 4, 0] rfl (kc ((l4 + (6 : Int32)), M178) (someI h))
      · have h := ifF c180 h
        refine q_iconst (v := (0 : Int32)) C dL_law_677 (by decide) ?_
        exact q_lawret C (kf _ (someI h)) dL_law_678
    have h := ifF c167 h
    by_cases c181 : (v14 &&& (63 : Int32)) = (8 : Int32)
    · have h := ifT c181 h
      refine q_tableIn (off := 639) (tgt := 679) C dL_law_40 (by rw [c181]; decide) (by rw [c181]; decide) (by rw [c181]; rfl) (by decide) ?_
      refine q_aload_n 1 C dL_law_679 rfl ?_
      refine q_sload_n 0 C dL_law_680 rfl ?_
      refine q_iload 4 C dL_law_681 rfl ?_
      refine q_iconst (v := (1 : Int32)) C dL_law_683 (by decide) ?_
      refine q_iadd C dL_law_684 ?_
      obtain ⟨v182, e183, h⟩ := bindE h
      refine q_sald C hsc e183 dL_law_685 ?_
      refine q_sload_n 0 C dL_law_686 rfl ?_
      refine q_iload 4 C dL_law_687 rfl ?_
      refine q_iconst (v := (2 : Int32)) C dL_law_689 (by decide) ?_
      refine q_iadd C dL_law_690 ?_
      obtain ⟨v184, e185, h⟩ := bindE h
      refine q_sald C hsc e185 dL_law_691 ?_
      refine q_aload_n 3 C dL_law_692 rfl ?_
      obtain ⟨v188, M187, e186, h⟩ := bd2E h
      refine q_callSH (v := some (.int v188)) [.ref l1, .int v182, .int v184, .ref l3] C hRO lkh_RL_181 sk_L_putIn rfl rfl (Nat.le_of_ble_eq_true rfl) (by decide) (by decide) dL_law_693 (k_L_putIn X.1.2.1 hl X.2.2.1 l1 v182 v184 l3 M _ e186) ?_
      refine q_istore (i := 5) (lv' := [(5, .int v188), (0, .retAddr 27), (1, .ref l1), (2, .ref l2), (3, .ref l3), (4, .int l4)]) C dL_law_696 (by decide) rfl ?_
      refine q_aload_n 3 C dL_law_698 rfl ?_
      refine q_sload_n 1 C dL_law_699 rfl ?_
      refine q_iload 5 C dL_law_700 rfl ?_
      refine q_iconst (v := (1 : Int32)) C dL_law_702 (by decide) ?_
      refine q_iadd C dL_law_703 ?_
      obtain ⟨v189, e190, h⟩ := bindE h
      refine q_sald C hsc e190 dL_law_704 ?_
      refine q_sload_n 1 C dL_law_705 rfl ?_
      refine q_iload 5 C dL_law_706 rfl ?_
      refine q_iconst (v := (2 : Int32)) C dL_law_708 (by decide) ?_
      refine q_iadd C dL_law_709 ?_
      obtain ⟨v191, e192, h⟩ := bindE h
      refine q_sald C hsc e192 dL_law_710 ?_
      obtain ⟨e193, h⟩ := ckOE h
      obtain ⟨v196, M195, e194, h⟩ := bd2E h
      refine q_callV (v := some (.int v196)) [.int v189, .int v191] C hRO lk_RL_183 vk_X9_putIn e193 rfl rfl rfl (Nat.le_of_ble_eq_true rfl) (by decide) (by decide) dL_law_711 (k_X9_putIn X.1.2.1 hl X.2.2.1 l2 v189 v191 M187 _ e194) ?_
      refine q_istore (i := 6) (lv' := [(6, .int v196), (5, .int v188), (0, .retAddr 27), (1, .ref l1), (2, .ref l2), (3, .ref l3), (4, .int l4)]) C dL_law_714 (by decide) rfl ?_
      refine q_aload_n 4 C dL_law_716 rfl ?_
      obtain ⟨e197, h⟩ := ckOE h
      obtain ⟨v199, e198, h⟩ := bindE h
      refine q_callV (v := some (.int v199)) [] C hRO lk_RL_156 vk_X9_thrown e197 rfl rfl rfl (Nat.le_of_ble_eq_true rfl) (by decide) (by decide) dL_law_717 (k_X9_thrown X.1.2.1 hl X.2.2.1 l2 M195 _ e198) ?_
      refine q_iload 1 C dL_law_720 rfl ?_
      refine q_icmp_eq (tgt := 727) C dL_law_722 (by decide) (fun c200 => ?_) (fun c200 => ?_)
      · have h := ifT c200 h
        refine q_iload 1 C dL_law_727 rfl ?_
        refine q_if_ne (tgt := 744) C dL_law_729 (by decide) (fun c201 => ?_) (fun c201 => ?_)
        · have h := ifF c201 h
          refine q_goto (tgt := 3015) C dL_law_744 (by decide) ?_
          refine q_iinc 6 (v := (l4 + (6 : Int32))) (lv' := [(4, .int (l4 + (6 : Int32))), (6, .int v196), (5, .int v188), (0, .retAddr 27), (1, .ref l1), (2, .ref l2), (3, .ref l3)]) C dL_law_3015 rfl rfl (by decide) rfl ?_
          refine q_goto (tgt := 23) C dL_law_3018 (by decide) ?_
          exact q_sub (lv' := [(0, .retAddr 27), (1, .ref l1), (2, .ref l2), (3, .ref l3), (4, .int (l4 + (6 : Int32)))]) [3, 4, 5, 6, 0] rfl (kc ((l4 + (6 : Int32)), M195) (someI h))
        · have h := ifT c201 h
          refine q_aload_n 5 C dL_law_732 rfl ?_
          refine q_iconst (v := (0 : Int32)) C dL_law_733 (by decide) ?_
          obtain ⟨v202, e203, h⟩ := bindE h
          refine q_laload C e203 dL_law_734 ?_
          refine q_iload 0 C dL_law_735 rfl ?_
          refine q_i2l C dL_law_737 ?_
          refine q_lcmp C dL_law_738 ?_
          refine q_if_eq (tgt := 744) C dL_law_739 (by decide) (fun c204 => ?_) (fun c204 => ?_)
          · have h := ifT c204 h
            refine q_goto (tgt := 3015) C dL_law_744 (by decide) ?_
            refine q_iinc 6 (v := (l4 + (6 : Int32))) (lv' := [(4, .int (l4 + (6 : Int32))), (6, .int v196), (5, .int v188), (0, .retAddr 27), (1, .ref l1), (2, .ref l2), (3, .ref l3)]) C dL_law_3015 rfl rfl (by decide) rfl ?_
            refine q_goto (tgt := 23) C dL_law_3018 (by decide) ?_
            exact q_sub (lv' := [(0, .retAddr 27), (1, .ref l1), (2, .ref l2), (3, .ref l3), (4, .int (l4 + (6 : Int32)))]) [3, 4, 5, 6, 0] rfl (kc ((l4 + (6 : Int32)), M195) (someI h))
          · have h := ifF c204 h
            refine q_iconst (v := (0 : Int32)) C dL_law_742 (by decide) ?_
            exact q_lawret C (kf _ (someI h)) dL_law_743
      · have h := ifF c200 h
        refine q_iconst (v := (0 : Int32)) C dL_law_725 (by decide) ?_
        exact q_lawret C (kf _ (someI h)) dL_law_726
    have h := ifF c181 h
    by_cases c205 : (v14 &&& (63 : Int32)) = (9 : Int32)
    · have h := ifT c205 h
      refine q_tableIn (off := 707) (tgt := 747) C dL_law_40 (by rw [c205]; decide) (by rw [c205]; decide) (by rw [c205]; rfl) (by decide) ?_
      refine q_aload_n 1 C dL_law_747 rfl ?_
      refine q_sload_n 0 C dL_law_748 rfl ?_
      refine q_iload 4 C dL_law_749 rfl ?_
      refine q_iconst (v := (1 : Int32)) C dL_law_751 (by decide) ?_
      refine q_iadd C dL_law_752 ?_
      obtain ⟨v206, e207, h⟩ := bindE h
      refine q_sald C hsc e207 dL_law_753 ?_
      refine q_aload_n 3 C dL_law_754 rfl ?_
      obtain ⟨v210, M209, e208, h⟩ := bd2E h
      refine q_callSH (v := some (.int v210)) [.ref l1, .int v206, .ref l3] C hRO lkh_RL_184 sk_L_out rfl rfl (Nat.le_of_ble_eq_true rfl) (by decide) (by decide) dL_law_755 (k_L_out X.1.2.1 hl X.2.2.1 l1 v206 l3 M _ e208) ?_
      refine q_istore (i := 5) (lv' := [(5, .int v210), (0, .retAddr 27), (1, .ref l1), (2, .ref l2), (3, .ref l3), (4, .int l4)]) C dL_law_758 (by decide) rfl ?_
      refine q_aload_n 3 C dL_law_760 rfl ?_
      refine q_sload_n 1 C dL_law_761 rfl ?_
      refine q_iload 5 C dL_law_762 rfl ?_
      refine q_iconst (v := (1 : Int32)) C dL_law_764 (by decide) ?_
      refine q_iadd C dL_law_765 ?_
      obtain ⟨v211, e212, h⟩ := bindE h
      refine q_sald C hsc e212 dL_law_766 ?_
      obtain ⟨e213, h⟩ := ckOE h
      obtain ⟨v216, M215, e214, h⟩ := bd2E h
      refine q_callV (v := some (.int v216)) [.int v211] C hRO lk_RL_186 vk_X9_out e213 rfl rfl rfl (Nat.le_of_ble_eq_true rfl) (by decide) (by decide) dL_law_767 (k_X9_out X.1.2.1 hl X.2.2.1 l2 v211 M209 _ e214) ?_
      refine q_istore (i := 6) (lv' := [(6, .int v216), (5, .int v210), (0, .retAddr 27), (1, .ref l1), (2, .ref l2), (3, .ref l3), (4, .int l4)]) C dL_law_770 (by decide) rfl ?_
      refine q_aload_n 4 C dL_law_772 rfl ?_
      obtain ⟨e217, h⟩ := ckOE h
      obtain ⟨v219, e218, h⟩ := bindE h
      refine q_callV (v := some (.int v219)) [] C hRO lk_RL_156 vk_X9_thrown e217 rfl rfl rfl (Nat.le_of_ble_eq_true rfl) (by decide) (by decide) dL_law_773 (k_X9_thrown X.1.2.1 hl X.2.2.1 l2 M215 _ e218) ?_
      refine q_iload 1 C dL_law_776 rfl ?_
      refine q_icmp_eq (tgt := 783) C dL_law_778 (by decide) (fun c220 => ?_) (fun c220 => ?_)
      · have h := ifT c220 h
        refine q_iload 1 C dL_law_783 rfl ?_
        refine q_if_ne (tgt := 800) C dL_law_785 (by decide) (fun c221 => ?_) (fun c221 => ?_)
        · have h := ifF c221 h
          refine q_goto (tgt := 3015) C dL_law_800 (by decide) ?_
          refine q_iinc 6 (v := (l4 + (6 : Int32))) (lv' := [(4, .int (l4 + (6 : Int32))), (6, .int v216), (5, .int v210), (0, .retAddr 27), (1, .ref l1), (2, .ref l2), (3, .ref l3)]) C dL_law_3015 rfl rfl (by decide) rfl ?_
          refine q_goto (tgt := 23) C dL_law_3018 (by decide) ?_
          exact q_sub (lv' := [(0, .retAddr 27), (1, .ref l1), (2, .ref l2), (3, .ref l3), (4, .int (l4 + (6 : Int32)))]) [3, 4, 5, 6, 0] rfl (kc ((l4 + (6 : Int32)), M215) (someI h))
        · have h := ifT c221 h
          refine q_aload_n 5 C dL_law_788 rfl ?_
          refine q_iconst (v := (0 : Int32)) C dL_law_789 (by decide) ?_
          obtain ⟨v222, e223, h⟩ := bindE h
          refine q_laload C e223 dL_law_790 ?_
          refine q_iload 0 C dL_law_791 rfl ?_
          refine q_i2l C dL_law_793 ?_
          refine q_lcmp C dL_law_794 ?_
          refine q_if_eq (tgt := 800) C dL_law_795 (by decide) (fun c224 => ?_) (fun c224 => ?_)
          · have h := ifT c224 h
            refine q_goto (tgt := 3015) C dL_law_800 (by decide) ?_
            refine q_iinc 6 (v := (l4 + (6 : Int32))) (lv' := [(4, .int (l4 + (6 : Int32))), (6, .int v216), (5, .int v210), (0, .retAddr 27), (1, .ref l1), (2, .ref l2), (3, .ref l3)]) C dL_law_3015 rfl rfl (by decide) rfl ?_
            refine q_goto (tgt := 23) C dL_law_3018 (by decide) ?_
            exact q_sub (lv' := [(0, .retAddr 27), (1, .ref l1), (2, .ref l2), (3, .ref l3), (4, .int (l4 + (6 : Int32)))]) [3, 4, 5, 6, 0] rfl (kc ((l4 + (6 : Int32)), M215) (someI h))
          · have h := ifF c224 h
            refine q_iconst (v := (0 : Int32)) C dL_law_798 (by decide) ?_
            exact q_lawret C (kf _ (someI h)) dL_law_799
      · have h := ifF c220 h
        refine q_iconst (v := (0 : Int32)) C dL_law_781 (by decide) ?_
        exact q_lawret C (kf _ (someI h)) dL_law_782
    have h := ifF c205 h
    by_cases c225 : (v14 &&& (63 : Int32)) = (10 : Int32)
    · have h := ifT c225 h
      refine q_tableIn (off := 763) (tgt := 803) C dL_law_40 (by rw [c225]; decide) (by rw [c225]; decide) (by rw [c225]; rfl) (by decide) ?_
      refine q_aload_n 1 C dL_law_803 rfl ?_
      refine q_sload_n 0 C dL_law_804 rfl ?_
      refine q_iload 4 C dL_law_805 rfl ?_
      refine q_iconst (v := (1 : Int32)) C dL_law_807 (by decide) ?_
      refine q_iadd C dL_law_808 ?_
      obtain ⟨v226, e227, h⟩ := bindE h
      refine q_sald C hsc e227 dL_law_809 ?_
      refine q_sload_n 0 C dL_law_810 rfl ?_
      refine q_iload 4 C dL_law_811 rfl ?_
      refine q_iconst (v := (2 : Int32)) C dL_law_813 (by decide) ?_
      refine q_iadd C dL_law_814 ?_
      obtain ⟨v228, e229, h⟩ := bindE h
      refine q_sald C hsc e229 dL_law_815 ?_
      refine q_aload_n 3 C dL_law_816 rfl ?_
      obtain ⟨v232, M231, e230, h⟩ := bd2E h
      refine q_callSH (v := some (.int v232)) [.ref l1, .int v226, .int v228, .ref l3] C hRO lkh_RL_187 sk_L_stuff rfl rfl (Nat.le_of_ble_eq_true rfl) (by decide) (by decide) dL_law_817 (k_L_stuff X.1.2.1 hl X.2.2.1 l1 v226 v228 l3 M _ e230) ?_
      refine q_istore (i := 5) (lv' := [(5, .int v232), (0, .retAddr 27), (1, .ref l1), (2, .ref l2), (3, .ref l3), (4, .int l4)]) C dL_law_820 (by decide) rfl ?_
      refine q_aload_n 3 C dL_law_822 rfl ?_
      refine q_sload_n 1 C dL_law_823 rfl ?_
      refine q_iload 5 C dL_law_824 rfl ?_
      refine q_iconst (v := (1 : Int32)) C dL_law_826 (by decide) ?_
      refine q_iadd C dL_law_827 ?_
      obtain ⟨v233, e234, h⟩ := bindE h
      refine q_sald C hsc e234 dL_law_828 ?_
      refine q_sload_n 1 C dL_law_829 rfl ?_
      refine q_iload 5 C dL_law_830 rfl ?_
      refine q_iconst (v := (2 : Int32)) C dL_law_832 (by decide) ?_
      refine q_iadd C dL_law_833 ?_
      obtain ⟨v235, e236, h⟩ := bindE h
      refine q_sald C hsc e236 dL_law_834 ?_
      obtain ⟨e237, h⟩ := ckOE h
      obtain ⟨v240, M239, e238, h⟩ := bd2E h
      refine q_callV (v := some (.int v240)) [.int v233, .int v235] C hRO lk_RL_189 vk_X9_stuff e237 rfl rfl rfl (Nat.le_of_ble_eq_true rfl) (by decide) (by decide) dL_law_835 (k_X9_stuff X.1.2.1 hl X.2.2.1 l2 v233 v235 M231 _ e238) ?_
      refine q_istore (i := 6) (lv' := [(6, .int v240), (5, .int v232), (0, .retAddr 27), (1, .ref l1), (2, .ref l2), (3, .ref l3), (4, .int l4)]) C dL_law_838 (by decide) rfl ?_
      refine q_aload_n 4 C dL_law_840 rfl ?_
      obtain ⟨e241, h⟩ := ckOE h
      obtain ⟨v243, e242, h⟩ := bindE h
      refine q_callV (v := some (.int v243)) [] C hRO lk_RL_156 vk_X9_thrown e241 rfl rfl rfl (Nat.le_of_ble_eq_true rfl) (by decide) (by decide) dL_law_841 (k_X9_thrown X.1.2.1 hl X.2.2.1 l2 M239 _ e242) ?_
      refine q_iload 1 C dL_law_844 rfl ?_
      refine q_icmp_eq (tgt := 851) C dL_law_846 (by decide) (fun c244 => ?_) (fun c244 => ?_)
      · have h := ifT c244 h
        refine q_iload 1 C dL_law_851 rfl ?_
        refine q_if_ne (tgt := 868) C dL_law_853 (by decide) (fun c245 => ?_) (fun c245 => ?_)
        · have h := ifF c245 h
          refine q_goto (tgt := 3015) C dL_law_868 (by decide) ?_
          refine q_iinc 6 (v := (l4 + (6 : Int32))) (lv' := [(4, .int (l4 + (6 : Int32))), (6, .int v240), (5, .int v232), (0, .retAddr 27), (1, .ref l1), (2, .ref l2), (3, .ref l3)]) C dL_law_3015 rfl rfl (by decide) rfl ?_
          refine q_goto (tgt := 23) C dL_law_3018 (by decide) ?_
          exact q_sub (lv' := [(0, .retAddr 27), (1, .ref l1), (2, .ref l2), (3, .ref l3), (4, .int (l4 + (6 : Int32)))]) [3, 4, 5, 6, 0] rfl (kc ((l4 + (6 : Int32)), M239) (someI h))
        · have h := ifT c245 h
          refine q_aload_n 5 C dL_law_856 rfl ?_
          refine q_iconst (v := (0 : Int32)) C dL_law_857 (by decide) ?_
          obtain ⟨v246, e247, h⟩ := bindE h
          refine q_laload C e247 dL_law_858 ?_
          refine q_iload 0 C dL_law_859 rfl ?_
          refine q_i2l C dL_law_861 ?_
          refine q_lcmp C dL_law_862 ?_
          refine q_if_eq (tgt := 868) C dL_law_863 (by decide) (fun c248 => ?_) (fun c248 => ?_)
          · have h := ifT c248 h
            refine q_goto (tgt := 3015) C dL_law_868 (by decide) ?_
            refine q_iinc 6 (v := (l4 + (6 : Int32))) (lv' := [(4, .int (l4 + (6 : Int32))), (6, .int v240), (5, .int v232), (0, .retAddr 27), (1, .ref l1), (2, .ref l2), (3, .ref l3)]) C dL_law_3015 rfl rfl (by decide) rfl ?_
            refine q_goto (tgt := 23) C dL_law_3018 (by decide) ?_
            exact q_sub (lv' := [(0, .retAddr 27), (1, .ref l1), (2, .ref l2), (3, .ref l3), (4, .int (l4 + (6 : Int32)))]) [3, 4, 5, 6, 0] rfl (kc ((l4 + (6 : Int32)), M239) (someI h))
          · have h := ifF c248 h
            refine q_iconst (v := (0 : Int32)) C dL_law_866 (by decide) ?_
            exact q_lawret C (kf _ (someI h)) dL_law_867
      · have h := ifF c244 h
        refine q_iconst (v := (0 : Int32)) C dL_law_849 (by decide) ?_
        exact q_lawret C (kf _ (someI h)) dL_law_850
    have h := ifF c225 h
    by_cases c249 : (v14 &&& (63 : Int32)) = (11 : Int32)
    · have h := ifT c249 h
      refine q_tableIn (off := 831) (tgt := 871) C dL_law_40 (by rw [c249]; decide) (by rw [c249]; decide) (by rw [c249]; rfl) (by decide) ?_
      refine q_aload_n 1 C dL_law_871 rfl ?_
      refine q_sload_n 0 C dL_law_872 rfl ?_
      refine q_iload 4 C dL_law_873 rfl ?_
      refine q_iconst (v := (1 : Int32)) C dL_law_875 (by decide) ?_
      refine q_iadd C dL_law_876 ?_
      obtain ⟨v250, e251, h⟩ := bindE h
      refine q_sald C hsc e251 dL_law_877 ?_
      refine q_sload_n 0 C dL_law_878 rfl ?_
      refine q_iload 4 C dL_law_879 rfl ?_
      refine q_iconst (v := (2 : Int32)) C dL_law_881 (by decide) ?_
      refine q_iadd C dL_law_882 ?_
      obtain ⟨v252, e253, h⟩ := bindE h
      refine q_sald C hsc e253 dL_law_883 ?_
      refine q_aload_n 3 C dL_law_884 rfl ?_
      obtain ⟨v256, M255, e254, h⟩ := bd2E h
      refine q_callSH (v := some (.int v256)) [.ref l1, .int v250, .int v252, .ref l3] C hRO lkh_RL_190 sk_L_change rfl rfl (Nat.le_of_ble_eq_true rfl) (by decide) (by decide) dL_law_885 (k_L_change X.1.2.1 hl X.2.2.1 l1 v250 v252 l3 M _ e254) ?_
      refine q_istore (i := 5) (lv' := [(5, .int v256), (0, .retAddr 27), (1, .ref l1), (2, .ref l2), (3, .ref l3), (4, .int l4)]) C dL_law_888 (by decide) rfl ?_
      refine q_aload_n 3 C dL_law_890 rfl ?_
      refine q_sload_n 1 C dL_law_891 rfl ?_
      refine q_iload 5 C dL_law_892 rfl ?_
      refine q_iconst (v := (1 : Int32)) C dL_law_894 (by decide) ?_
      refine q_iadd C dL_law_895 ?_
      obtain ⟨v257, e258, h⟩ := bindE h
      refine q_sald C hsc e258 dL_law_896 ?_
      refine q_sload_n 1 C dL_law_897 rfl ?_
      refine q_iload 5 C dL_law_898 rfl ?_
      refine q_iconst (v := (2 : Int32)) C dL_law_900 (by decide) ?_
      refine q_iadd C dL_law_901 ?_
      obtain ⟨v259, e260, h⟩ := bindE h
      refine q_sald C hsc e260 dL_law_902 ?_
      obtain ⟨e261, h⟩ := ckOE h
      obtain ⟨v264, M263, e262, h⟩ := bd2E h
      refine q_callV (v := some (.int v264)) [.int v257, .int v259] C hRO lk_RL_192 vk_X9_change e261 rfl rfl rfl (Nat.le_of_ble_eq_true rfl) (by decide) (by decide) dL_law_903 (k_X9_change X.1.2.1 hl X.2.2.1 l2 v257 v259 M255 _ e262) ?_
      refine q_istore (i := 6) (lv' := [(6, .int v264), (5, .int v256), (0, .retAddr 27), (1, .ref l1), (2, .ref l2), (3, .ref l3), (4, .int l4)]) C dL_law_906 (by decide) rfl ?_
      refine q_aload_n 4 C dL_law_908 rfl ?_
      obtain ⟨e265, h⟩ := ckOE h
      obtain ⟨v267, e266, h⟩ := bindE h
      refine q_callV (v := some (.int v267)) [] C hRO lk_RL_156 vk_X9_thrown e265 rfl rfl rfl (Nat.le_of_ble_eq_true rfl) (by decide) (by decide) dL_law_909 (k_X9_thrown X.1.2.1 hl X.2.2.1 l2 M263 _ e266) ?_
      refine q_iload 1 C dL_law_912 rfl ?_
      refine q_icmp_eq (tgt := 919) C dL_law_914 (by decide) (fun c268 => ?_) (fun c268 => ?_)
      · have h := ifT c268 h
        refine q_iload 1 C dL_law_919 rfl ?_
        refine q_if_ne (tgt := 943) C dL_law_921 (by decide) (fun c269 => ?_) (fun c269 => ?_)
        · have h := ifF c269 h
          refine q_goto (tgt := 3015) C dL_law_943 (by decide) ?_
          refine q_iinc 6 (v := (l4 + (6 : Int32))) (lv' := [(4, .int (l4 + (6 : Int32))), (6, .int v264), (5, .int v256), (0, .retAddr 27), (1, .ref l1), (2, .ref l2), (3, .ref l3)]) C dL_law_3015 rfl rfl (by decide) rfl ?_
          refine q_goto (tgt := 23) C dL_law_3018 (by decide) ?_
          exact q_sub (lv' := [(0, .retAddr 27), (1, .ref l1), (2, .ref l2), (3, .ref l3), (4, .int (l4 + (6 : Int32)))]) [3, 4, 5, 6, 0] rfl (kc ((l4 + (6 : Int32)), M263) (someI h))
        · have h := ifT c269 h
          refine q_aload_n 5 C dL_law_924 rfl ?_
          refine q_iconst (v := (0 : Int32)) C dL_law_925 (by decide) ?_
          obtain ⟨v270, e271, h⟩ := bindE h
          refine q_laload C e271 dL_law_926 ?_
          refine q_iload 0 C dL_law_927 rfl ?_
          refine q_if_eq (tgt := 936) C dL_law_929 (by decide) (fun c272 => ?_) (fun c272 => ?_)
          · have h := ifT c272 h
            refine q_lconst (v := (0 : Int64)) C dL_law_936 (by decide) ?_
            exact q_sub (lv' := [(0, .retAddr 27), (1, .ref l1), (2, .ref l2), (3, .ref l3), (4, .int l4)]) [2, 3, 4, 5, 6] rfl (w_L_law_j937_23 C hRO hl hsc l1 l2 l3 l4 (0 : Int64) v270 M263 h kc kx kf)
          · have h := ifF c272 h
            refine q_lconst (v := (1 : Int64)) C dL_law_932 (by decide) ?_
            refine q_goto (tgt := 937) C dL_law_933 (by decide) ?_
            exact q_sub (lv' := [(0, .retAddr 27), (1, .ref l1), (2, .ref l2), (3, .ref l3), (4, .int l4)]) [2, 3, 4, 5, 6] rfl (w_L_law_j937_23 C hRO hl hsc l1 l2 l3 l4 (1 : Int64) v270 M263 h kc kx kf)
      · have h := ifF c268 h
        refine q_iconst (v := (0 : Int32)) C dL_law_917 (by decide) ?_
        exact q_lawret C (kf _ (someI h)) dL_law_918
    have h := ifF c249 h
    by_cases c274 : (v14 &&& (63 : Int32)) = (12 : Int32)
    · have h := ifT c274 h
      refine q_tableIn (off := 906) (tgt := 946) C dL_law_40 (by rw [c274]; decide) (by rw [c274]; decide) (by rw [c274]; rfl) (by decide) ?_
      refine q_aload_n 1 C dL_law_946 rfl ?_
      obtain ⟨e275, h⟩ := ckOE h
      obtain ⟨v278, M277, e276, h⟩ := bd2E h
      refine q_callV (v := some (.int v278)) [] C hRO lk_RL_193 vk_X8_letIn e275 rfl rfl rfl (Nat.le_of_ble_eq_true rfl) (by decide) (by decide) dL_law_947 (k_X8_letIn X.1.2.1 hl X.2.2.1 l1 M _ e276) ?_
      refine q_aload_n 2 C dL_law_950 rfl ?_
      obtain ⟨e279, h⟩ := ckOE h
      obtain ⟨v282, M281, e280, h⟩ := bd2E h
      refine q_callV (v := some (.int v282)) [] C hRO lk_RL_196 vk_X9_letIn e279 rfl rfl rfl (Nat.le_of_ble_eq_true rfl) (by decide) (by decide) dL_law_951 (k_X9_letIn X.1.2.1 hl X.2.2.1 l2 M277 _ e280) ?_
      refine q_icmp_eq (tgt := 3015) C dL_law_954 (by decide) (fun c283 => ?_) (fun c283 => ?_)
      · have h := ifT c283 h
        refine q_iinc 4 (v := (l4 + (6 : Int32))) (lv' := [(4, .int (l4 + (6 : Int32))), (0, .retAddr 27), (1, .ref l1), (2, .ref l2), (3, .ref l3)]) C dL_law_3015 rfl rfl (by decide) rfl ?_
        refine q_goto (tgt := 23) C dL_law_3018 (by decide) ?_
        exact q_sub (lv' := [(0, .retAddr 27), (1, .ref l1), (2, .ref l2), (3, .ref l3), (4, .int (l4 + (6 : Int32)))]) [1, 2, 3, 4, 0] rfl (kc ((l4 + (6 : Int32)), M281) (someI h))
      · have h := ifF c283 h
        refine q_iconst (v := (0 : Int32)) C dL_law_957 (by decide) ?_
        exact q_lawret C (kf _ (someI h)) dL_law_958
    have h := ifF c274 h
    by_cases c284 : (v14 &&& (63 : Int32)) = (13 : Int32)
    · have h := ifT c284 h
      refine q_tableIn (off := 919) (tgt := 959) C dL_law_40 (by rw [c284]; decide) (by rw [c284]; decide) (by rw [c284]; rfl) (by decide) ?_
      refine q_aload_n 1 C dL_law_959 rfl ?_
      obtain ⟨e285, h⟩ := ckOE h
      obtain ⟨v288, M287, e286, h⟩ := bd2E h
      refine q_callV (v := some (.int v288)) [] C hRO lk_RL_197 vk_X8_undo e285 rfl rfl rfl (Nat.le_of_ble_eq_true rfl) (by decide) (by decide) dL_law_960 (k_X8_undo X.1.2.1 hl X.2.2.1 l1 M _ e286) ?_
      refine q_aload_n 2 C dL_law_963 rfl ?_
      obtain ⟨e289, h⟩ := ckOE h
      obtain ⟨v292, M291, e290, h⟩ := bd2E h
      refine q_callV (v := some (.int v292)) [] C hRO lk_RL_200 vk_X9_undo e289 rfl rfl rfl (Nat.le_of_ble_eq_true rfl) (by decide) (by decide) dL_law_964 (k_X9_undo X.1.2.1 hl X.2.2.1 l2 M287 _ e290) ?_
      refine q_icmp_eq (tgt := 3015) C dL_law_967 (by decide) (fun c293 => ?_) (fun c293 => ?_)
      · have h := ifT c293 h
        refine q_iinc 4 (v := (l4 + (6 : Int32))) (lv' := [(4, .int (l4 + (6 : Int32))), (0, .retAddr 27), (1, .ref l1), (2, .ref l2), (3, .ref l3)]) C dL_law_3015 rfl rfl (by decide) rfl ?_
        refine q_goto (tgt := 23) C dL_law_3018 (by decide) ?_
        exact q_sub (lv' := [(0, .retAddr 27), (1, .ref l1), (2, .ref l2), (3, .ref l3), (4, .int (l4 + (6 : Int32)))]) [1, 2, 3, 4, 0] rfl (kc ((l4 + (6 : Int32)), M291) (someI h))
      · have h := ifF c293 h
        refine q_iconst (v := (0 : Int32)) C dL_law_970 (by decide) ?_
        exact q_lawret C (kf _ (someI h)) dL_law_971
    have h := ifF c284 h
    by_cases c294 : (v14 &&& (63 : Int32)) = (14 : Int32)
    · have h := ifT c294 h
      refine q_tableIn (off := 932) (tgt := 972) C dL_law_40 (by rw [c294]; decide) (by rw [c294]; decide) (by rw [c294]; rfl) (by decide) ?_
      refine q_aload_n 1 C dL_law_972 rfl ?_
      refine q_sload_n 0 C dL_law_973 rfl ?_
      refine q_iload 4 C dL_law_974 rfl ?_
      refine q_iconst (v := (1 : Int32)) C dL_law_976 (by decide) ?_
      refine q_iadd C dL_law_977 ?_
      obtain ⟨v295, e296, h⟩ := bindE h
      refine q_sald C hsc e296 dL_law_978 ?_
      refine q_sload_n 0 C dL_law_979 rfl ?_
      refine q_iload 4 C dL_law_980 rfl ?_
      refine q_iconst (v := (2 : Int32)) C dL_law_982 (by decide) ?_
      refine q_iadd C dL_law_983 ?_
      obtain ⟨v297, e298, h⟩ := bindE h
      refine q_sald C hsc e298 dL_law_984 ?_
      refine q_sload_n 0 C dL_law_985 rfl ?_
      refine q_iload 4 C dL_law_986 rfl ?_
      refine q_iconst (v := (3 : Int32)) C dL_law_988 (by decide) ?_
      refine q_iadd C dL_law_989 ?_
      obtain ⟨v299, e300, h⟩ := bindE h
      refine q_sald C hsc e300 dL_law_990 ?_
      refine q_aload_n 3 C dL_law_991 rfl ?_
      obtain ⟨v303, M302, e301, h⟩ := bd2E h
      refine q_callSH (v := some (.int v303)) [.ref l1, .int v295, .int v297, .int v299, .ref l3] C hRO lkh_RL_201 sk_L_then rfl rfl (Nat.le_of_ble_eq_true rfl) (by decide) (by decide) dL_law_992 (k_L_then X.1.2.1 hl X.2.2.1 l1 v295 v297 v299 l3 M _ e301) ?_
      refine q_istore (i := 5) (lv' := [(5, .int v303), (0, .retAddr 27), (1, .ref l1), (2, .ref l2), (3, .ref l3), (4, .int l4)]) C dL_law_995 (by decide) rfl ?_
      refine q_aload_n 3 C dL_law_997 rfl ?_
      refine q_sload_n 1 C dL_law_998 rfl ?_
      refine q_iload 5 C dL_law_999 rfl ?_
      refine q_iconst (v := (1 : Int32)) C dL_law_1001 (by decide) ?_
      refine q_iadd C dL_law_1002 ?_
      obtain ⟨v304, e305, h⟩ := bindE h
      refine q_sald C hsc e305 dL_law_1003 ?_
      refine q_sload_n 1 C dL_law_1004 rfl ?_
      refine q_iload 5 C dL_law_1005 rfl ?_
      refine q_iconst (v := (2 : Int32)) C dL_law_1007 (by decide) ?_
      refine q_iadd C dL_law_1008 ?_
      obtain ⟨v306, e307, h⟩ := bindE h
      refine q_sald C hsc e307 dL_law_1009 ?_
      refine q_sload_n 1 C dL_law_1010 rfl ?_
      refine q_iload 5 C dL_law_1011 rfl ?_
      refine q_iconst (v := (3 : Int32)) C dL_law_1013 (by decide) ?_
      refine q_iadd C dL_law_1014 ?_
      obtain ⟨v308, e309, h⟩ := bindE h
      refine q_sald C hsc e309 dL_law_1015 ?_
      obtain ⟨e310, h⟩ := ckOE h
      obtain ⟨v313, M312, e311, h⟩ := bd2E h
      refine q_callV (v := some (.int v313)) [.int v304, .int v306, .int v308] C hRO lk_RL_204 vk_X9_then e310 rfl rfl rfl (Nat.le_of_ble_eq_true rfl) (by decide) (by decide) dL_law_1016 (k_X9_then X.1.2.1 hl X.2.2.1 l2 v304 v306 v308 M302 _ e311) ?_
      refine q_istore (i := 6) (lv' := [(6, .int v313), (5, .int v303), (0, .retAddr 27), (1, .ref l1), (2, .ref l2), (3, .ref l3), (4, .int l4)]) C dL_law_1019 (by decide) rfl ?_
      refine q_aload_n 4 C dL_law_1021 rfl ?_
      obtain ⟨e314, h⟩ := ckOE h
      obtain ⟨v316, e315, h⟩ := bindE h
      refine q_callV (v := some (.int v316)) [] C hRO lk_RL_156 vk_X9_thrown e314 rfl rfl rfl (Nat.le_of_ble_eq_true rfl) (by decide) (by decide) dL_law_1022 (k_X9_thrown X.1.2.1 hl X.2.2.1 l2 M312 _ e315) ?_
      refine q_iload 1 C dL_law_1025 rfl ?_
      refine q_icmp_eq (tgt := 1032) C dL_law_1027 (by decide) (fun c317 => ?_) (fun c317 => ?_)
      · have h := ifT c317 h
        refine q_iload 1 C dL_law_1032 rfl ?_
        refine q_if_ne (tgt := 1049) C dL_law_1034 (by decide) (fun c318 => ?_) (fun c318 => ?_)
        · have h := ifF c318 h
          refine q_goto (tgt := 3015) C dL_law_1049 (by decide) ?_
          refine q_iinc 6 (v := (l4 + (6 : Int32))) (lv' := [(4, .int (l4 + (6 : Int32))), (6, .int v313), (5, .int v303), (0, .retAddr 27), (1, .ref l1), (2, .ref l2), (3, .ref l3)]) C dL_law_3015 rfl rfl (by decide) rfl ?_
          refine q_goto (tgt := 23) C dL_law_3018 (by decide) ?_
          exact q_sub (lv' := [(0, .retAddr 27), (1, .ref l1), (2, .ref l2), (3, .ref l3), (4, .int (l4 + (6 : Int32)))]) [3, 4, 5, 6, 0] rfl (kc ((l4 + (6 : Int32)), M312) (someI h))
        · have h := ifT c318 h
          refine q_aload_n 5 C dL_law_1037 rfl ?_
          refine q_iconst (v := (0 : Int32)) C dL_law_1038 (by decide) ?_
          obtain ⟨v319, e320, h⟩ := bindE h
          refine q_laload C e320 dL_law_1039 ?_
          refine q_iload 0 C dL_law_1040 rfl ?_
          refine q_i2l C dL_law_1042 ?_
          refine q_lcmp C dL_law_1043 ?_
          refine q_if_eq (tgt := 1049) C dL_law_1044 (by decide) (fun c321 => ?_) (fun c321 => ?_)
          · have h := ifT c321 h
            refine q_goto (tgt := 3015) C dL_law_1049 (by decide) ?_
            refine q_iinc 6 (v := (l4 + (6 : Int32))) (lv' := [(4, .int (l4 + (6 : Int32))), (6, .int v313), (5, .int v303), (0, .retAddr 27), (1, .ref l1), (2, .ref l2), (3, .ref l3)]) C dL_law_3015 rfl rfl (by decide) rfl ?_
            refine q_goto (tgt := 23) C dL_law_3018 (by decide) ?_
            exact q_sub (lv' := [(0, .retAddr 27), (1, .ref l1), (2, .ref l2), (3, .ref l3), (4, .int (l4 + (6 : Int32)))]) [3, 4, 5, 6, 0] rfl (kc ((l4 + (6 : Int32)), M312) (someI h))
          · have h := ifF c321 h
            refine q_iconst (v := (0 : Int32)) C dL_law_1047 (by decide) ?_
            exact q_lawret C (kf _ (someI h)) dL_law_1048
      · have h := ifF c317 h
        refine q_iconst (v := (0 : Int32)) C dL_law_1030 (by decide) ?_
        exact q_lawret C (kf _ (someI h)) dL_law_1031
    have h := ifF c294 h
    by_cases c322 : (v14 &&& (63 : Int32)) = (15 : Int32)
    · have h := ifT c322 h
      refine q_tableIn (off := 1012) (tgt := 1052) C dL_law_40 (by rw [c322]; decide) (by rw [c322]; decide) (by rw [c322]; rfl) (by decide) ?_
      refine q_aload_n 1 C dL_law_1052 rfl ?_
      refine q_sload_n 0 C dL_law_1053 rfl ?_
      refine q_iload 4 C dL_law_1054 rfl ?_
      refine q_iconst (v := (1 : Int32)) C dL_law_1056 (by decide) ?_
      refine q_iadd C dL_law_1057 ?_
      obtain ⟨v323, e324, h⟩ := bindE h
      refine q_sald C hsc e324 dL_law_1058 ?_
      refine q_sload_n 0 C dL_law_1059 rfl ?_
      refine q_iload 4 C dL_law_1060 rfl ?_
      refine q_iconst (v := (2 : Int32)) C dL_law_1062 (by decide) ?_
      refine q_iadd C dL_law_1063 ?_
      obtain ⟨v325, e326, h⟩ := bindE h
      refine q_sald C hsc e326 dL_law_1064 ?_
      refine q_aload_n 3 C dL_law_1065 rfl ?_
      obtain ⟨v329, M328, e327, h⟩ := bd2E h
      refine q_callSH (v := some (.int v329)) [.ref l1, .int v323, .int v325, .ref l3] C hRO lkh_RL_205 sk_L_worn rfl rfl (Nat.le_of_ble_eq_true rfl) (by decide) (by decide) dL_law_1066 (k_L_worn X.1.2.1 hl X.2.2.1 l1 v323 v325 l3 M _ e327) ?_
      refine q_istore (i := 5) (lv' := [(5, .int v329), (0, .retAddr 27), (1, .ref l1), (2, .ref l2), (3, .ref l3), (4, .int l4)]) C dL_law_1069 (by decide) rfl ?_
      refine q_aload_n 3 C dL_law_1071 rfl ?_
      refine q_sload_n 1 C dL_law_1072 rfl ?_
      refine q_iload 5 C dL_law_1073 rfl ?_
      refine q_iconst (v := (1 : Int32)) C dL_law_1075 (by decide) ?_
      refine q_iadd C dL_law_1076 ?_
      obtain ⟨v330, e331, h⟩ := bindE h
      refine q_sald C hsc e331 dL_law_1077 ?_
      refine q_sload_n 1 C dL_law_1078 rfl ?_
      refine q_iload 5 C dL_law_1079 rfl ?_
      refine q_iconst (v := (2 : Int32)) C dL_law_1081 (by decide) ?_
      refine q_iadd C dL_law_1082 ?_
      obtain ⟨v332, e333, h⟩ := bindE h
      refine q_sald C hsc e333 dL_law_1083 ?_
      obtain ⟨e334, h⟩ := ckOE h
      obtain ⟨v337, M336, e335, h⟩ := bd2E h
      refine q_callV (v := some (.int v337)) [.int v330, .int v332] C hRO lk_RL_207 vk_X9_worn e334 rfl rfl rfl (Nat.le_of_ble_eq_true rfl) (by decide) (by decide) dL_law_1084 (k_X9_worn X.1.2.1 hl X.2.2.1 l2 v330 v332 M328 _ e335) ?_
      refine q_istore (i := 6) (lv' := [(6, .int v337), (5, .int v329), (0, .retAddr 27), (1, .ref l1), (2, .ref l2), (3, .ref l3), (4, .int l4)]) C dL_law_1087 (by decide) rfl ?_
      refine q_aload_n 4 C dL_law_1089 rfl ?_
      obtain ⟨e338, h⟩ := ckOE h
      obtain ⟨v340, e339, h⟩ := bindE h
      refine q_callV (v := some (.int v340)) [] C hRO lk_RL_156 vk_X9_thrown e338 rfl rfl rfl (Nat.le_of_ble_eq_true rfl) (by decide) (by decide) dL_law_1090 (k_X9_thrown X.1.2.1 hl X.2.2.1 l2 M336 _ e339) ?_
      refine q_iload 1 C dL_law_1093 rfl ?_
      refine q_icmp_eq (tgt := 1100) C dL_law_1095 (by decide) (fun c341 => ?_) (fun c341 => ?_)
      · have h := ifT c341 h
        refine q_iload 1 C dL_law_1100 rfl ?_
        refine q_if_ne (tgt := 1117) C dL_law_1102 (by decide) (fun c342 => ?_) (fun c342 => ?_)
        · have h := ifF c342 h
          refine q_goto (tgt := 3015) C dL_law_1117 (by decide) ?_
          refine q_iinc 6 (v := (l4 + (6 : Int32))) (lv' := [(4, .int (l4 + (6 : Int32))), (6, .int v337), (5, .int v329), (0, .retAddr 27), (1, .ref l1), (2, .ref l2), (3, .ref l3)]) C dL_law_3015 rfl rfl (by decide) rfl ?_
          refine q_goto (tgt := 23) C dL_law_3018 (by decide) ?_
          exact q_sub (lv' := [(0, .retAddr 27), (1, .ref l1), (2, .ref l2), (3, .ref l3), (4, .int (l4 + (6 : Int32)))]) [3, 4, 5, 6, 0] rfl (kc ((l4 + (6 : Int32)), M336) (someI h))
        · have h := ifT c342 h
          refine q_aload_n 5 C dL_law_1105 rfl ?_
          refine q_iconst (v := (0 : Int32)) C dL_law_1106 (by decide) ?_
          obtain ⟨v343, e344, h⟩ := bindE h
          refine q_laload C e344 dL_law_1107 ?_
          refine q_iload 0 C dL_law_1108 rfl ?_
          refine q_i2l C dL_law_1110 ?_
          refine q_lcmp C dL_law_1111 ?_
          refine q_if_eq (tgt := 1117) C dL_law_1112 (by decide) (fun c345 => ?_) (fun c345 => ?_)
          · have h := ifT c345 h
            refine q_goto (tgt := 3015) C dL_law_1117 (by decide) ?_
            refine q_iinc 6 (v := (l4 + (6 : Int32))) (lv' := [(4, .int (l4 + (6 : Int32))), (6, .int v337), (5, .int v329), (0, .retAddr 27), (1, .ref l1), (2, .ref l2), (3, .ref l3)]) C dL_law_3015 rfl rfl (by decide) rfl ?_
            refine q_goto (tgt := 23) C dL_law_3018 (by decide) ?_
            exact q_sub (lv' := [(0, .retAddr 27), (1, .ref l1), (2, .ref l2), (3, .ref l3), (4, .int (l4 + (6 : Int32)))]) [3, 4, 5, 6, 0] rfl (kc ((l4 + (6 : Int32)), M336) (someI h))
          · have h := ifF c345 h
            refine q_iconst (v := (0 : Int32)) C dL_law_1115 (by decide) ?_
            exact q_lawret C (kf _ (someI h)) dL_law_1116
      · have h := ifF c341 h
        refine q_iconst (v := (0 : Int32)) C dL_law_1098 (by decide) ?_
        exact q_lawret C (kf _ (someI h)) dL_law_1099
    have h := ifF c322 h
    by_cases c346 : (v14 &&& (63 : Int32)) = (16 : Int32)
    · have h := ifT c346 h
      refine q_tableIn (off := 1080) (tgt := 1120) C dL_law_40 (by rw [c346]; decide) (by rw [c346]; decide) (by rw [c346]; rfl) (by decide) ?_
      refine q_aload_n 1 C dL_law_1120 rfl ?_
      refine q_sload_n 0 C dL_law_1121 rfl ?_
      refine q_iload 4 C dL_law_1122 rfl ?_
      refine q_iconst (v := (1 : Int32)) C dL_law_1124 (by decide) ?_
      refine q_iadd C dL_law_1125 ?_
      obtain ⟨v347, e348, h⟩ := bindE h
      refine q_sald C hsc e348 dL_law_1126 ?_
      refine q_aload_n 3 C dL_law_1127 rfl ?_
      obtain ⟨v351, M350, e349, h⟩ := bd2E h
      refine q_callSH (v := some (.int v351)) [.ref l1, .int v347, .ref l3] C hRO lkh_RL_208 sk_L_burst rfl rfl (Nat.le_of_ble_eq_true rfl) (by decide) (by decide) dL_law_1128 (k_L_burst X.1.2.1 hl X.2.2.1 l1 v347 l3 M _ e349) ?_
      refine q_istore (i := 5) (lv' := [(5, .int v351), (0, .retAddr 27), (1, .ref l1), (2, .ref l2), (3, .ref l3), (4, .int l4)]) C dL_law_1131 (by decide) rfl ?_
      refine q_aload_n 3 C dL_law_1133 rfl ?_
      refine q_sload_n 1 C dL_law_1134 rfl ?_
      refine q_iload 5 C dL_law_1135 rfl ?_
      refine q_iconst (v := (1 : Int32)) C dL_law_1137 (by decide) ?_
      refine q_iadd C dL_law_1138 ?_
      obtain ⟨v352, e353, h⟩ := bindE h
      refine q_sald C hsc e353 dL_law_1139 ?_
      obtain ⟨e354, h⟩ := ckOE h
      obtain ⟨v357, M356, e355, h⟩ := bd2E h
      refine q_callV (v := some (.int v357)) [.int v352] C hRO lk_RL_210 vk_X9_burst e354 rfl rfl rfl (Nat.le_of_ble_eq_true rfl) (by decide) (by decide) dL_law_1140 (k_X9_burst X.1.2.1 hl X.2.2.1 l2 v352 M350 _ e355) ?_
      refine q_istore (i := 6) (lv' := [(6, .int v357), (5, .int v351), (0, .retAddr 27), (1, .ref l1), (2, .ref l2), (3, .ref l3), (4, .int l4)]) C dL_law_1143 (by decide) rfl ?_
      refine q_aload_n 4 C dL_law_1145 rfl ?_
      obtain ⟨e358, h⟩ := ckOE h
      obtain ⟨v360, e359, h⟩ := bindE h
      refine q_callV (v := some (.int v360)) [] C hRO lk_RL_156 vk_X9_thrown e358 rfl rfl rfl (Nat.le_of_ble_eq_true rfl) (by decide) (by decide) dL_law_1146 (k_X9_thrown X.1.2.1 hl X.2.2.1 l2 M356 _ e359) ?_
      refine q_iload 1 C dL_law_1149 rfl ?_
      refine q_icmp_eq (tgt := 1156) C dL_law_1151 (by decide) (fun c361 => ?_) (fun c361 => ?_)
      · have h := ifT c361 h
        refine q_iload 1 C dL_law_1156 rfl ?_
        refine q_if_ne (tgt := 1173) C dL_law_1158 (by decide) (fun c362 => ?_) (fun c362 => ?_)
        · have h := ifF c362 h
          refine q_goto (tgt := 3015) C dL_law_1173 (by decide) ?_
          refine q_iinc 6 (v := (l4 + (6 : Int32))) (lv' := [(4, .int (l4 + (6 : Int32))), (6, .int v357), (5, .int v351), (0, .retAddr 27), (1, .ref l1), (2, .ref l2), (3, .ref l3)]) C dL_law_3015 rfl rfl (by decide) rfl ?_
          refine q_goto (tgt := 23) C dL_law_3018 (by decide) ?_
          exact q_sub (lv' := [(0, .retAddr 27), (1, .ref l1), (2, .ref l2), (3, .ref l3), (4, .int (l4 + (6 : Int32)))]) [3, 4, 5, 6, 0] rfl (kc ((l4 + (6 : Int32)), M356) (someI h))
        · have h := ifT c362 h
          refine q_aload_n 5 C dL_law_1161 rfl ?_
          refine q_iconst (v := (0 : Int32)) C dL_law_1162 (by decide) ?_
          obtain ⟨v363, e364, h⟩ := bindE h
          refine q_laload C e364 dL_law_1163 ?_
          refine q_iload 0 C dL_law_1164 rfl ?_
          refine q_i2l C dL_law_1166 ?_
          refine q_lcmp C dL_law_1167 ?_
          refine q_if_eq (tgt := 1173) C dL_law_1168 (by decide) (fun c365 => ?_) (fun c365 => ?_)
          · have h := ifT c365 h
            refine q_goto (tgt := 3015) C dL_law_1173 (by decide) ?_
            refine q_iinc 6 (v := (l4 + (6 : Int32))) (lv' := [(4, .int (l4 + (6 : Int32))), (6, .int v357), (5, .int v351), (0, .retAddr 27), (1, .ref l1), (2, .ref l2), (3, .ref l3)]) C dL_law_3015 rfl rfl (by decide) rfl ?_
            refine q_goto (tgt := 23) C dL_law_3018 (by decide) ?_
            exact q_sub (lv' := [(0, .retAddr 27), (1, .ref l1), (2, .ref l2), (3, .ref l3), (4, .int (l4 + (6 : Int32)))]) [3, 4, 5, 6, 0] rfl (kc ((l4 + (6 : Int32)), M356) (someI h))
          · have h := ifF c365 h
            refine q_iconst (v := (0 : Int32)) C dL_law_1171 (by decide) ?_
            exact q_lawret C (kf _ (someI h)) dL_law_1172
      · have h := ifF c361 h
        refine q_iconst (v := (0 : Int32)) C dL_law_1154 (by decide) ?_
        exact q_lawret C (kf _ (someI h)) dL_law_1155
    have h := ifF c346 h
    by_cases c366 : (v14 &&& (63 : Int32)) = (17 : Int32)
    · have h := ifT c366 h
      refine q_tableIn (off := 1136) (tgt := 1176) C dL_law_40 (by rw [c366]; decide) (by rw [c366]; decide) (by rw [c366]; rfl) (by decide) ?_
      refine q_aload_n 1 C dL_law_1176 rfl ?_
      refine q_sload_n 0 C dL_law_1177 rfl ?_
      refine q_iload 4 C dL_law_1178 rfl ?_
      refine q_iconst (v := (1 : Int32)) C dL_law_1180 (by decide) ?_
      refine q_iadd C dL_law_1181 ?_
      obtain ⟨v367, e368, h⟩ := bindE h
      refine q_sald C hsc e368 dL_law_1182 ?_
      refine q_aload_n 3 C dL_law_1183 rfl ?_
      obtain ⟨v371, M370, e369, h⟩ := bd2E h
      refine q_callSH (v := some (.int v371)) [.ref l1, .int v367, .ref l3] C hRO lkh_RL_211 sk_L_wriggles rfl rfl (Nat.le_of_ble_eq_true rfl) (by decide) (by decide) dL_law_1184 (k_L_wriggles X.1.2.1 hl X.2.2.1 l1 v367 l3 M _ e369) ?_
      refine q_istore (i := 5) (lv' := [(5, .int v371), (0, .retAddr 27), (1, .ref l1), (2, .ref l2), (3, .ref l3), (4, .int l4)]) C dL_law_1187 (by decide) rfl ?_
      refine q_aload_n 3 C dL_law_1189 rfl ?_
      refine q_sload_n 1 C dL_law_1190 rfl ?_
      refine q_iload 5 C dL_law_1191 rfl ?_
      refine q_iconst (v := (1 : Int32)) C dL_law_1193 (by decide) ?_
      refine q_iadd C dL_law_1194 ?_
      obtain ⟨v372, e373, h⟩ := bindE h
      refine q_sald C hsc e373 dL_law_1195 ?_
      obtain ⟨e374, h⟩ := ckOE h
      obtain ⟨v377, M376, e375, h⟩ := bd2E h
      refine q_callV (v := some (.int v377)) [.int v372] C hRO lk_RL_213 vk_X9_wriggles e374 rfl rfl rfl (Nat.le_of_ble_eq_true rfl) (by decide) (by decide) dL_law_1196 (k_X9_wriggles X.1.2.1 hl X.2.2.1 l2 v372 M370 _ e375) ?_
      refine q_istore (i := 6) (lv' := [(6, .int v377), (5, .int v371), (0, .retAddr 27), (1, .ref l1), (2, .ref l2), (3, .ref l3), (4, .int l4)]) C dL_law_1199 (by decide) rfl ?_
      refine q_aload_n 4 C dL_law_1201 rfl ?_
      obtain ⟨e378, h⟩ := ckOE h
      obtain ⟨v380, e379, h⟩ := bindE h
      refine q_callV (v := some (.int v380)) [] C hRO lk_RL_156 vk_X9_thrown e378 rfl rfl rfl (Nat.le_of_ble_eq_true rfl) (by decide) (by decide) dL_law_1202 (k_X9_thrown X.1.2.1 hl X.2.2.1 l2 M376 _ e379) ?_
      refine q_iload 1 C dL_law_1205 rfl ?_
      refine q_icmp_eq (tgt := 1212) C dL_law_1207 (by decide) (fun c381 => ?_) (fun c381 => ?_)
      · have h := ifT c381 h
        refine q_iload 1 C dL_law_1212 rfl ?_
        refine q_if_ne (tgt := 1229) C dL_law_1214 (by decide) (fun c382 => ?_) (fun c382 => ?_)
        · have h := ifF c382 h
          refine q_goto (tgt := 3015) C dL_law_1229 (by decide) ?_
          refine q_iinc 6 (v := (l4 + (6 : Int32))) (lv' := [(4, .int (l4 + (6 : Int32))), (6, .int v377), (5, .int v371), (0, .retAddr 27), (1, .ref l1), (2, .ref l2), (3, .ref l3)]) C dL_law_3015 rfl rfl (by decide) rfl ?_
          refine q_goto (tgt := 23) C dL_law_3018 (by decide) ?_
          exact q_sub (lv' := [(0, .retAddr 27), (1, .ref l1), (2, .ref l2), (3, .ref l3), (4, .int (l4 + (6 : Int32)))]) [3, 4, 5, 6, 0] rfl (kc ((l4 + (6 : Int32)), M376) (someI h))
        · have h := ifT c382 h
          refine q_aload_n 5 C dL_law_1217 rfl ?_
          refine q_iconst (v := (0 : Int32)) C dL_law_1218 (by decide) ?_
          obtain ⟨v383, e384, h⟩ := bindE h
          refine q_laload C e384 dL_law_1219 ?_
          refine q_iload 0 C dL_law_1220 rfl ?_
          refine q_i2l C dL_law_1222 ?_
          refine q_lcmp C dL_law_1223 ?_
          refine q_if_eq (tgt := 1229) C dL_law_1224 (by decide) (fun c385 => ?_) (fun c385 => ?_)
          · have h := ifT c385 h
            refine q_goto (tgt := 3015) C dL_law_1229 (by decide) ?_
            refine q_iinc 6 (v := (l4 + (6 : Int32))) (lv' := [(4, .int (l4 + (6 : Int32))), (6, .int v377), (5, .int v371), (0, .retAddr 27), (1, .ref l1), (2, .ref l2), (3, .ref l3)]) C dL_law_3015 rfl rfl (by decide) rfl ?_
            refine q_goto (tgt := 23) C dL_law_3018 (by decide) ?_
            exact q_sub (lv' := [(0, .retAddr 27), (1, .ref l1), (2, .ref l2), (3, .ref l3), (4, .int (l4 + (6 : Int32)))]) [3, 4, 5, 6, 0] rfl (kc ((l4 + (6 : Int32)), M376) (someI h))
          · have h := ifF c385 h
            refine q_iconst (v := (0 : Int32)) C dL_law_1227 (by decide) ?_
            exact q_lawret C (kf _ (someI h)) dL_law_1228
      · have h := ifF c381 h
        refine q_iconst (v := (0 : Int32)) C dL_law_1210 (by decide) ?_
        exact q_lawret C (kf _ (someI h)) dL_law_1211
    have h := ifF c366 h
    by_cases c386 : (v14 &&& (63 : Int32)) = (18 : Int32)
    · have h := ifT c386 h
      refine q_tableIn (off := 1192) (tgt := 1232) C dL_law_40 (by rw [c386]; decide) (by rw [c386]; decide) (by rw [c386]; rfl) (by decide) ?_
      refine q_aload_n 1 C dL_law_1232 rfl ?_
      refine q_sload_n 0 C dL_law_1233 rfl ?_
      refine q_iload 4 C dL_law_1234 rfl ?_
      refine q_iconst (v := (1 : Int32)) C dL_law_1236 (by decide) ?_
      refine q_iadd C dL_law_1237 ?_
      obtain ⟨v387, e388, h⟩ := bindE h
      refine q_sald C hsc e388 dL_law_1238 ?_
      refine q_aload_n 3 C dL_law_1239 rfl ?_
      obtain ⟨v391, M390, e389, h⟩ := bd2E h
      refine q_callSH (v := some (.int v391)) [.ref l1, .int v387, .ref l3] C hRO lkh_RL_214 sk_L_barefoot rfl rfl (Nat.le_of_ble_eq_true rfl) (by decide) (by decide) dL_law_1240 (k_L_barefoot X.1.2.1 hl X.2.2.1 l1 v387 l3 M _ e389) ?_
      refine q_istore (i := 5) (lv' := [(5, .int v391), (0, .retAddr 27), (1, .ref l1), (2, .ref l2), (3, .ref l3), (4, .int l4)]) C dL_law_1243 (by decide) rfl ?_
      refine q_aload_n 3 C dL_law_1245 rfl ?_
      refine q_sload_n 1 C dL_law_1246 rfl ?_
      refine q_iload 5 C dL_law_1247 rfl ?_
      refine q_iconst (v := (1 : Int32)) C dL_law_1249 (by decide) ?_
      refine q_iadd C dL_law_1250 ?_
      obtain ⟨v392, e393, h⟩ := bindE h
      refine q_sald C hsc e393 dL_law_1251 ?_
      obtain ⟨e394, h⟩ := ckOE h
      obtain ⟨v397, M396, e395, h⟩ := bd2E h
      refine q_callV (v := some (.int v397)) [.int v392] C hRO lk_RL_216 vk_X9_barefoot e394 rfl rfl rfl (Nat.le_of_ble_eq_true rfl) (by decide) (by decide) dL_law_1252 (k_X9_barefoot X.1.2.1 hl X.2.2.1 l2 v392 M390 _ e395) ?_
      refine q_istore (i := 6) (lv' := [(6, .int v397), (5, .int v391), (0, .retAddr 27), (1, .ref l1), (2, .ref l2), (3, .ref l3), (4, .int l4)]) C dL_law_1255 (by decide) rfl ?_
      refine q_aload_n 4 C dL_law_1257 rfl ?_
      obtain ⟨e398, h⟩ := ckOE h
      obtain ⟨v400, e399, h⟩ := bindE h
      refine q_callV (v := some (.int v400)) [] C hRO lk_RL_156 vk_X9_thrown e398 rfl rfl rfl (Nat.le_of_ble_eq_true rfl) (by decide) (by decide) dL_law_1258 (k_X9_thrown X.1.2.1 hl X.2.2.1 l2 M396 _ e399) ?_
      refine q_iload 1 C dL_law_1261 rfl ?_
      refine q_icmp_eq (tgt := 1268) C dL_law_1263 (by decide) (fun c401 => ?_) (fun c401 => ?_)
      · have h := ifT c401 h
        refine q_iload 1 C dL_law_1268 rfl ?_
        refine q_if_ne (tgt := 1285) C dL_law_1270 (by decide) (fun c402 => ?_) (fun c402 => ?_)
        · have h := ifF c402 h
          refine q_goto (tgt := 3015) C dL_law_1285 (by decide) ?_
          refine q_iinc 6 (v := (l4 + (6 : Int32))) (lv' := [(4, .int (l4 + (6 : Int32))), (6, .int v397), (5, .int v391), (0, .retAddr 27), (1, .ref l1), (2, .ref l2), (3, .ref l3)]) C dL_law_3015 rfl rfl (by decide) rfl ?_
          refine q_goto (tgt := 23) C dL_law_3018 (by decide) ?_
          exact q_sub (lv' := [(0, .retAddr 27), (1, .ref l1), (2, .ref l2), (3, .ref l3), (4, .int (l4 + (6 : Int32)))]) [3, 4, 5, 6, 0] rfl (kc ((l4 + (6 : Int32)), M396) (someI h))
        · have h := ifT c402 h
          refine q_aload_n 5 C dL_law_1273 rfl ?_
          refine q_iconst (v := (0 : Int32)) C dL_law_1274 (by decide) ?_
          obtain ⟨v403, e404, h⟩ := bindE h
          refine q_laload C e404 dL_law_1275 ?_
          refine q_iload 0 C dL_law_1276 rfl ?_
          refine q_i2l C dL_law_1278 ?_
          refine q_lcmp C dL_law_1279 ?_
          refine q_if_eq (tgt := 1285) C dL_law_1280 (by decide) (fun c405 => ?_) (fun c405 => ?_)
          · have h := ifT c405 h
            refine q_goto (tgt := 3015) C dL_law_1285 (by decide) ?_
            refine q_iinc 6 (v := (l4 + (6 : Int32))) (lv' := [(4, .int (l4 + (6 : Int32))), (6, .int v397), (5, .int v391), (0, .retAddr 27), (1, .ref l1), (2, .ref l2), (3, .ref l3)]) C dL_law_3015 rfl rfl (by decide) rfl ?_
            refine q_goto (tgt := 23) C dL_law_3018 (by decide) ?_
            exact q_sub (lv' := [(0, .retAddr 27), (1, .ref l1), (2, .ref l2), (3, .ref l3), (4, .int (l4 + (6 : Int32)))]) [3, 4, 5, 6, 0] rfl (kc ((l4 + (6 : Int32)), M396) (someI h))
          · have h := ifF c405 h
            refine q_iconst (v := (0 : Int32)) C dL_law_1283 (by decide) ?_
            exact q_lawret C (kf _ (someI h)) dL_law_1284
      · have h := ifF c401 h
        refine q_iconst (v := (0 : Int32)) C dL_law_1266 (by decide) ?_
        exact q_lawret C (kf _ (someI h)) dL_law_1267
    have h := ifF c386 h
    by_cases c406 : (v14 &&& (63 : Int32)) = (19 : Int32)
    · have h := ifT c406 h
      refine q_tableIn (off := 1248) (tgt := 1288) C dL_law_40 (by rw [c406]; decide) (by rw [c406]; decide) (by rw [c406]; rfl) (by decide) ?_
      refine q_aload_n 1 C dL_law_1288 rfl ?_
      refine q_sload_n 0 C dL_law_1289 rfl ?_
      refine q_iload 4 C dL_law_1290 rfl ?_
      refine q_iconst (v := (1 : Int32)) C dL_law_1292 (by decide) ?_
      refine q_iadd C dL_law_1293 ?_
      obtain ⟨v407, e408, h⟩ := bindE h
      refine q_sald C hsc e408 dL_law_1294 ?_
      refine q_aload_n 3 C dL_law_1295 rfl ?_
      obtain ⟨v411, M410, e409, h⟩ := bd2E h
      refine q_callSH (v := some (.int v411)) [.ref l1, .int v407, .ref l3] C hRO lkh_RL_217 sk_L_last rfl rfl (Nat.le_of_ble_eq_true rfl) (by decide) (by decide) dL_law_1296 (k_L_last X.1.2.1 hl X.2.2.1 l1 v407 l3 M _ e409) ?_
      refine q_istore (i := 5) (lv' := [(5, .int v411), (0, .retAddr 27), (1, .ref l1), (2, .ref l2), (3, .ref l3), (4, .int l4)]) C dL_law_1299 (by decide) rfl ?_
      refine q_aload_n 3 C dL_law_1301 rfl ?_
      refine q_sload_n 1 C dL_law_1302 rfl ?_
      refine q_iload 5 C dL_law_1303 rfl ?_
      refine q_iconst (v := (1 : Int32)) C dL_law_1305 (by decide) ?_
      refine q_iadd C dL_law_1306 ?_
      obtain ⟨v412, e413, h⟩ := bindE h
      refine q_sald C hsc e413 dL_law_1307 ?_
      obtain ⟨e414, h⟩ := ckOE h
      obtain ⟨v417, M416, e415, h⟩ := bd2E h
      refine q_callV (v := some (.int v417)) [.int v412] C hRO lk_RL_219 vk_X9_last e414 rfl rfl rfl (Nat.le_of_ble_eq_true rfl) (by decide) (by decide) dL_law_1308 (k_X9_last X.1.2.1 hl X.2.2.1 l2 v412 M410 _ e415) ?_
      refine q_istore (i := 6) (lv' := [(6, .int v417), (5, .int v411), (0, .retAddr 27), (1, .ref l1), (2, .ref l2), (3, .ref l3), (4, .int l4)]) C dL_law_1311 (by decide) rfl ?_
      refine q_aload_n 4 C dL_law_1313 rfl ?_
      obtain ⟨e418, h⟩ := ckOE h
      obtain ⟨v420, e419, h⟩ := bindE h
      refine q_callV (v := some (.int v420)) [] C hRO lk_RL_156 vk_X9_thrown e418 rfl rfl rfl (Nat.le_of_ble_eq_true rfl) (by decide) (by decide) dL_law_1314 (k_X9_thrown X.1.2.1 hl X.2.2.1 l2 M416 _ e419) ?_
      refine q_iload 1 C dL_law_1317 rfl ?_
      refine q_icmp_eq (tgt := 1324) C dL_law_1319 (by decide) (fun c421 => ?_) (fun c421 => ?_)
      · have h := ifT c421 h
        refine q_iload 1 C dL_law_1324 rfl ?_
        refine q_if_ne (tgt := 1341) C dL_law_1326 (by decide) (fun c422 => ?_) (fun c422 => ?_)
        · have h := ifF c422 h
          refine q_goto (tgt := 3015) C dL_law_1341 (by decide) ?_
          refine q_iinc 6 (v := (l4 + (6 : Int32))) (lv' := [(4, .int (l4 + (6 : Int32))), (6, .int v417), (5, .int v411), (0, .retAddr 27), (1, .ref l1), (2, .ref l2), (3, .ref l3)]) C dL_law_3015 rfl rfl (by decide) rfl ?_
          refine q_goto (tgt := 23) C dL_law_3018 (by decide) ?_
          exact q_sub (lv' := [(0, .retAddr 27), (1, .ref l1), (2, .ref l2), (3, .ref l3), (4, .int (l4 + (6 : Int32)))]) [3, 4, 5, 6, 0] rfl (kc ((l4 + (6 : Int32)), M416) (someI h))
        · have h := ifT c422 h
          refine q_aload_n 5 C dL_law_1329 rfl ?_
          refine q_iconst (v := (0 : Int32)) C dL_law_1330 (by decide) ?_
          obtain ⟨v423, e424, h⟩ := bindE h
          refine q_laload C e424 dL_law_1331 ?_
          refine q_iload 0 C dL_law_1332 rfl ?_
          refine q_i2l C dL_law_1334 ?_
          refine q_lcmp C dL_law_1335 ?_
          refine q_if_eq (tgt := 1341) C dL_law_1336 (by decide) (fun c425 => ?_) (fun c425 => ?_)
          · have h := ifT c425 h
            refine q_goto (tgt := 3015) C dL_law_1341 (by decide) ?_
            refine q_iinc 6 (v := (l4 + (6 : Int32))) (lv' := [(4, .int (l4 + (6 : Int32))), (6, .int v417), (5, .int v411), (0, .retAddr 27), (1, .ref l1), (2, .ref l2), (3, .ref l3)]) C dL_law_3015 rfl rfl (by decide) rfl ?_
            refine q_goto (tgt := 23) C dL_law_3018 (by decide) ?_
            exact q_sub (lv' := [(0, .retAddr 27), (1, .ref l1), (2, .ref l2), (3, .ref l3), (4, .int (l4 + (6 : Int32)))]) [3, 4, 5, 6, 0] rfl (kc ((l4 + (6 : Int32)), M416) (someI h))
          · have h := ifF c425 h
            refine q_iconst (v := (0 : Int32)) C dL_law_1339 (by decide) ?_
            exact q_lawret C (kf _ (someI h)) dL_law_1340
      · have h := ifF c421 h
        refine q_iconst (v := (0 : Int32)) C dL_law_1322 (by decide) ?_
        exact q_lawret C (kf _ (someI h)) dL_law_1323
    have h := ifF c406 h
    by_cases c426 : (v14 &&& (63 : Int32)) = (20 : Int32)
    · have h := ifT c426 h
      refine q_tableIn (off := 1304) (tgt := 1344) C dL_law_40 (by rw [c426]; decide) (by rw [c426]; decide) (by rw [c426]; rfl) (by decide) ?_
      refine q_aload_n 1 C dL_law_1344 rfl ?_
      refine q_sload_n 0 C dL_law_1345 rfl ?_
      refine q_iload 4 C dL_law_1346 rfl ?_
      refine q_iconst (v := (1 : Int32)) C dL_law_1348 (by decide) ?_
      refine q_iadd C dL_law_1349 ?_
      obtain ⟨v427, e428, h⟩ := bindE h
      refine q_sald C hsc e428 dL_law_1350 ?_
      refine q_aload_n 3 C dL_law_1351 rfl ?_
      obtain ⟨v431, M430, e429, h⟩ := bd2E h
      refine q_callSH (v := some (.int v431)) [.ref l1, .int v427, .ref l3] C hRO lkh_RL_220 sk_L_goes rfl rfl (Nat.le_of_ble_eq_true rfl) (by decide) (by decide) dL_law_1352 (k_L_goes X.1.2.1 hl X.2.2.1 l1 v427 l3 M _ e429) ?_
      refine q_istore (i := 5) (lv' := [(5, .int v431), (0, .retAddr 27), (1, .ref l1), (2, .ref l2), (3, .ref l3), (4, .int l4)]) C dL_law_1355 (by decide) rfl ?_
      refine q_aload_n 3 C dL_law_1357 rfl ?_
      refine q_sload_n 1 C dL_law_1358 rfl ?_
      refine q_iload 5 C dL_law_1359 rfl ?_
      refine q_iconst (v := (1 : Int32)) C dL_law_1361 (by decide) ?_
      refine q_iadd C dL_law_1362 ?_
      obtain ⟨v432, e433, h⟩ := bindE h
      refine q_sald C hsc e433 dL_law_1363 ?_
      obtain ⟨e434, h⟩ := ckOE h
      obtain ⟨v437, M436, e435, h⟩ := bd2E h
      refine q_callV (v := some (.int v437)) [.int v432] C hRO lk_RL_222 vk_X9_goes e434 rfl rfl rfl (Nat.le_of_ble_eq_true rfl) (by decide) (by decide) dL_law_1364 (k_X9_goes X.1.2.1 hl X.2.2.1 l2 v432 M430 _ e435) ?_
      refine q_istore (i := 6) (lv' := [(6, .int v437), (5, .int v431), (0, .retAddr 27), (1, .ref l1), (2, .ref l2), (3, .ref l3), (4, .int l4)]) C dL_law_1367 (by decide) rfl ?_
      refine q_aload_n 4 C dL_law_1369 rfl ?_
      obtain ⟨e438, h⟩ := ckOE h
      obtain ⟨v440, e439, h⟩ := bindE h
      refine q_callV (v := some (.int v440)) [] C hRO lk_RL_156 vk_X9_thrown e438 rfl rfl rfl (Nat.le_of_ble_eq_true rfl) (by decide) (by decide) dL_law_1370 (k_X9_thrown X.1.2.1 hl X.2.2.1 l2 M436 _ e439) ?_
      refine q_iload 1 C dL_law_1373 rfl ?_
      refine q_icmp_eq (tgt := 1380) C dL_law_1375 (by decide) (fun c441 => ?_) (fun c441 => ?_)
      · have h := ifT c441 h
        refine q_iload 1 C dL_law_1380 rfl ?_
        refine q_if_ne (tgt := 1397) C dL_law_1382 (by decide) (fun c442 => ?_) (fun c442 => ?_)
        · have h := ifF c442 h
          refine q_goto (tgt := 3015) C dL_law_1397 (by decide) ?_
          refine q_iinc 6 (v := (l4 + (6 : Int32))) (lv' := [(4, .int (l4 + (6 : Int32))), (6, .int v437), (5, .int v431), (0, .retAddr 27), (1, .ref l1), (2, .ref l2), (3, .ref l3)]) C dL_law_3015 rfl rfl (by decide) rfl ?_
          refine q_goto (tgt := 23) C dL_law_3018 (by decide) ?_
          exact q_sub (lv' := [(0, .retAddr 27), (1, .ref l1), (2, .ref l2), (3, .ref l3), (4, .int (l4 + (6 : Int32)))]) [3, 4, 5, 6, 0] rfl (kc ((l4 + (6 : Int32)), M436) (someI h))
        · have h := ifT c442 h
          refine q_aload_n 5 C dL_law_1385 rfl ?_
          refine q_iconst (v := (0 : Int32)) C dL_law_1386 (by decide) ?_
          obtain ⟨v443, e444, h⟩ := bindE h
          refine q_laload C e444 dL_law_1387 ?_
          refine q_iload 0 C dL_law_1388 rfl ?_
          refine q_i2l C dL_law_1390 ?_
          refine q_lcmp C dL_law_1391 ?_
          refine q_if_eq (tgt := 1397) C dL_law_1392 (by decide) (fun c445 => ?_) (fun c445 => ?_)
          · have h := ifT c445 h
            refine q_goto (tgt := 3015) C dL_law_1397 (by decide) ?_
            refine q_iinc 6 (v := (l4 + (6 : Int32))) (lv' := [(4, .int (l4 + (6 : Int32))), (6, .int v437), (5, .int v431), (0, .retAddr 27), (1, .ref l1), (2, .ref l2), (3, .ref l3)]) C dL_law_3015 rfl rfl (by decide) rfl ?_
            refine q_goto (tgt := 23) C dL_law_3018 (by decide) ?_
            exact q_sub (lv' := [(0, .retAddr 27), (1, .ref l1), (2, .ref l2), (3, .ref l3), (4, .int (l4 + (6 : Int32)))]) [3, 4, 5, 6, 0] rfl (kc ((l4 + (6 : Int32)), M436) (someI h))
          · have h := ifF c445 h
            refine q_iconst (v := (0 : Int32)) C dL_law_1395 (by decide) ?_
            exact q_lawret C (kf _ (someI h)) dL_law_1396
      · have h := ifF c441 h
        refine q_iconst (v := (0 : Int32)) C dL_law_1378 (by decide) ?_
        exact q_lawret C (kf _ (someI h)) dL_law_1379
    have h := ifF c426 h
    by_cases c446 : (v14 &&& (63 : Int32)) = (21 : Int32)
    · have h := ifT c446 h
      refine q_tableIn (off := 1360) (tgt := 1400) C dL_law_40 (by rw [c446]; decide) (by rw [c446]; decide) (by rw [c446]; rfl) (by decide) ?_
      refine q_aload_n 1 C dL_law_1400 rfl ?_
      refine q_sload_n 0 C dL_law_1401 rfl ?_
      refine q_iload 4 C dL_law_1402 rfl ?_
      refine q_iconst (v := (1 : Int32)) C dL_law_1404 (by decide) ?_
      refine q_iadd C dL_law_1405 ?_
      obtain ⟨v447, e448, h⟩ := bindE h
      refine q_sald C hsc e448 dL_law_1406 ?_
      refine q_aload_n 3 C dL_law_1407 rfl ?_
      obtain ⟨v451, M450, e449, h⟩ := bd2E h
      refine q_callSH (v := some (.int v451)) [.ref l1, .int v447, .ref l3] C hRO lkh_RL_223 sk_L_match rfl rfl (Nat.le_of_ble_eq_true rfl) (by decide) (by decide) dL_law_1408 (k_L_match X.1.2.1 hl X.2.2.1 l1 v447 l3 M _ e449) ?_
      refine q_istore (i := 5) (lv' := [(5, .int v451), (0, .retAddr 27), (1, .ref l1), (2, .ref l2), (3, .ref l3), (4, .int l4)]) C dL_law_1411 (by decide) rfl ?_
      refine q_aload_n 3 C dL_law_1413 rfl ?_
      refine q_sload_n 1 C dL_law_1414 rfl ?_
      refine q_iload 5 C dL_law_1415 rfl ?_
      refine q_iconst (v := (1 : Int32)) C dL_law_1417 (by decide) ?_
      refine q_iadd C dL_law_1418 ?_
      obtain ⟨v452, e453, h⟩ := bindE h
      refine q_sald C hsc e453 dL_law_1419 ?_
      obtain ⟨e454, h⟩ := ckOE h
      obtain ⟨v457, M456, e455, h⟩ := bd2E h
      refine q_callV (v := some (.int v457)) [.int v452] C hRO lk_RL_225 vk_X9_match e454 rfl rfl rfl (Nat.le_of_ble_eq_true rfl) (by decide) (by decide) dL_law_1420 (k_X9_match X.1.2.1 hl X.2.2.1 l2 v452 M450 _ e455) ?_
      refine q_istore (i := 6) (lv' := [(6, .int v457), (5, .int v451), (0, .retAddr 27), (1, .ref l1), (2, .ref l2), (3, .ref l3), (4, .int l4)]) C dL_law_1423 (by decide) rfl ?_
      refine q_aload_n 4 C dL_law_1425 rfl ?_
      obtain ⟨e458, h⟩ := ckOE h
      obtain ⟨v460, e459, h⟩ := bindE h
      refine q_callV (v := some (.int v460)) [] C hRO lk_RL_156 vk_X9_thrown e458 rfl rfl rfl (Nat.le_of_ble_eq_true rfl) (by decide) (by decide) dL_law_1426 (k_X9_thrown X.1.2.1 hl X.2.2.1 l2 M456 _ e459) ?_
      refine q_iload 1 C dL_law_1429 rfl ?_
      refine q_icmp_eq (tgt := 1436) C dL_law_1431 (by decide) (fun c461 => ?_) (fun c461 => ?_)
      · have h := ifT c461 h
        refine q_iload 1 C dL_law_1436 rfl ?_
        refine q_if_ne (tgt := 1453) C dL_law_1438 (by decide) (fun c462 => ?_) (fun c462 => ?_)
        · have h := ifF c462 h
          refine q_goto (tgt := 3015) C dL_law_1453 (by decide) ?_
          refine q_iinc 6 (v := (l4 + (6 : Int32))) (lv' := [(4, .int (l4 + (6 : Int32))), (6, .int v457), (5, .int v451), (0, .retAddr 27), (1, .ref l1), (2, .ref l2), (3, .ref l3)]) C dL_law_3015 rfl rfl (by decide) rfl ?_
          refine q_goto (tgt := 23) C dL_law_3018 (by decide) ?_
          exact q_sub (lv' := [(0, .retAddr 27), (1, .ref l1), (2, .ref l2), (3, .ref l3), (4, .int (l4 + (6 : Int32)))]) [3, 4, 5, 6, 0] rfl (kc ((l4 + (6 : Int32)), M456) (someI h))
        · have h := ifT c462 h
          refine q_aload_n 5 C dL_law_1441 rfl ?_
          refine q_iconst (v := (0 : Int32)) C dL_law_1442 (by decide) ?_
          obtain ⟨v463, e464, h⟩ := bindE h
          refine q_laload C e464 dL_law_1443 ?_
          refine q_iload 0 C dL_law_1444 rfl ?_
          refine q_i2l C dL_law_1446 ?_
          refine q_lcmp C dL_law_1447 ?_
          refine q_if_eq (tgt := 1453) C dL_law_1448 (by decide) (fun c465 => ?_) (fun c465 => ?_)
          · have h := ifT c465 h
            refine q_goto (tgt := 3015) C dL_law_1453 (by decide) ?_
            refine q_iinc 6 (v := (l4 + (6 : Int32))) (lv' := [(4, .int (l4 + (6 : Int32))), (6, .int v457), (5, .int v451), (0, .retAddr 27), (1, .ref l1), (2, .ref l2), (3, .ref l3)]) C dL_law_3015 rfl rfl (by decide) rfl ?_
            refine q_goto (tgt := 23) C dL_law_3018 (by decide) ?_
            exact q_sub (lv' := [(0, .retAddr 27), (1, .ref l1), (2, .ref l2), (3, .ref l3), (4, .int (l4 + (6 : Int32)))]) [3, 4, 5, 6, 0] rfl (kc ((l4 + (6 : Int32)), M456) (someI h))
          · have h := ifF c465 h
            refine q_iconst (v := (0 : Int32)) C dL_law_1451 (by decide) ?_
            exact q_lawret C (kf _ (someI h)) dL_law_1452
      · have h := ifF c461 h
        refine q_iconst (v := (0 : Int32)) C dL_law_1434 (by decide) ?_
        exact q_lawret C (kf _ (someI h)) dL_law_1435
    have h := ifF c446 h
    by_cases c466 : (v14 &&& (63 : Int32)) = (22 : Int32)
    · have h := ifT c466 h
      refine q_tableIn (off := 1416) (tgt := 1456) C dL_law_40 (by rw [c466]; decide) (by rw [c466]; decide) (by rw [c466]; rfl) (by decide) ?_
      refine q_aload_n 1 C dL_law_1456 rfl ?_
      refine q_sload_n 0 C dL_law_1457 rfl ?_
      refine q_iload 4 C dL_law_1458 rfl ?_
      refine q_iconst (v := (1 : Int32)) C dL_law_1460 (by decide) ?_
      refine q_iadd C dL_law_1461 ?_
      obtain ⟨v467, e468, h⟩ := bindE h
      refine q_sald C hsc e468 dL_law_1462 ?_
      refine q_aload_n 3 C dL_law_1463 rfl ?_
      obtain ⟨v471, M470, e469, h⟩ := bd2E h
      refine q_callSH (v := some (.int v471)) [.ref l1, .int v467, .ref l3] C hRO lkh_RL_226 sk_L_matched rfl rfl (Nat.le_of_ble_eq_true rfl) (by decide) (by decide) dL_law_1464 (k_L_matched X.1.2.1 hl X.2.2.1 l1 v467 l3 M _ e469) ?_
      refine q_istore (i := 5) (lv' := [(5, .int v471), (0, .retAddr 27), (1, .ref l1), (2, .ref l2), (3, .ref l3), (4, .int l4)]) C dL_law_1467 (by decide) rfl ?_
      refine q_aload_n 3 C dL_law_1469 rfl ?_
      refine q_sload_n 1 C dL_law_1470 rfl ?_
      refine q_iload 5 C dL_law_1471 rfl ?_
      refine q_iconst (v := (1 : Int32)) C dL_law_1473 (by decide) ?_
      refine q_iadd C dL_law_1474 ?_
      obtain ⟨v472, e473, h⟩ := bindE h
      refine q_sald C hsc e473 dL_law_1475 ?_
      obtain ⟨e474, h⟩ := ckOE h
      obtain ⟨v477, M476, e475, h⟩ := bd2E h
      refine q_callV (v := some (.int v477)) [.int v472] C hRO lk_RL_228 vk_X9_matched e474 rfl rfl rfl (Nat.le_of_ble_eq_true rfl) (by decide) (by decide) dL_law_1476 (k_X9_matched X.1.2.1 hl X.2.2.1 l2 v472 M470 _ e475) ?_
      refine q_istore (i := 6) (lv' := [(6, .int v477), (5, .int v471), (0, .retAddr 27), (1, .ref l1), (2, .ref l2), (3, .ref l3), (4, .int l4)]) C dL_law_1479 (by decide) rfl ?_
      refine q_aload_n 4 C dL_law_1481 rfl ?_
      obtain ⟨e478, h⟩ := ckOE h
      obtain ⟨v480, e479, h⟩ := bindE h
      refine q_callV (v := some (.int v480)) [] C hRO lk_RL_156 vk_X9_thrown e478 rfl rfl rfl (Nat.le_of_ble_eq_true rfl) (by decide) (by decide) dL_law_1482 (k_X9_thrown X.1.2.1 hl X.2.2.1 l2 M476 _ e479) ?_
      refine q_iload 1 C dL_law_1485 rfl ?_
      refine q_icmp_eq (tgt := 1492) C dL_law_1487 (by decide) (fun c481 => ?_) (fun c481 => ?_)
      · have h := ifT c481 h
        refine q_iload 1 C dL_law_1492 rfl ?_
        refine q_if_ne (tgt := 1509) C dL_law_1494 (by decide) (fun c482 => ?_) (fun c482 => ?_)
        · have h := ifF c482 h
          refine q_goto (tgt := 3015) C dL_law_1509 (by decide) ?_
          refine q_iinc 6 (v := (l4 + (6 : Int32))) (lv' := [(4, .int (l4 + (6 : Int32))), (6, .int v477), (5, .int v471), (0, .retAddr 27), (1, .ref l1), (2, .ref l2), (3, .ref l3)]) C dL_law_3015 rfl rfl (by decide) rfl ?_
          refine q_goto (tgt := 23) C dL_law_3018 (by decide) ?_
          exact q_sub (lv' := [(0, .retAddr 27), (1, .ref l1), (2, .ref l2), (3, .ref l3), (4, .int (l4 + (6 : Int32)))]) [3, 4, 5, 6, 0] rfl (kc ((l4 + (6 : Int32)), M476) (someI h))
        · have h := ifT c482 h
          refine q_aload_n 5 C dL_law_1497 rfl ?_
          refine q_iconst (v := (0 : Int32)) C dL_law_1498 (by decide) ?_
          obtain ⟨v483, e484, h⟩ := bindE h
          refine q_laload C e484 dL_law_1499 ?_
          refine q_iload 0 C dL_law_1500 rfl ?_
          refine q_i2l C dL_law_1502 ?_
          refine q_lcmp C dL_law_1503 ?_
          refine q_if_eq (tgt := 1509) C dL_law_1504 (by decide) (fun c485 => ?_) (fun c485 => ?_)
          · have h := ifT c485 h
            refine q_goto (tgt := 3015) C dL_law_1509 (by decide) ?_
            refine q_iinc 6 (v := (l4 + (6 : Int32))) (lv' := [(4, .int (l4 + (6 : Int32))), (6, .int v477), (5, .int v471), (0, .retAddr 27), (1, .ref l1), (2, .ref l2), (3, .ref l3)]) C dL_law_3015 rfl rfl (by decide) rfl ?_
            refine q_goto (tgt := 23) C dL_law_3018 (by decide) ?_
            exact q_sub (lv' := [(0, .retAddr 27), (1, .ref l1), (2, .ref l2), (3, .ref l3), (4, .int (l4 + (6 : Int32)))]) [3, 4, 5, 6, 0] rfl (kc ((l4 + (6 : Int32)), M476) (someI h))
          · have h := ifF c485 h
            refine q_iconst (v := (0 : Int32)) C dL_law_1507 (by decide) ?_
            exact q_lawret C (kf _ (someI h)) dL_law_1508
      · have h := ifF c481 h
        refine q_iconst (v := (0 : Int32)) C dL_law_1490 (by decide) ?_
        exact q_lawret C (kf _ (someI h)) dL_law_1491
    have h := ifF c466 h
    by_cases c486 : (v14 &&& (63 : Int32)) = (23 : Int32)
    · have h := ifT c486 h
      refine q_tableIn (off := 1472) (tgt := 1512) C dL_law_40 (by rw [c486]; decide) (by rw [c486]; decide) (by rw [c486]; rfl) (by decide) ?_
      refine q_aload_n 1 C dL_law_1512 rfl ?_
      refine q_sload_n 0 C dL_law_1513 rfl ?_
      refine q_iload 4 C dL_law_1514 rfl ?_
      refine q_iconst (v := (1 : Int32)) C dL_law_1516 (by decide) ?_
      refine q_iadd C dL_law_1517 ?_
      obtain ⟨v487, e488, h⟩ := bindE h
      refine q_sald C hsc e488 dL_law_1518 ?_
      refine q_aload_n 3 C dL_law_1519 rfl ?_
      obtain ⟨v491, M490, e489, h⟩ := bd2E h
      refine q_callSH (v := some (.int v491)) [.ref l1, .int v487, .ref l3] C hRO lkh_RL_229 sk_L_trade rfl rfl (Nat.le_of_ble_eq_true rfl) (by decide) (by decide) dL_law_1520 (k_L_trade X.1.2.1 hl X.2.2.1 l1 v487 l3 M _ e489) ?_
      refine q_istore (i := 5) (lv' := [(5, .int v491), (0, .retAddr 27), (1, .ref l1), (2, .ref l2), (3, .ref l3), (4, .int l4)]) C dL_law_1523 (by decide) rfl ?_
      refine q_aload_n 3 C dL_law_1525 rfl ?_
      refine q_sload_n 1 C dL_law_1526 rfl ?_
      refine q_iload 5 C dL_law_1527 rfl ?_
      refine q_iconst (v := (1 : Int32)) C dL_law_1529 (by decide) ?_
      refine q_iadd C dL_law_1530 ?_
      obtain ⟨v492, e493, h⟩ := bindE h
      refine q_sald C hsc e493 dL_law_1531 ?_
      obtain ⟨e494, h⟩ := ckOE h
      obtain ⟨v497, M496, e495, h⟩ := bd2E h
      refine q_callV (v := some (.int v497)) [.int v492] C hRO lk_RL_231 vk_X9_trade e494 rfl rfl rfl (Nat.le_of_ble_eq_true rfl) (by decide) (by decide) dL_law_1532 (k_X9_trade X.1.2.1 hl X.2.2.1 l2 v492 M490 _ e495) ?_
      refine q_istore (i := 6) (lv' := [(6, .int v497), (5, .int v491), (0, .retAddr 27), (1, .ref l1), (2, .ref l2), (3, .ref l3), (4, .int l4)]) C dL_law_1535 (by decide) rfl ?_
      refine q_aload_n 4 C dL_law_1537 rfl ?_
      obtain ⟨e498, h⟩ := ckOE h
      obtain ⟨v500, e499, h⟩ := bindE h
      refine q_callV (v := some (.int v500)) [] C hRO lk_RL_156 vk_X9_thrown e498 rfl rfl rfl (Nat.le_of_ble_eq_true rfl) (by decide) (by decide) dL_law_1538 (k_X9_thrown X.1.2.1 hl X.2.2.1 l2 M496 _ e499) ?_
      refine q_iload 1 C dL_law_1541 rfl ?_
      refine q_icmp_eq (tgt := 1548) C dL_law_1543 (by decide) (fun c501 => ?_) (fun c501 => ?_)
      · have h := ifT c501 h
        refine q_iload 1 C dL_law_1548 rfl ?_
        refine q_if_ne (tgt := 1565) C dL_law_1550 (by decide) (fun c502 => ?_) (fun c502 => ?_)
        · have h := ifF c502 h
          refine q_goto (tgt := 3015) C dL_law_1565 (by decide) ?_
          refine q_iinc 6 (v := (l4 + (6 : Int32))) (lv' := [(4, .int (l4 + (6 : Int32))), (6, .int v497), (5, .int v491), (0, .retAddr 27), (1, .ref l1), (2, .ref l2), (3, .ref l3)]) C dL_law_3015 rfl rfl (by decide) rfl ?_
          refine q_goto (tgt := 23) C dL_law_3018 (by decide) ?_
          exact q_sub (lv' := [(0, .retAddr 27), (1, .ref l1), (2, .ref l2), (3, .ref l3), (4, .int (l4 + (6 : Int32)))]) [3, 4, 5, 6, 0] rfl (kc ((l4 + (6 : Int32)), M496) (someI h))
        · have h := ifT c502 h
          refine q_aload_n 5 C dL_law_1553 rfl ?_
          refine q_iconst (v := (0 : Int32)) C dL_law_1554 (by decide) ?_
          obtain ⟨v503, e504, h⟩ := bindE h
          refine q_laload C e504 dL_law_1555 ?_
          refine q_iload 0 C dL_law_1556 rfl ?_
          refine q_i2l C dL_law_1558 ?_
          refine q_lcmp C dL_law_1559 ?_
          refine q_if_eq (tgt := 1565) C dL_law_1560 (by decide) (fun c505 => ?_) (fun c505 => ?_)
          · have h := ifT c505 h
            refine q_goto (tgt := 3015) C dL_law_1565 (by decide) ?_
            refine q_iinc 6 (v := (l4 + (6 : Int32))) (lv' := [(4, .int (l4 + (6 : Int32))), (6, .int v497), (5, .int v491), (0, .retAddr 27), (1, .ref l1), (2, .ref l2), (3, .ref l3)]) C dL_law_3015 rfl rfl (by decide) rfl ?_
            refine q_goto (tgt := 23) C dL_law_3018 (by decide) ?_
            exact q_sub (lv' := [(0, .retAddr 27), (1, .ref l1), (2, .ref l2), (3, .ref l3), (4, .int (l4 + (6 : Int32)))]) [3, 4, 5, 6, 0] rfl (kc ((l4 + (6 : Int32)), M496) (someI h))
          · have h := ifF c505 h
            refine q_iconst (v := (0 : Int32)) C dL_law_1563 (by decide) ?_
            exact q_lawret C (kf _ (someI h)) dL_law_1564
      · have h := ifF c501 h
        refine q_iconst (v := (0 : Int32)) C dL_law_1546 (by decide) ?_
        exact q_lawret C (kf _ (someI h)) dL_law_1547
    have h := ifF c486 h
    by_cases c506 : (v14 &&& (63 : Int32)) = (24 : Int32)
    · have h := ifT c506 h
      refine q_tableIn (off := 1528) (tgt := 1568) C dL_law_40 (by rw [c506]; decide) (by rw [c506]; decide) (by rw [c506]; rfl) (by decide) ?_
      refine q_aload_n 1 C dL_law_1568 rfl ?_
      refine q_sload_n 0 C dL_law_1569 rfl ?_
      refine q_iload 4 C dL_law_1570 rfl ?_
      refine q_iconst (v := (1 : Int32)) C dL_law_1572 (by decide) ?_
      refine q_iadd C dL_law_1573 ?_
      obtain ⟨v507, e508, h⟩ := bindE h
      refine q_sald C hsc e508 dL_law_1574 ?_
      refine q_sload_n 0 C dL_law_1575 rfl ?_
      refine q_iload 4 C dL_law_1576 rfl ?_
      refine q_iconst (v := (2 : Int32)) C dL_law_1578 (by decide) ?_
      refine q_iadd C dL_law_1579 ?_
      obtain ⟨v509, e510, h⟩ := bindE h
      refine q_sald C hsc e510 dL_law_1580 ?_
      refine q_aload_n 3 C dL_law_1581 rfl ?_
      obtain ⟨v513, M512, e511, h⟩ := bd2E h
      refine q_callSH (v := some (.int v513)) [.ref l1, .int v507, .int v509, .ref l3] C hRO lkh_RL_232 sk_L_toStuff rfl rfl (Nat.le_of_ble_eq_true rfl) (by decide) (by decide) dL_law_1582 (k_L_toStuff X.1.2.1 hl X.2.2.1 l1 v507 v509 l3 M _ e511) ?_
      refine q_istore (i := 5) (lv' := [(5, .int v513), (0, .retAddr 27), (1, .ref l1), (2, .ref l2), (3, .ref l3), (4, .int l4)]) C dL_law_1585 (by decide) rfl ?_
      refine q_aload_n 3 C dL_law_1587 rfl ?_
      refine q_sload_n 1 C dL_law_1588 rfl ?_
      refine q_iload 5 C dL_law_1589 rfl ?_
      refine q_iconst (v := (1 : Int32)) C dL_law_1591 (by decide) ?_
      refine q_iadd C dL_law_1592 ?_
      obtain ⟨v514, e515, h⟩ := bindE h
      refine q_sald C hsc e515 dL_law_1593 ?_
      refine q_sload_n 1 C dL_law_1594 rfl ?_
      refine q_iload 5 C dL_law_1595 rfl ?_
      refine q_iconst (v := (2 : Int32)) C dL_law_1597 (by decide) ?_
      refine q_iadd C dL_law_1598 ?_
      obtain ⟨v516, e517, h⟩ := bindE h
      refine q_sald C hsc e517 dL_law_1599 ?_
      obtain ⟨e518, h⟩ := ckOE h
      obtain ⟨v521, M520, e519, h⟩ := bd2E h
      refine q_callV (v := some (.int v521)) [.int v514, .int v516] C hRO lk_RL_234 vk_X9_toStuff e518 rfl rfl rfl (Nat.le_of_ble_eq_true rfl) (by decide) (by decide) dL_law_1600 (k_X9_toStuff X.1.2.1 hl X.2.2.1 l2 v514 v516 M512 _ e519) ?_
      refine q_istore (i := 6) (lv' := [(6, .int v521), (5, .int v513), (0, .retAddr 27), (1, .ref l1), (2, .ref l2), (3, .ref l3), (4, .int l4)]) C dL_law_1603 (by decide) rfl ?_
      refine q_aload_n 4 C dL_law_1605 rfl ?_
      obtain ⟨e522, h⟩ := ckOE h
      obtain ⟨v524, e523, h⟩ := bindE h
      refine q_callV (v := some (.int v524)) [] C hRO lk_RL_156 vk_X9_thrown e522 rfl rfl rfl (Nat.le_of_ble_eq_true rfl) (by decide) (by decide) dL_law_1606 (k_X9_thrown X.1.2.1 hl X.2.2.1 l2 M520 _ e523) ?_
      refine q_iload 1 C dL_law_1609 rfl ?_
      refine q_icmp_eq (tgt := 1616) C dL_law_1611 (by decide) (fun c525 => ?_) (fun c525 => ?_)
      · have h := ifT c525 h
        refine q_iload 1 C dL_law_1616 rfl ?_
        refine q_if_ne (tgt := 1633) C dL_law_1618 (by decide) (fun c526 => ?_) (fun c526 => ?_)
        · have h := ifF c526 h
          refine q_goto (tgt := 3015) C dL_law_1633 (by decide) ?_
          refine q_iinc 6 (v := (l4 + (6 : Int32))) (lv' := [(4, .int (l4 + (6 : Int32))), (6, .int v521), (5, .int v513), (0, .retAddr 27), (1, .ref l1), (2, .ref l2), (3, .ref l3)]) C dL_law_3015 rfl rfl (by decide) rfl ?_
          refine q_goto (tgt := 23) C dL_law_3018 (by decide) ?_
          exact q_sub (lv' := [(0, .retAddr 27), (1, .ref l1), (2, .ref l2), (3, .ref l3), (4, .int (l4 + (6 : Int32)))]) [3, 4, 5, 6, 0] rfl (kc ((l4 + (6 : Int32)), M520) (someI h))
        · have h := ifT c526 h
          refine q_aload_n 5 C dL_law_1621 rfl ?_
          refine q_iconst (v := (0 : Int32)) C dL_law_1622 (by decide) ?_
          obtain ⟨v527, e528, h⟩ := bindE h
          refine q_laload C e528 dL_law_1623 ?_
          refine q_iload 0 C dL_law_1624 rfl ?_
          refine q_i2l C dL_law_1626 ?_
          refine q_lcmp C dL_law_1627 ?_
          refine q_if_eq (tgt := 1633) C dL_law_1628 (by decide) (fun c529 => ?_) (fun c529 => ?_)
          · have h := ifT c529 h
            refine q_goto (tgt := 3015) C dL_law_1633 (by decide) ?_
            refine q_iinc 6 (v := (l4 + (6 : Int32))) (lv' := [(4, .int (l4 + (6 : Int32))), (6, .int v521), (5, .int v513), (0, .retAddr 27), (1, .ref l1), (2, .ref l2), (3, .ref l3)]) C dL_law_3015 rfl rfl (by decide) rfl ?_
            refine q_goto (tgt := 23) C dL_law_3018 (by decide) ?_
            exact q_sub (lv' := [(0, .retAddr 27), (1, .ref l1), (2, .ref l2), (3, .ref l3), (4, .int (l4 + (6 : Int32)))]) [3, 4, 5, 6, 0] rfl (kc ((l4 + (6 : Int32)), M520) (someI h))
          · have h := ifF c529 h
            refine q_iconst (v := (0 : Int32)) C dL_law_1631 (by decide) ?_
            exact q_lawret C (kf _ (someI h)) dL_law_1632
      · have h := ifF c525 h
        refine q_iconst (v := (0 : Int32)) C dL_law_1614 (by decide) ?_
        exact q_lawret C (kf _ (someI h)) dL_law_1615
    have h := ifF c506 h
    by_cases c530 : (v14 &&& (63 : Int32)) = (25 : Int32)
    · have h := ifT c530 h
      refine q_tableIn (off := 1596) (tgt := 1636) C dL_law_40 (by rw [c530]; decide) (by rw [c530]; decide) (by rw [c530]; rfl) (by decide) ?_
      refine q_aload_n 1 C dL_law_1636 rfl ?_
      refine q_sload_n 0 C dL_law_1637 rfl ?_
      refine q_iload 4 C dL_law_1638 rfl ?_
      refine q_iconst (v := (1 : Int32)) C dL_law_1640 (by decide) ?_
      refine q_iadd C dL_law_1641 ?_
      obtain ⟨v531, e532, h⟩ := bindE h
      refine q_sald C hsc e532 dL_law_1642 ?_
      refine q_sload_n 0 C dL_law_1643 rfl ?_
      refine q_iload 4 C dL_law_1644 rfl ?_
      refine q_iconst (v := (2 : Int32)) C dL_law_1646 (by decide) ?_
      refine q_iadd C dL_law_1647 ?_
      obtain ⟨v533, e534, h⟩ := bindE h
      refine q_sald C hsc e534 dL_law_1648 ?_
      refine q_aload_n 3 C dL_law_1649 rfl ?_
      obtain ⟨v537, M536, e535, h⟩ := bd2E h
      refine q_callSH (v := some (.int v537)) [.ref l1, .int v531, .int v533, .ref l3] C hRO lkh_RL_235 sk_L_toWait rfl rfl (Nat.le_of_ble_eq_true rfl) (by decide) (by decide) dL_law_1650 (k_L_toWait X.1.2.1 hl X.2.2.1 l1 v531 v533 l3 M _ e535) ?_
      refine q_istore (i := 5) (lv' := [(5, .int v537), (0, .retAddr 27), (1, .ref l1), (2, .ref l2), (3, .ref l3), (4, .int l4)]) C dL_law_1653 (by decide) rfl ?_
      refine q_aload_n 3 C dL_law_1655 rfl ?_
      refine q_sload_n 1 C dL_law_1656 rfl ?_
      refine q_iload 5 C dL_law_1657 rfl ?_
      refine q_iconst (v := (1 : Int32)) C dL_law_1659 (by decide) ?_
      refine q_iadd C dL_law_1660 ?_
      obtain ⟨v538, e539, h⟩ := bindE h
      refine q_sald C hsc e539 dL_law_1661 ?_
      refine q_sload_n 1 C dL_law_1662 rfl ?_
      refine q_iload 5 C dL_law_1663 rfl ?_
      refine q_iconst (v := (2 : Int32)) C dL_law_1665 (by decide) ?_
      refine q_iadd C dL_law_1666 ?_
      obtain ⟨v540, e541, h⟩ := bindE h
      refine q_sald C hsc e541 dL_law_1667 ?_
      obtain ⟨e542, h⟩ := ckOE h
      obtain ⟨v545, M544, e543, h⟩ := bd2E h
      refine q_callV (v := some (.int v545)) [.int v538, .int v540] C hRO lk_RL_237 vk_X9_toWait e542 rfl rfl rfl (Nat.le_of_ble_eq_true rfl) (by decide) (by decide) dL_law_1668 (k_X9_toWait X.1.2.1 hl X.2.2.1 l2 v538 v540 M536 _ e543) ?_
      refine q_istore (i := 6) (lv' := [(6, .int v545), (5, .int v537), (0, .retAddr 27), (1, .ref l1), (2, .ref l2), (3, .ref l3), (4, .int l4)]) C dL_law_1671 (by decide) rfl ?_
      refine q_aload_n 4 C dL_law_1673 rfl ?_
      obtain ⟨e546, h⟩ := ckOE h
      obtain ⟨v548, e547, h⟩ := bindE h
      refine q_callV (v := some (.int v548)) [] C hRO lk_RL_156 vk_X9_thrown e546 rfl rfl rfl (Nat.le_of_ble_eq_true rfl) (by decide) (by decide) dL_law_1674 (k_X9_thrown X.1.2.1 hl X.2.2.1 l2 M544 _ e547) ?_
      refine q_iload 1 C dL_law_1677 rfl ?_
      refine q_icmp_eq (tgt := 1684) C dL_law_1679 (by decide) (fun c549 => ?_) (fun c549 => ?_)
      · have h := ifT c549 h
        refine q_iload 1 C dL_law_1684 rfl ?_
        refine q_if_ne (tgt := 1701) C dL_law_1686 (by decide) (fun c550 => ?_) (fun c550 => ?_)
        · have h := ifF c550 h
          refine q_goto (tgt := 3015) C dL_law_1701 (by decide) ?_
          refine q_iinc 6 (v := (l4 + (6 : Int32))) (lv' := [(4, .int (l4 + (6 : Int32))), (6, .int v545), (5, .int v537), (0, .retAddr 27), (1, .ref l1), (2, .ref l2), (3, .ref l3)]) C dL_law_3015 rfl rfl (by decide) rfl ?_
          refine q_goto (tgt := 23) C dL_law_3018 (by decide) ?_
          exact q_sub (lv' := [(0, .retAddr 27), (1, .ref l1), (2, .ref l2), (3, .ref l3), (4, .int (l4 + (6 : Int32)))]) [3, 4, 5, 6, 0] rfl (kc ((l4 + (6 : Int32)), M544) (someI h))
        · have h := ifT c550 h
          refine q_aload_n 5 C dL_law_1689 rfl ?_
          refine q_iconst (v := (0 : Int32)) C dL_law_1690 (by decide) ?_
          obtain ⟨v551, e552, h⟩ := bindE h
          refine q_laload C e552 dL_law_1691 ?_
          refine q_iload 0 C dL_law_1692 rfl ?_
          refine q_i2l C dL_law_1694 ?_
          refine q_lcmp C dL_law_1695 ?_
          refine q_if_eq (tgt := 1701) C dL_law_1696 (by decide) (fun c553 => ?_) (fun c553 => ?_)
          · have h := ifT c553 h
            refine q_goto (tgt := 3015) C dL_law_1701 (by decide) ?_
            refine q_iinc 6 (v := (l4 + (6 : Int32))) (lv' := [(4, .int (l4 + (6 : Int32))), (6, .int v545), (5, .int v537), (0, .retAddr 27), (1, .ref l1), (2, .ref l2), (3, .ref l3)]) C dL_law_3015 rfl rfl (by decide) rfl ?_
            refine q_goto (tgt := 23) C dL_law_3018 (by decide) ?_
            exact q_sub (lv' := [(0, .retAddr 27), (1, .ref l1), (2, .ref l2), (3, .ref l3), (4, .int (l4 + (6 : Int32)))]) [3, 4, 5, 6, 0] rfl (kc ((l4 + (6 : Int32)), M544) (someI h))
          · have h := ifF c553 h
            refine q_iconst (v := (0 : Int32)) C dL_law_1699 (by decide) ?_
            exact q_lawret C (kf _ (someI h)) dL_law_1700
      · have h := ifF c549 h
        refine q_iconst (v := (0 : Int32)) C dL_law_1682 (by decide) ?_
        exact q_lawret C (kf _ (someI h)) dL_law_1683
    have h := ifF c530 h
    by_cases c554 : (v14 &&& (63 : Int32)) = (26 : Int32)
    · have h := ifT c554 h
      refine q_tableIn (off := 1664) (tgt := 1704) C dL_law_40 (by rw [c554]; decide) (by rw [c554]; decide) (by rw [c554]; rfl) (by decide) ?_
      refine q_aload_n 1 C dL_law_1704 rfl ?_
      refine q_sload_n 0 C dL_law_1705 rfl ?_
      refine q_iload 4 C dL_law_1706 rfl ?_
      refine q_iconst (v := (1 : Int32)) C dL_law_1708 (by decide) ?_
      refine q_iadd C dL_law_1709 ?_
      obtain ⟨v555, e556, h⟩ := bindE h
      refine q_sald C hsc e556 dL_law_1710 ?_
      refine q_aload_n 3 C dL_law_1711 rfl ?_
      obtain ⟨v559, M558, e557, h⟩ := bd2E h
      refine q_callSH (v := some (.int v559)) [.ref l1, .int v555, .ref l3] C hRO lkh_RL_238 sk_L_round rfl rfl (Nat.le_of_ble_eq_true rfl) (by decide) (by decide) dL_law_1712 (k_L_round X.1.2.1 hl X.2.2.1 l1 v555 l3 M _ e557) ?_
      refine q_istore (i := 5) (lv' := [(5, .int v559), (0, .retAddr 27), (1, .ref l1), (2, .ref l2), (3, .ref l3), (4, .int l4)]) C dL_law_1715 (by decide) rfl ?_
      refine q_aload_n 3 C dL_law_1717 rfl ?_
      refine q_sload_n 1 C dL_law_1718 rfl ?_
      refine q_iload 5 C dL_law_1719 rfl ?_
      refine q_iconst (v := (1 : Int32)) C dL_law_1721 (by decide) ?_
      refine q_iadd C dL_law_1722 ?_
      obtain ⟨v560, e561, h⟩ := bindE h
      refine q_sald C hsc e561 dL_law_1723 ?_
      obtain ⟨e562, h⟩ := ckOE h
      obtain ⟨v565, M564, e563, h⟩ := bd2E h
      refine q_callV (v := some (.int v565)) [.int v560] C hRO lk_RL_240 vk_X9_round e562 rfl rfl rfl (Nat.le_of_ble_eq_true rfl) (by decide) (by decide) dL_law_1724 (k_X9_round X.1.2.1 hl X.2.2.1 l2 v560 M558 _ e563) ?_
      refine q_istore (i := 6) (lv' := [(6, .int v565), (5, .int v559), (0, .retAddr 27), (1, .ref l1), (2, .ref l2), (3, .ref l3), (4, .int l4)]) C dL_law_1727 (by decide) rfl ?_
      refine q_aload_n 4 C dL_law_1729 rfl ?_
      obtain ⟨e566, h⟩ := ckOE h
      obtain ⟨v568, e567, h⟩ := bindE h
      refine q_callV (v := some (.int v568)) [] C hRO lk_RL_156 vk_X9_thrown e566 rfl rfl rfl (Nat.le_of_ble_eq_true rfl) (by decide) (by decide) dL_law_1730 (k_X9_thrown X.1.2.1 hl X.2.2.1 l2 M564 _ e567) ?_
      refine q_iload 1 C dL_law_1733 rfl ?_
      refine q_icmp_eq (tgt := 1740) C dL_law_1735 (by decide) (fun c569 => ?_) (fun c569 => ?_)
      · have h := ifT c569 h
        refine q_iload 1 C dL_law_1740 rfl ?_
        refine q_if_ne (tgt := 1757) C dL_law_1742 (by decide) (fun c570 => ?_) (fun c570 => ?_)
        · have h := ifF c570 h
          refine q_goto (tgt := 3015) C dL_law_1757 (by decide) ?_
          refine q_iinc 6 (v := (l4 + (6 : Int32))) (lv' := [(4, .int (l4 + (6 : Int32))), (6, .int v565), (5, .int v559), (0, .retAddr 27), (1, .ref l1), (2, .ref l2), (3, .ref l3)]) C dL_law_3015 rfl rfl (by decide) rfl ?_
          refine q_goto (tgt := 23) C dL_law_3018 (by decide) ?_
          exact q_sub (lv' := [(0, .retAddr 27), (1, .ref l1), (2, .ref l2), (3, .ref l3), (4, .int (l4 + (6 : Int32)))]) [3, 4, 5, 6, 0] rfl (kc ((l4 + (6 : Int32)), M564) (someI h))
        · have h := ifT c570 h
          refine q_aload_n 5 C dL_law_1745 rfl ?_
          refine q_iconst (v := (0 : Int32)) C dL_law_1746 (by decide) ?_
          obtain ⟨v571, e572, h⟩ := bindE h
          refine q_laload C e572 dL_law_1747 ?_
          refine q_iload 0 C dL_law_1748 rfl ?_
          refine q_i2l C dL_law_1750 ?_
          refine q_lcmp C dL_law_1751 ?_
          refine q_if_eq (tgt := 1757) C dL_law_1752 (by decide) (fun c573 => ?_) (fun c573 => ?_)
          · have h := ifT c573 h
            refine q_goto (tgt := 3015) C dL_law_1757 (by decide) ?_
            refine q_iinc 6 (v := (l4 + (6 : Int32))) (lv' := [(4, .int (l4 + (6 : Int32))), (6, .int v565), (5, .int v559), (0, .retAddr 27), (1, .ref l1), (2, .ref l2), (3, .ref l3)]) C dL_law_3015 rfl rfl (by decide) rfl ?_
            refine q_goto (tgt := 23) C dL_law_3018 (by decide) ?_
            exact q_sub (lv' := [(0, .retAddr 27), (1, .ref l1), (2, .ref l2), (3, .ref l3), (4, .int (l4 + (6 : Int32)))]) [3, 4, 5, 6, 0] rfl (kc ((l4 + (6 : Int32)), M564) (someI h))
          · have h := ifF c573 h
            refine q_iconst (v := (0 : Int32)) C dL_law_1755 (by decide) ?_
            exact q_lawret C (kf _ (someI h)) dL_law_1756
      · have h := ifF c569 h
        refine q_iconst (v := (0 : Int32)) C dL_law_1738 (by decide) ?_
        exact q_lawret C (kf _ (someI h)) dL_law_1739
    have h := ifF c554 h
    by_cases c574 : (v14 &&& (63 : Int32)) = (27 : Int32)
    · have h := ifT c574 h
      refine q_tableIn (off := 1720) (tgt := 1760) C dL_law_40 (by rw [c574]; decide) (by rw [c574]; decide) (by rw [c574]; rfl) (by decide) ?_
      refine q_aload_n 1 C dL_law_1760 rfl ?_
      refine q_sload_n 0 C dL_law_1761 rfl ?_
      refine q_iload 4 C dL_law_1762 rfl ?_
      refine q_iconst (v := (1 : Int32)) C dL_law_1764 (by decide) ?_
      refine q_iadd C dL_law_1765 ?_
      obtain ⟨v575, e576, h⟩ := bindE h
      refine q_sald C hsc e576 dL_law_1766 ?_
      refine q_sload_n 0 C dL_law_1767 rfl ?_
      refine q_iload 4 C dL_law_1768 rfl ?_
      refine q_iconst (v := (2 : Int32)) C dL_law_1770 (by decide) ?_
      refine q_iadd C dL_law_1771 ?_
      obtain ⟨v577, e578, h⟩ := bindE h
      refine q_sald C hsc e578 dL_law_1772 ?_
      refine q_sload_n 0 C dL_law_1773 rfl ?_
      refine q_iload 4 C dL_law_1774 rfl ?_
      refine q_iconst (v := (3 : Int32)) C dL_law_1776 (by decide) ?_
      refine q_iadd C dL_law_1777 ?_
      obtain ⟨v579, e580, h⟩ := bindE h
      refine q_sald C hsc e580 dL_law_1778 ?_
      refine q_aload_n 3 C dL_law_1779 rfl ?_
      obtain ⟨v583, M582, e581, h⟩ := bd2E h
      refine q_callSH (v := some (.int v583)) [.ref l1, .int v575, .int v577, .int v579, .ref l3] C hRO lkh_RL_241 sk_L_see rfl rfl (Nat.le_of_ble_eq_true rfl) (by decide) (by decide) dL_law_1780 (k_L_see X.1.2.1 hl X.2.2.1 l1 v575 v577 v579 l3 M _ e581) ?_
      refine q_istore (i := 5) (lv' := [(5, .int v583), (0, .retAddr 27), (1, .ref l1), (2, .ref l2), (3, .ref l3), (4, .int l4)]) C dL_law_1783 (by decide) rfl ?_
      refine q_aload_n 3 C dL_law_1785 rfl ?_
      refine q_sload_n 1 C dL_law_1786 rfl ?_
      refine q_iload 5 C dL_law_1787 rfl ?_
      refine q_iconst (v := (1 : Int32)) C dL_law_1789 (by decide) ?_
      refine q_iadd C dL_law_1790 ?_
      obtain ⟨v584, e585, h⟩ := bindE h
      refine q_sald C hsc e585 dL_law_1791 ?_
      refine q_sload_n 1 C dL_law_1792 rfl ?_
      refine q_iload 5 C dL_law_1793 rfl ?_
      refine q_iconst (v := (2 : Int32)) C dL_law_1795 (by decide) ?_
      refine q_iadd C dL_law_1796 ?_
      obtain ⟨v586, e587, h⟩ := bindE h
      refine q_sald C hsc e587 dL_law_1797 ?_
      refine q_sload_n 1 C dL_law_1798 rfl ?_
      refine q_iload 5 C dL_law_1799 rfl ?_
      refine q_iconst (v := (3 : Int32)) C dL_law_1801 (by decide) ?_
      refine q_iadd C dL_law_1802 ?_
      obtain ⟨v588, e589, h⟩ := bindE h
      refine q_sald C hsc e589 dL_law_1803 ?_
      obtain ⟨e590, h⟩ := ckOE h
      obtain ⟨v593, M592, e591, h⟩ := bd2E h
      refine q_callV (v := some (.int v593)) [.int v584, .int v586, .int v588] C hRO lk_RL_243 vk_X9_see e590 rfl rfl rfl (Nat.le_of_ble_eq_true rfl) (by decide) (by decide) dL_law_1804 (k_X9_see X.1.2.1 hl X.2.2.1 l2 v584 v586 v588 M582 _ e591) ?_
      refine q_istore (i := 6) (lv' := [(6, .int v593), (5, .int v583), (0, .retAddr 27), (1, .ref l1), (2, .ref l2), (3, .ref l3), (4, .int l4)]) C dL_law_1807 (by decide) rfl ?_
      refine q_aload_n 4 C dL_law_1809 rfl ?_
      obtain ⟨e594, h⟩ := ckOE h
      obtain ⟨v596, e595, h⟩ := bindE h
      refine q_callV (v := some (.int v596)) [] C hRO lk_RL_156 vk_X9_thrown e594 rfl rfl rfl (Nat.le_of_ble_eq_true rfl) (by decide) (by decide) dL_law_1810 (k_X9_thrown X.1.2.1 hl X.2.2.1 l2 M592 _ e595) ?_
      refine q_iload 1 C dL_law_1813 rfl ?_
      refine q_icmp_eq (tgt := 1820) C dL_law_1815 (by decide) (fun c597 => ?_) (fun c597 => ?_)
      · have h := ifT c597 h
        refine q_iload 1 C dL_law_1820 rfl ?_
        refine q_if_ne (tgt := 1837) C dL_law_1822 (by decide) (fun c598 => ?_) (fun c598 => ?_)
        · have h := ifF c598 h
          refine q_goto (tgt := 3015) C dL_law_1837 (by decide) ?_
          refine q_iinc 6 (v := (l4 + (6 : Int32))) (lv' := [(4, .int (l4 + (6 : Int32))), (6, .int v593), (5, .int v583), (0, .retAddr 27), (1, .ref l1), (2, .ref l2), (3, .ref l3)]) C dL_law_3015 rfl rfl (by decide) rfl ?_
          refine q_goto (tgt := 23) C dL_law_3018 (by decide) ?_
          exact q_sub (lv' := [(0, .retAddr 27), (1, .ref l1), (2, .ref l2), (3, .ref l3), (4, .int (l4 + (6 : Int32)))]) [3, 4, 5, 6, 0] rfl (kc ((l4 + (6 : Int32)), M592) (someI h))
        · have h := ifT c598 h
          refine q_aload_n 5 C dL_law_1825 rfl ?_
          refine q_iconst (v := (0 : Int32)) C dL_law_1826 (by decide) ?_
          obtain ⟨v599, e600, h⟩ := bindE h
          refine q_laload C e600 dL_law_1827 ?_
          refine q_iload 0 C dL_law_1828 rfl ?_
          refine q_i2l C dL_law_1830 ?_
          refine q_lcmp C dL_law_1831 ?_
          refine q_if_eq (tgt := 1837) C dL_law_1832 (by decide) (fun c601 => ?_) (fun c601 => ?_)
          · have h := ifT c601 h
            refine q_goto (tgt := 3015) C dL_law_1837 (by decide) ?_
            refine q_iinc 6 (v := (l4 + (6 : Int32))) (lv' := [(4, .int (l4 + (6 : Int32))), (6, .int v593), (5, .int v583), (0, .retAddr 27), (1, .ref l1), (2, .ref l2), (3, .ref l3)]) C dL_law_3015 rfl rfl (by decide) rfl ?_
            refine q_goto (tgt := 23) C dL_law_3018 (by decide) ?_
            exact q_sub (lv' := [(0, .retAddr 27), (1, .ref l1), (2, .ref l2), (3, .ref l3), (4, .int (l4 + (6 : Int32)))]) [3, 4, 5, 6, 0] rfl (kc ((l4 + (6 : Int32)), M592) (someI h))
          · have h := ifF c601 h
            refine q_iconst (v := (0 : Int32)) C dL_law_1835 (by decide) ?_
            exact q_lawret C (kf _ (someI h)) dL_law_1836
      · have h := ifF c597 h
        refine q_iconst (v := (0 : Int32)) C dL_law_1818 (by decide) ?_
        exact q_lawret C (kf _ (someI h)) dL_law_1819
    have h := ifF c574 h
    by_cases c602 : (v14 &&& (63 : Int32)) = (28 : Int32)
    · have h := ifT c602 h
      refine q_tableIn (off := 1800) (tgt := 1840) C dL_law_40 (by rw [c602]; decide) (by rw [c602]; decide) (by rw [c602]; rfl) (by decide) ?_
      refine q_aload_n 1 C dL_law_1840 rfl ?_
      obtain ⟨e603, h⟩ := ckOE h
      obtain ⟨M605, e604, h⟩ := bindE h
      refine q_callV (v := none) [] C hRO lk_RL_244 vk_X8_forget e603 rfl rfl rfl (Nat.le_of_ble_eq_true rfl) (by decide) (by decide) dL_law_1841 (k_X8_forget X.1.2.1 hl X.2.2.1 l1 M _ e604) ?_
      refine q_aload_n 2 C dL_law_1844 rfl ?_
      obtain ⟨e607, h⟩ := ckOE h
      obtain ⟨M609, e608, h⟩ := bindE h
      refine q_callV (v := none) [] C hRO lk_RL_247 vk_X9_forget e607 rfl rfl rfl (Nat.le_of_ble_eq_true rfl) (by decide) (by decide) dL_law_1845 (k_X9_forget X.1.2.1 hl X.2.2.1 l2 M605 _ e608) ?_
      refine q_goto (tgt := 3015) C dL_law_1848 (by decide) ?_
      refine q_iinc 4 (v := (l4 + (6 : Int32))) (lv' := [(4, .int (l4 + (6 : Int32))), (0, .retAddr 27), (1, .ref l1), (2, .ref l2), (3, .ref l3)]) C dL_law_3015 rfl rfl (by decide) rfl ?_
      refine q_goto (tgt := 23) C dL_law_3018 (by decide) ?_
      exact q_sub (lv' := [(0, .retAddr 27), (1, .ref l1), (2, .ref l2), (3, .ref l3), (4, .int (l4 + (6 : Int32)))]) [1, 2, 3, 4, 0] rfl (kc ((l4 + (6 : Int32)), M609) (someI h))
    have h := ifF c602 h
    by_cases c611 : (v14 &&& (63 : Int32)) = (29 : Int32)
    · have h := ifT c611 h
      refine q_tableIn (off := 1811) (tgt := 1851) C dL_law_40 (by rw [c611]; decide) (by rw [c611]; decide) (by rw [c611]; rfl) (by decide) ?_
      refine q_aload_n 1 C dL_law_1851 rfl ?_
      refine q_sload_n 0 C dL_law_1852 rfl ?_
      refine q_iload 4 C dL_law_1853 rfl ?_
      refine q_iconst (v := (1 : Int32)) C dL_law_1855 (by decide) ?_
      refine q_iadd C dL_law_1856 ?_
      obtain ⟨v612, e613, h⟩ := bindE h
      refine q_sald C hsc e613 dL_law_1857 ?_
      refine q_aload_n 3 C dL_law_1858 rfl ?_
      obtain ⟨v616, M615, e614, h⟩ := bd2E h
      refine q_callSH (v := some (.int v616)) [.ref l1, .int v612, .ref l3] C hRO lkh_RL_248 sk_L_large rfl rfl (Nat.le_of_ble_eq_true rfl) (by decide) (by decide) dL_law_1859 (k_L_large X.1.2.1 hl X.2.2.1 l1 v612 l3 M _ e614) ?_
      refine q_istore (i := 5) (lv' := [(5, .int v616), (0, .retAddr 27), (1, .ref l1), (2, .ref l2), (3, .ref l3), (4, .int l4)]) C dL_law_1862 (by decide) rfl ?_
      refine q_aload_n 3 C dL_law_1864 rfl ?_
      refine q_sload_n 1 C dL_law_1865 rfl ?_
      refine q_iload 5 C dL_law_1866 rfl ?_
      refine q_iconst (v := (1 : Int32)) C dL_law_1868 (by decide) ?_
      refine q_iadd C dL_law_1869 ?_
      obtain ⟨v617, e618, h⟩ := bindE h
      refine q_sald C hsc e618 dL_law_1870 ?_
      obtain ⟨e619, h⟩ := ckOE h
      obtain ⟨v622, M621, e620, h⟩ := bd2E h
      refine q_callV (v := some (.int v622)) [.int v617] C hRO lk_RL_250 vk_X9_large e619 rfl rfl rfl (Nat.le_of_ble_eq_true rfl) (by decide) (by decide) dL_law_1871 (k_X9_large X.1.2.1 hl X.2.2.1 l2 v617 M615 _ e620) ?_
      refine q_istore (i := 6) (lv' := [(6, .int v622), (5, .int v616), (0, .retAddr 27), (1, .ref l1), (2, .ref l2), (3, .ref l3), (4, .int l4)]) C dL_law_1874 (by decide) rfl ?_
      refine q_aload_n 4 C dL_law_1876 rfl ?_
      obtain ⟨e623, h⟩ := ckOE h
      obtain ⟨v625, e624, h⟩ := bindE h
      refine q_callV (v := some (.int v625)) [] C hRO lk_RL_156 vk_X9_thrown e623 rfl rfl rfl (Nat.le_of_ble_eq_true rfl) (by decide) (by decide) dL_law_1877 (k_X9_thrown X.1.2.1 hl X.2.2.1 l2 M621 _ e624) ?_
      refine q_iload 1 C dL_law_1880 rfl ?_
      refine q_icmp_eq (tgt := 1887) C dL_law_1882 (by decide) (fun c626 => ?_) (fun c626 => ?_)
      · have h := ifT c626 h
        refine q_iload 1 C dL_law_1887 rfl ?_
        refine q_if_ne (tgt := 1904) C dL_law_1889 (by decide) (fun c627 => ?_) (fun c627 => ?_)
        · have h := ifF c627 h
          refine q_goto (tgt := 3015) C dL_law_1904 (by decide) ?_
          refine q_iinc 6 (v := (l4 + (6 : Int32))) (lv' := [(4, .int (l4 + (6 : Int32))), (6, .int v622), (5, .int v616), (0, .retAddr 27), (1, .ref l1), (2, .ref l2), (3, .ref l3)]) C dL_law_3015 rfl rfl (by decide) rfl ?_
          refine q_goto (tgt := 23) C dL_law_3018 (by decide) ?_
          exact q_sub (lv' := [(0, .retAddr 27), (1, .ref l1), (2, .ref l2), (3, .ref l3), (4, .int (l4 + (6 : Int32)))]) [3, 4, 5, 6, 0] rfl (kc ((l4 + (6 : Int32)), M621) (someI h))
        · have h := ifT c627 h
          refine q_aload_n 5 C dL_law_1892 rfl ?_
          refine q_iconst (v := (0 : Int32)) C dL_law_1893 (by decide) ?_
          obtain ⟨v628, e629, h⟩ := bindE h
          refine q_laload C e629 dL_law_1894 ?_
          refine q_iload 0 C dL_law_1895 rfl ?_
          refine q_i2l C dL_law_1897 ?_
          refine q_lcmp C dL_law_1898 ?_
          refine q_if_eq (tgt := 1904) C dL_law_1899 (by decide) (fun c630 => ?_) (fun c630 => ?_)
          · have h := ifT c630 h
            refine q_goto (tgt := 3015) C dL_law_1904 (by decide) ?_
            refine q_iinc 6 (v := (l4 + (6 : Int32))) (lv' := [(4, .int (l4 + (6 : Int32))), (6, .int v622), (5, .int v616), (0, .retAddr 27), (1, .ref l1), (2, .ref l2), (3, .ref l3)]) C dL_law_3015 rfl rfl (by decide) rfl ?_
            refine q_goto (tgt := 23) C dL_law_3018 (by decide) ?_
            exact q_sub (lv' := [(0, .retAddr 27), (1, .ref l1), (2, .ref l2), (3, .ref l3), (4, .int (l4 + (6 : Int32)))]) [3, 4, 5, 6, 0] rfl (kc ((l4 + (6 : Int32)), M621) (someI h))
          · have h := ifF c630 h
            refine q_iconst (v := (0 : Int32)) C dL_law_1902 (by decide) ?_
            exact q_lawret C (kf _ (someI h)) dL_law_1903
      · have h := ifF c626 h
        refine q_iconst (v := (0 : Int32)) C dL_law_1885 (by decide) ?_
        exact q_lawret C (kf _ (someI h)) dL_law_1886
    have h := ifF c611 h
    by_cases c631 : (v14 &&& (63 : Int32)) = (30 : Int32)
    · have h := ifT c631 h
      refine q_tableIn (off := 1867) (tgt := 1907) C dL_law_40 (by rw [c631]; decide) (by rw [c631]; decide) (by rw [c631]; rfl) (by decide) ?_
      refine q_aload_n 1 C dL_law_1907 rfl ?_
      refine q_sload_n 0 C dL_law_1908 rfl ?_
      refine q_iload 4 C dL_law_1909 rfl ?_
      refine q_iconst (v := (1 : Int32)) C dL_law_1911 (by decide) ?_
      refine q_iadd C dL_law_1912 ?_
      obtain ⟨v632, e633, h⟩ := bindE h
      refine q_sald C hsc e633 dL_law_1913 ?_
      refine q_aload_n 3 C dL_law_1914 rfl ?_
      obtain ⟨v636, M635, e634, h⟩ := bd2E h
      refine q_callSH (v := some (.int v636)) [.ref l1, .int v632, .ref l3] C hRO lkh_RL_251 sk_L_next rfl rfl (Nat.le_of_ble_eq_true rfl) (by decide) (by decide) dL_law_1915 (k_L_next X.1.2.1 hl X.2.2.1 l1 v632 l3 M _ e634) ?_
      refine q_istore (i := 5) (lv' := [(5, .int v636), (0, .retAddr 27), (1, .ref l1), (2, .ref l2), (3, .ref l3), (4, .int l4)]) C dL_law_1918 (by decide) rfl ?_
      refine q_aload_n 3 C dL_law_1920 rfl ?_
      refine q_sload_n 1 C dL_law_1921 rfl ?_
      refine q_iload 5 C dL_law_1922 rfl ?_
      refine q_iconst (v := (1 : Int32)) C dL_law_1924 (by decide) ?_
      refine q_iadd C dL_law_1925 ?_
      obtain ⟨v637, e638, h⟩ := bindE h
      refine q_sald C hsc e638 dL_law_1926 ?_
      obtain ⟨e639, h⟩ := ckOE h
      obtain ⟨v642, M641, e640, h⟩ := bd2E h
      refine q_callV (v := some (.int v642)) [.int v637] C hRO lk_RL_253 vk_X9_next e639 rfl rfl rfl (Nat.le_of_ble_eq_true rfl) (by decide) (by decide) dL_law_1927 (k_X9_next X.1.2.1 hl X.2.2.1 l2 v637 M635 _ e640) ?_
      refine q_istore (i := 6) (lv' := [(6, .int v642), (5, .int v636), (0, .retAddr 27), (1, .ref l1), (2, .ref l2), (3, .ref l3), (4, .int l4)]) C dL_law_1930 (by decide) rfl ?_
      refine q_aload_n 4 C dL_law_1932 rfl ?_
      obtain ⟨e643, h⟩ := ckOE h
      obtain ⟨v645, e644, h⟩ := bindE h
      refine q_callV (v := some (.int v645)) [] C hRO lk_RL_156 vk_X9_thrown e643 rfl rfl rfl (Nat.le_of_ble_eq_true rfl) (by decide) (by decide) dL_law_1933 (k_X9_thrown X.1.2.1 hl X.2.2.1 l2 M641 _ e644) ?_
      refine q_iload 1 C dL_law_1936 rfl ?_
      refine q_icmp_eq (tgt := 1943) C dL_law_1938 (by decide) (fun c646 => ?_) (fun c646 => ?_)
      · have h := ifT c646 h
        refine q_iload 1 C dL_law_1943 rfl ?_
        refine q_if_ne (tgt := 1960) C dL_law_1945 (by decide) (fun c647 => ?_) (fun c647 => ?_)
        · have h := ifF c647 h
          refine q_goto (tgt := 3015) C dL_law_1960 (by decide) ?_
          refine q_iinc 6 (v := (l4 + (6 : Int32))) (lv' := [(4, .int (l4 + (6 : Int32))), (6, .int v642), (5, .int v636), (0, .retAddr 27), (1, .ref l1), (2, .ref l2), (3, .ref l3)]) C dL_law_3015 rfl rfl (by decide) rfl ?_
          refine q_goto (tgt := 23) C dL_law_3018 (by decide) ?_
          exact q_sub (lv' := [(0, .retAddr 27), (1, .ref l1), (2, .ref l2), (3, .ref l3), (4, .int (l4 + (6 : Int32)))]) [3, 4, 5, 6, 0] rfl (kc ((l4 + (6 : Int32)), M641) (someI h))
        · have h := ifT c647 h
          refine q_aload_n 5 C dL_law_1948 rfl ?_
          refine q_iconst (v := (0 : Int32)) C dL_law_1949 (by decide) ?_
          obtain ⟨v648, e649, h⟩ := bindE h
          refine q_laload C e649 dL_law_1950 ?_
          refine q_iload 0 C dL_law_1951 rfl ?_
          refine q_i2l C dL_law_1953 ?_
          refine q_lcmp C dL_law_1954 ?_
          refine q_if_eq (tgt := 1960) C dL_law_1955 (by decide) (fun c650 => ?_) (fun c650 => ?_)
          · have h := ifT c650 h
            refine q_goto (tgt := 3015) C dL_law_1960 (by decide) ?_
            refine q_iinc 6 (v := (l4 + (6 : Int32))) (lv' := [(4, .int (l4 + (6 : Int32))), (6, .int v642), (5, .int v636), (0, .retAddr 27), (1, .ref l1), (2, .ref l2), (3, .ref l3)]) C dL_law_3015 rfl rfl (by decide) rfl ?_
            refine q_goto (tgt := 23) C dL_law_3018 (by decide) ?_
            exact q_sub (lv' := [(0, .retAddr 27), (1, .ref l1), (2, .ref l2), (3, .ref l3), (4, .int (l4 + (6 : Int32)))]) [3, 4, 5, 6, 0] rfl (kc ((l4 + (6 : Int32)), M641) (someI h))
          · have h := ifF c650 h
            refine q_iconst (v := (0 : Int32)) C dL_law_1958 (by decide) ?_
            exact q_lawret C (kf _ (someI h)) dL_law_1959
      · have h := ifF c646 h
        refine q_iconst (v := (0 : Int32)) C dL_law_1941 (by decide) ?_
        exact q_lawret C (kf _ (someI h)) dL_law_1942
    have h := ifF c631 h
    by_cases c651 : (v14 &&& (63 : Int32)) = (31 : Int32)
    · have h := ifT c651 h
      refine q_tableIn (off := 1923) (tgt := 1963) C dL_law_40 (by rw [c651]; decide) (by rw [c651]; decide) (by rw [c651]; rfl) (by decide) ?_
      refine q_aload_n 1 C dL_law_1963 rfl ?_
      refine q_sload_n 0 C dL_law_1964 rfl ?_
      refine q_iload 4 C dL_law_1965 rfl ?_
      refine q_iconst (v := (1 : Int32)) C dL_law_1967 (by decide) ?_
      refine q_iadd C dL_law_1968 ?_
      obtain ⟨v652, e653, h⟩ := bindE h
      refine q_sald C hsc e653 dL_law_1969 ?_
      refine q_sload_n 0 C dL_law_1970 rfl ?_
      refine q_iload 4 C dL_law_1971 rfl ?_
      refine q_iconst (v := (2 : Int32)) C dL_law_1973 (by decide) ?_
      refine q_iadd C dL_law_1974 ?_
      obtain ⟨v654, e655, h⟩ := bindE h
      refine q_sald C hsc e655 dL_law_1975 ?_
      refine q_sload_n 0 C dL_law_1976 rfl ?_
      refine q_iload 4 C dL_law_1977 rfl ?_
      refine q_iconst (v := (3 : Int32)) C dL_law_1979 (by decide) ?_
      refine q_iadd C dL_law_1980 ?_
      obtain ⟨v656, e657, h⟩ := bindE h
      refine q_sald C hsc e657 dL_law_1981 ?_
      refine q_aload_n 3 C dL_law_1982 rfl ?_
      obtain ⟨v660, M659, e658, h⟩ := bd2E h
      refine q_callSH (v := some (.int v660)) [.ref l1, .int v652, .int v654, .int v656, .ref l3] C hRO lkh_RL_254 sk_L_byDamp rfl rfl (Nat.le_of_ble_eq_true rfl) (by decide) (by decide) dL_law_1983 (k_L_byDamp X.1.2.1 hl X.2.2.1 l1 v652 v654 v656 l3 M _ e658) ?_
      refine q_istore (i := 5) (lv' := [(5, .int v660), (0, .retAddr 27), (1, .ref l1), (2, .ref l2), (3, .ref l3), (4, .int l4)]) C dL_law_1986 (by decide) rfl ?_
      refine q_aload_n 3 C dL_law_1988 rfl ?_
      refine q_sload_n 1 C dL_law_1989 rfl ?_
      refine q_iload 5 C dL_law_1990 rfl ?_
      refine q_iconst (v := (1 : Int32)) C dL_law_1992 (by decide) ?_
      refine q_iadd C dL_law_1993 ?_
      obtain ⟨v661, e662, h⟩ := bindE h
      refine q_sald C hsc e662 dL_law_1994 ?_
      refine q_sload_n 1 C dL_law_1995 rfl ?_
      refine q_iload 5 C dL_law_1996 rfl ?_
      refine q_iconst (v := (2 : Int32)) C dL_law_1998 (by decide) ?_
      refine q_iadd C dL_law_1999 ?_
      obtain ⟨v663, e664, h⟩ := bindE h
      refine q_sald C hsc e664 dL_law_2000 ?_
      refine q_sload_n 1 C dL_law_2001 rfl ?_
      refine q_iload 5 C dL_law_2002 rfl ?_
      refine q_iconst (v := (3 : Int32)) C dL_law_2004 (by decide) ?_
      refine q_iadd C dL_law_2005 ?_
      obtain ⟨v665, e666, h⟩ := bindE h
      refine q_sald C hsc e666 dL_law_2006 ?_
      obtain ⟨e667, h⟩ := ckOE h
      obtain ⟨v670, M669, e668, h⟩ := bd2E h
      refine q_callV (v := some (.int v670)) [.int v661, .int v663, .int v665] C hRO lk_RL_256 vk_X9_byDamp e667 rfl rfl rfl (Nat.le_of_ble_eq_true rfl) (by decide) (by decide) dL_law_2007 (k_X9_byDamp X.1.2.1 hl X.2.2.1 l2 v661 v663 v665 M659 _ e668) ?_
      refine q_istore (i := 6) (lv' := [(6, .int v670), (5, .int v660), (0, .retAddr 27), (1, .ref l1), (2, .ref l2), (3, .ref l3), (4, .int l4)]) C dL_law_2010 (by decide) rfl ?_
      refine q_aload_n 4 C dL_law_2012 rfl ?_
      obtain ⟨e671, h⟩ := ckOE h
      obtain ⟨v673, e672, h⟩ := bindE h
      refine q_callV (v := some (.int v673)) [] C hRO lk_RL_156 vk_X9_thrown e671 rfl rfl rfl (Nat.le_of_ble_eq_true rfl) (by decide) (by decide) dL_law_2013 (k_X9_thrown X.1.2.1 hl X.2.2.1 l2 M669 _ e672) ?_
      refine q_iload 1 C dL_law_2016 rfl ?_
      refine q_icmp_eq (tgt := 2023) C dL_law_2018 (by decide) (fun c674 => ?_) (fun c674 => ?_)
      · have h := ifT c674 h
        refine q_iload 1 C dL_law_2023 rfl ?_
        refine q_if_ne (tgt := 2040) C dL_law_2025 (by decide) (fun c675 => ?_) (fun c675 => ?_)
        · have h := ifF c675 h
          refine q_goto (tgt := 3015) C dL_law_2040 (by decide) ?_
          refine q_iinc 6 (v := (l4 + (6 : Int32))) (lv' := [(4, .int (l4 + (6 : Int32))), (6, .int v670), (5, .int v660), (0, .retAddr 27), (1, .ref l1), (2, .ref l2), (3, .ref l3)]) C dL_law_3015 rfl rfl (by decide) rfl ?_
          refine q_goto (tgt := 23) C dL_law_3018 (by decide) ?_
          exact q_sub (lv' := [(0, .retAddr 27), (1, .ref l1), (2, .ref l2), (3, .ref l3), (4, .int (l4 + (6 : Int32)))]) [3, 4, 5, 6, 0] rfl (kc ((l4 + (6 : Int32)), M669) (someI h))
        · have h := ifT c675 h
          refine q_aload_n 5 C dL_law_2028 rfl ?_
          refine q_iconst (v := (0 : Int32)) C dL_law_2029 (by decide) ?_
          obtain ⟨v676, e677, h⟩ := bindE h
          refine q_laload C e677 dL_law_2030 ?_
          refine q_iload 0 C dL_law_2031 rfl ?_
          refine q_i2l C dL_law_2033 ?_
          refine q_lcmp C dL_law_2034 ?_
          refine q_if_eq (tgt := 2040) C dL_law_2035 (by decide) (fun c678 => ?_) (fun c678 => ?_)
          · have h := ifT c678 h
            refine q_goto (tgt := 3015) C dL_law_2040 (by decide) ?_
            refine q_iinc 6 (v := (l4 + (6 : Int32))) (lv' := [(4, .int (l4 + (6 : Int32))), (6, .int v670), (5, .int v660), (0, .retAddr 27), (1, .ref l1), (2, .ref l2), (3, .ref l3)]) C dL_law_3015 rfl rfl (by decide) rfl ?_
            refine q_goto (tgt := 23) C dL_law_3018 (by decide) ?_
            exact q_sub (lv' := [(0, .retAddr 27), (1, .ref l1), (2, .ref l2), (3, .ref l3), (4, .int (l4 + (6 : Int32)))]) [3, 4, 5, 6, 0] rfl (kc ((l4 + (6 : Int32)), M669) (someI h))
          · have h := ifF c678 h
            refine q_iconst (v := (0 : Int32)) C dL_law_2038 (by decide) ?_
            exact q_lawret C (kf _ (someI h)) dL_law_2039
      · have h := ifF c674 h
        refine q_iconst (v := (0 : Int32)) C dL_law_2021 (by decide) ?_
        exact q_lawret C (kf _ (someI h)) dL_law_2022
    have h := ifF c651 h
    by_cases c679 : (v14 &&& (63 : Int32)) = (32 : Int32)
    · have h := ifT c679 h
      refine q_tableIn (off := 2003) (tgt := 2043) C dL_law_40 (by rw [c679]; decide) (by rw [c679]; decide) (by rw [c679]; rfl) (by decide) ?_
      refine q_aload_n 1 C dL_law_2043 rfl ?_
      refine q_sload_n 0 C dL_law_2044 rfl ?_
      refine q_iload 4 C dL_law_2045 rfl ?_
      refine q_iconst (v := (1 : Int32)) C dL_law_2047 (by decide) ?_
      refine q_iadd C dL_law_2048 ?_
      obtain ⟨v680, e681, h⟩ := bindE h
      refine q_sald C hsc e681 dL_law_2049 ?_
      refine q_sload_n 0 C dL_law_2050 rfl ?_
      refine q_iload 4 C dL_law_2051 rfl ?_
      refine q_iconst (v := (2 : Int32)) C dL_law_2053 (by decide) ?_
      refine q_iadd C dL_law_2054 ?_
      obtain ⟨v682, e683, h⟩ := bindE h
      refine q_sald C hsc e683 dL_law_2055 ?_
      refine q_sload_n 0 C dL_law_2056 rfl ?_
      refine q_iload 4 C dL_law_2057 rfl ?_
      refine q_iconst (v := (3 : Int32)) C dL_law_2059 (by decide) ?_
      refine q_iadd C dL_law_2060 ?_
      obtain ⟨v684, e685, h⟩ := bindE h
      refine q_sald C hsc e685 dL_law_2061 ?_
      refine q_sload_n 0 C dL_law_2062 rfl ?_
      refine q_iload 4 C dL_law_2063 rfl ?_
      refine q_iconst (v := (4 : Int32)) C dL_law_2065 (by decide) ?_
      refine q_iadd C dL_law_2066 ?_
      obtain ⟨v686, e687, h⟩ := bindE h
      refine q_sald C hsc e687 dL_law_2067 ?_
      refine q_aload_n 3 C dL_law_2068 rfl ?_
      obtain ⟨v690, M689, e688, h⟩ := bd2E h
      refine q_callSH (v := some (.int v690)) [.ref l1, .int v680, .int v682, .int v684, .int v686, .ref l3] C hRO lkh_RL_257 sk_L_game rfl rfl (Nat.le_of_ble_eq_true rfl) (by decide) (by decide) dL_law_2069 (k_L_game X.1.2.1 hl X.2.2.1 l1 v680 v682 v684 v686 l3 M _ e688) ?_
      refine q_istore (i := 5) (lv' := [(5, .int v690), (0, .retAddr 27), (1, .ref l1), (2, .ref l2), (3, .ref l3), (4, .int l4)]) C dL_law_2072 (by decide) rfl ?_
      refine q_aload_n 3 C dL_law_2074 rfl ?_
      refine q_sload_n 1 C dL_law_2075 rfl ?_
      refine q_iload 5 C dL_law_2076 rfl ?_
      refine q_iconst (v := (1 : Int32)) C dL_law_2078 (by decide) ?_
      refine q_iadd C dL_law_2079 ?_
      obtain ⟨v691, e692, h⟩ := bindE h
      refine q_sald C hsc e692 dL_law_2080 ?_
      refine q_sload_n 1 C dL_law_2081 rfl ?_
      refine q_iload 5 C dL_law_2082 rfl ?_
      refine q_iconst (v := (2 : Int32)) C dL_law_2084 (by decide) ?_
      refine q_iadd C dL_law_2085 ?_
      obtain ⟨v693, e694, h⟩ := bindE h
      refine q_sald C hsc e694 dL_law_2086 ?_
      refine q_sload_n 1 C dL_law_2087 rfl ?_
      refine q_iload 5 C dL_law_2088 rfl ?_
      refine q_iconst (v := (3 : Int32)) C dL_law_2090 (by decide) ?_
      refine q_iadd C dL_law_2091 ?_
      obtain ⟨v695, e696, h⟩ := bindE h
      refine q_sald C hsc e696 dL_law_2092 ?_
      refine q_sload_n 1 C dL_law_2093 rfl ?_
      refine q_iload 5 C dL_law_2094 rfl ?_
      refine q_iconst (v := (4 : Int32)) C dL_law_2096 (by decide) ?_
      refine q_iadd C dL_law_2097 ?_
      obtain ⟨v697, e698, h⟩ := bindE h
      refine q_sald C hsc e698 dL_law_2098 ?_
      obtain ⟨e699, h⟩ := ckOE h
      obtain ⟨v702, M701, e700, h⟩ := bd2E h
      refine q_callV (v := some (.int v702)) [.int v691, .int v693, .int v695, .int v697] C hRO lk_RL_260 vk_X9_game e699 rfl rfl rfl (Nat.le_of_ble_eq_true rfl) (by decide) (by decide) dL_law_2099 (k_X9_game X.1.2.1 hl X.2.2.1 l2 v691 v693 v695 v697 M689 _ e700) ?_
      refine q_istore (i := 6) (lv' := [(6, .int v702), (5, .int v690), (0, .retAddr 27), (1, .ref l1), (2, .ref l2), (3, .ref l3), (4, .int l4)]) C dL_law_2102 (by decide) rfl ?_
      refine q_aload_n 4 C dL_law_2104 rfl ?_
      obtain ⟨e703, h⟩ := ckOE h
      obtain ⟨v705, e704, h⟩ := bindE h
      refine q_callV (v := some (.int v705)) [] C hRO lk_RL_156 vk_X9_thrown e703 rfl rfl rfl (Nat.le_of_ble_eq_true rfl) (by decide) (by decide) dL_law_2105 (k_X9_thrown X.1.2.1 hl X.2.2.1 l2 M701 _ e704) ?_
      refine q_iload 1 C dL_law_2108 rfl ?_
      refine q_icmp_eq (tgt := 2115) C dL_law_2110 (by decide) (fun c706 => ?_) (fun c706 => ?_)
      · have h := ifT c706 h
        refine q_iload 1 C dL_law_2115 rfl ?_
        refine q_if_ne (tgt := 2132) C dL_law_2117 (by decide) (fun c707 => ?_) (fun c707 => ?_)
        · have h := ifF c707 h
          refine q_goto (tgt := 3015) C dL_law_2132 (by decide) ?_
          refine q_iinc 6 (v := (l4 + (6 : Int32))) (lv' := [(4, .int (l4 + (6 : Int32))), (6, .int v702), (5, .int v690), (0, .retAddr 27), (1, .ref l1), (2, .ref l2), (3, .ref l3)]) C dL_law_3015 rfl rfl (by decide) rfl ?_
          refine q_goto (tgt := 23) C dL_law_3018 (by decide) ?_
          exact q_sub (lv' := [(0, .retAddr 27), (1, .ref l1), (2, .ref l2), (3, .ref l3), (4, .int (l4 + (6 : Int32)))]) [3, 4, 5, 6, 0] rfl (kc ((l4 + (6 : Int32)), M701) (someI h))
        · have h := ifT c707 h
          refine q_aload_n 5 C dL_law_2120 rfl ?_
          refine q_iconst (v := (0 : Int32)) C dL_law_2121 (by decide) ?_
          obtain ⟨v708, e709, h⟩ := bindE h
          refine q_laload C e709 dL_law_2122 ?_
          refine q_iload 0 C dL_law_2123 rfl ?_
          refine q_i2l C dL_law_2125 ?_
          refine q_lcmp C dL_law_2126 ?_
          refine q_if_eq (tgt := 2132) C dL_law_2127 (by decide) (fun c710 => ?_) (fun c710 => ?_)
          · have h := ifT c710 h
            refine q_goto (tgt := 3015) C dL_law_2132 (by decide) ?_
            refine q_iinc 6 (v := (l4 + (6 : Int32))) (lv' := [(4, .int (l4 + (6 : Int32))), (6, .int v702), (5, .int v690), (0, .retAddr 27), (1, .ref l1), (2, .ref l2), (3, .ref l3)]) C dL_law_3015 rfl rfl (by decide) rfl ?_
            refine q_goto (tgt := 23) C dL_law_3018 (by decide) ?_
            exact q_sub (lv' := [(0, .retAddr 27), (1, .ref l1), (2, .ref l2), (3, .ref l3), (4, .int (l4 + (6 : Int32)))]) [3, 4, 5, 6, 0] rfl (kc ((l4 + (6 : Int32)), M701) (someI h))
          · have h := ifF c710 h
            refine q_iconst (v := (0 : Int32)) C dL_law_2130 (by decide) ?_
            exact q_lawret C (kf _ (someI h)) dL_law_2131
      · have h := ifF c706 h
        refine q_iconst (v := (0 : Int32)) C dL_law_2113 (by decide) ?_
        exact q_lawret C (kf _ (someI h)) dL_law_2114
    have h := ifF c679 h
    by_cases c711 : (v14 &&& (63 : Int32)) = (33 : Int32)
    · have h := ifT c711 h
      refine q_tableIn (off := 2095) (tgt := 2135) C dL_law_40 (by rw [c711]; decide) (by rw [c711]; decide) (by rw [c711]; rfl) (by decide) ?_
      refine q_aload_n 1 C dL_law_2135 rfl ?_
      refine q_sload_n 0 C dL_law_2136 rfl ?_
      refine q_iload 4 C dL_law_2137 rfl ?_
      refine q_iconst (v := (1 : Int32)) C dL_law_2139 (by decide) ?_
      refine q_iadd C dL_law_2140 ?_
      obtain ⟨v712, e713, h⟩ := bindE h
      refine q_sald C hsc e713 dL_law_2141 ?_
      refine q_sload_n 0 C dL_law_2142 rfl ?_
      refine q_iload 4 C dL_law_2143 rfl ?_
      refine q_iconst (v := (2 : Int32)) C dL_law_2145 (by decide) ?_
      refine q_iadd C dL_law_2146 ?_
      obtain ⟨v714, e715, h⟩ := bindE h
      refine q_sald C hsc e715 dL_law_2147 ?_
      refine q_sload_n 0 C dL_law_2148 rfl ?_
      refine q_iload 4 C dL_law_2149 rfl ?_
      refine q_iconst (v := (3 : Int32)) C dL_law_2151 (by decide) ?_
      refine q_iadd C dL_law_2152 ?_
      obtain ⟨v716, e717, h⟩ := bindE h
      refine q_sald C hsc e717 dL_law_2153 ?_
      refine q_aload_n 3 C dL_law_2154 rfl ?_
      obtain ⟨v720, M719, e718, h⟩ := bd2E h
      refine q_callSH (v := some (.int v720)) [.ref l1, .int v712, .int v714, .int v716, .ref l3] C hRO lkh_RL_261 sk_L_years rfl rfl (Nat.le_of_ble_eq_true rfl) (by decide) (by decide) dL_law_2155 (k_L_years X.1.2.1 hl X.2.2.1 l1 v712 v714 v716 l3 M _ e718) ?_
      refine q_istore (i := 5) (lv' := [(5, .int v720), (0, .retAddr 27), (1, .ref l1), (2, .ref l2), (3, .ref l3), (4, .int l4)]) C dL_law_2158 (by decide) rfl ?_
      refine q_aload_n 3 C dL_law_2160 rfl ?_
      refine q_sload_n 1 C dL_law_2161 rfl ?_
      refine q_iload 5 C dL_law_2162 rfl ?_
      refine q_iconst (v := (1 : Int32)) C dL_law_2164 (by decide) ?_
      refine q_iadd C dL_law_2165 ?_
      obtain ⟨v721, e722, h⟩ := bindE h
      refine q_sald C hsc e722 dL_law_2166 ?_
      refine q_sload_n 1 C dL_law_2167 rfl ?_
      refine q_iload 5 C dL_law_2168 rfl ?_
      refine q_iconst (v := (2 : Int32)) C dL_law_2170 (by decide) ?_
      refine q_iadd C dL_law_2171 ?_
      obtain ⟨v723, e724, h⟩ := bindE h
      refine q_sald C hsc e724 dL_law_2172 ?_
      refine q_sload_n 1 C dL_law_2173 rfl ?_
      refine q_iload 5 C dL_law_2174 rfl ?_
      refine q_iconst (v := (3 : Int32)) C dL_law_2176 (by decide) ?_
      refine q_iadd C dL_law_2177 ?_
      obtain ⟨v725, e726, h⟩ := bindE h
      refine q_sald C hsc e726 dL_law_2178 ?_
      obtain ⟨e727, h⟩ := ckOE h
      obtain ⟨v730, M729, e728, h⟩ := bd2E h
      refine q_callV (v := some (.int v730)) [.int v721, .int v723, .int v725] C hRO lk_RL_263 vk_X9_years e727 rfl rfl rfl (Nat.le_of_ble_eq_true rfl) (by decide) (by decide) dL_law_2179 (k_X9_years X.1.2.1 hl X.2.2.1 l2 v721 v723 v725 M719 _ e728) ?_
      refine q_istore (i := 6) (lv' := [(6, .int v730), (5, .int v720), (0, .retAddr 27), (1, .ref l1), (2, .ref l2), (3, .ref l3), (4, .int l4)]) C dL_law_2182 (by decide) rfl ?_
      refine q_aload_n 4 C dL_law_2184 rfl ?_
      obtain ⟨e731, h⟩ := ckOE h
      obtain ⟨v733, e732, h⟩ := bindE h
      refine q_callV (v := some (.int v733)) [] C hRO lk_RL_156 vk_X9_thrown e731 rfl rfl rfl (Nat.le_of_ble_eq_true rfl) (by decide) (by decide) dL_law_2185 (k_X9_thrown X.1.2.1 hl X.2.2.1 l2 M729 _ e732) ?_
      refine q_iload 1 C dL_law_2188 rfl ?_
      refine q_icmp_eq (tgt := 2195) C dL_law_2190 (by decide) (fun c734 => ?_) (fun c734 => ?_)
      · have h := ifT c734 h
        refine q_iload 1 C dL_law_2195 rfl ?_
        refine q_if_ne (tgt := 2212) C dL_law_2197 (by decide) (fun c735 => ?_) (fun c735 => ?_)
        · have h := ifF c735 h
          refine q_goto (tgt := 3015) C dL_law_2212 (by decide) ?_
          refine q_iinc 6 (v := (l4 + (6 : Int32))) (lv' := [(4, .int (l4 + (6 : Int32))), (6, .int v730), (5, .int v720), (0, .retAddr 27), (1, .ref l1), (2, .ref l2), (3, .ref l3)]) C dL_law_3015 rfl rfl (by decide) rfl ?_
          refine q_goto (tgt := 23) C dL_law_3018 (by decide) ?_
          exact q_sub (lv' := [(0, .retAddr 27), (1, .ref l1), (2, .ref l2), (3, .ref l3), (4, .int (l4 + (6 : Int32)))]) [3, 4, 5, 6, 0] rfl (kc ((l4 + (6 : Int32)), M729) (someI h))
        · have h := ifT c735 h
          refine q_aload_n 5 C dL_law_2200 rfl ?_
          refine q_iconst (v := (0 : Int32)) C dL_law_2201 (by decide) ?_
          obtain ⟨v736, e737, h⟩ := bindE h
          refine q_laload C e737 dL_law_2202 ?_
          refine q_iload 0 C dL_law_2203 rfl ?_
          refine q_i2l C dL_law_2205 ?_
          refine q_lcmp C dL_law_2206 ?_
          refine q_if_eq (tgt := 2212) C dL_law_2207 (by decide) (fun c738 => ?_) (fun c738 => ?_)
          · have h := ifT c738 h
            refine q_goto (tgt := 3015) C dL_law_2212 (by decide) ?_
            refine q_iinc 6 (v := (l4 + (6 : Int32))) (lv' := [(4, .int (l4 + (6 : Int32))), (6, .int v730), (5, .int v720), (0, .retAddr 27), (1, .ref l1), (2, .ref l2), (3, .ref l3)]) C dL_law_3015 rfl rfl (by decide) rfl ?_
            refine q_goto (tgt := 23) C dL_law_3018 (by decide) ?_
            exact q_sub (lv' := [(0, .retAddr 27), (1, .ref l1), (2, .ref l2), (3, .ref l3), (4, .int (l4 + (6 : Int32)))]) [3, 4, 5, 6, 0] rfl (kc ((l4 + (6 : Int32)), M729) (someI h))
          · have h := ifF c738 h
            refine q_iconst (v := (0 : Int32)) C dL_law_2210 (by decide) ?_
            exact q_lawret C (kf _ (someI h)) dL_law_2211
      · have h := ifF c734 h
        refine q_iconst (v := (0 : Int32)) C dL_law_2193 (by decide) ?_
        exact q_lawret C (kf _ (someI h)) dL_law_2194
    have h := ifF c711 h
    by_cases c739 : (v14 &&& (63 : Int32)) = (34 : Int32)
    · have h := ifT c739 h
      refine q_tableIn (off := 2175) (tgt := 2215) C dL_law_40 (by rw [c739]; decide) (by rw [c739]; decide) (by rw [c739]; rfl) (by decide) ?_
      refine q_aload_n 1 C dL_law_2215 rfl ?_
      refine q_sload_n 0 C dL_law_2216 rfl ?_
      refine q_iload 4 C dL_law_2217 rfl ?_
      refine q_iconst (v := (1 : Int32)) C dL_law_2219 (by decide) ?_
      refine q_iadd C dL_law_2220 ?_
      obtain ⟨v740, e741, h⟩ := bindE h
      refine q_sald C hsc e741 dL_law_2221 ?_
      refine q_aload_n 3 C dL_law_2222 rfl ?_
      obtain ⟨v744, M743, e742, h⟩ := bd2E h
      refine q_callSH (v := some (.int v744)) [.ref l1, .int v740, .ref l3] C hRO lkh_RL_264 sk_L_heirs rfl rfl (Nat.le_of_ble_eq_true rfl) (by decide) (by decide) dL_law_2223 (k_L_heirs X.1.2.1 hl X.2.2.1 l1 v740 l3 M _ e742) ?_
      refine q_istore (i := 5) (lv' := [(5, .int v744), (0, .retAddr 27), (1, .ref l1), (2, .ref l2), (3, .ref l3), (4, .int l4)]) C dL_law_2226 (by decide) rfl ?_
      refine q_aload_n 3 C dL_law_2228 rfl ?_
      refine q_sload_n 1 C dL_law_2229 rfl ?_
      refine q_iload 5 C dL_law_2230 rfl ?_
      refine q_iconst (v := (1 : Int32)) C dL_law_2232 (by decide) ?_
      refine q_iadd C dL_law_2233 ?_
      obtain ⟨v745, e746, h⟩ := bindE h
      refine q_sald C hsc e746 dL_law_2234 ?_
      obtain ⟨e747, h⟩ := ckOE h
      obtain ⟨v750, M749, e748, h⟩ := bd2E h
      refine q_callV (v := some (.int v750)) [.int v745] C hRO lk_RL_266 vk_X9_heirs e747 rfl rfl rfl (Nat.le_of_ble_eq_true rfl) (by decide) (by decide) dL_law_2235 (k_X9_heirs X.1.2.1 hl X.2.2.1 l2 v745 M743 _ e748) ?_
      refine q_istore (i := 6) (lv' := [(6, .int v750), (5, .int v744), (0, .retAddr 27), (1, .ref l1), (2, .ref l2), (3, .ref l3), (4, .int l4)]) C dL_law_2238 (by decide) rfl ?_
      refine q_aload_n 4 C dL_law_2240 rfl ?_
      obtain ⟨e751, h⟩ := ckOE h
      obtain ⟨v753, e752, h⟩ := bindE h
      refine q_callV (v := some (.int v753)) [] C hRO lk_RL_156 vk_X9_thrown e751 rfl rfl rfl (Nat.le_of_ble_eq_true rfl) (by decide) (by decide) dL_law_2241 (k_X9_thrown X.1.2.1 hl X.2.2.1 l2 M749 _ e752) ?_
      refine q_iload 1 C dL_law_2244 rfl ?_
      refine q_icmp_eq (tgt := 2251) C dL_law_2246 (by decide) (fun c754 => ?_) (fun c754 => ?_)
      · have h := ifT c754 h
        refine q_iload 1 C dL_law_2251 rfl ?_
        refine q_if_ne (tgt := 2268) C dL_law_2253 (by decide) (fun c755 => ?_) (fun c755 => ?_)
        · have h := ifF c755 h
          refine q_goto (tgt := 3015) C dL_law_2268 (by decide) ?_
          refine q_iinc 6 (v := (l4 + (6 : Int32))) (lv' := [(4, .int (l4 + (6 : Int32))), (6, .int v750), (5, .int v744), (0, .retAddr 27), (1, .ref l1), (2, .ref l2), (3, .ref l3)]) C dL_law_3015 rfl rfl (by decide) rfl ?_
          refine q_goto (tgt := 23) C dL_law_3018 (by decide) ?_
          exact q_sub (lv' := [(0, .retAddr 27), (1, .ref l1), (2, .ref l2), (3, .ref l3), (4, .int (l4 + (6 : Int32)))]) [3, 4, 5, 6, 0] rfl (kc ((l4 + (6 : Int32)), M749) (someI h))
        · have h := ifT c755 h
          refine q_aload_n 5 C dL_law_2256 rfl ?_
          refine q_iconst (v := (0 : Int32)) C dL_law_2257 (by decide) ?_
          obtain ⟨v756, e757, h⟩ := bindE h
          refine q_laload C e757 dL_law_2258 ?_
          refine q_iload 0 C dL_law_2259 rfl ?_
          refine q_i2l C dL_law_2261 ?_
          refine q_lcmp C dL_law_2262 ?_
          refine q_if_eq (tgt := 2268) C dL_law_2263 (by decide) (fun c758 => ?_) (fun c758 => ?_)
          · have h := ifT c758 h
            refine q_goto (tgt := 3015) C dL_law_2268 (by decide) ?_
            refine q_iinc 6 (v := (l4 + (6 : Int32))) (lv' := [(4, .int (l4 + (6 : Int32))), (6, .int v750), (5, .int v744), (0, .retAddr 27), (1, .ref l1), (2, .ref l2), (3, .ref l3)]) C dL_law_3015 rfl rfl (by decide) rfl ?_
            refine q_goto (tgt := 23) C dL_law_3018 (by decide) ?_
            exact q_sub (lv' := [(0, .retAddr 27), (1, .ref l1), (2, .ref l2), (3, .ref l3), (4, .int (l4 + (6 : Int32)))]) [3, 4, 5, 6, 0] rfl (kc ((l4 + (6 : Int32)), M749) (someI h))
          · have h := ifF c758 h
            refine q_iconst (v := (0 : Int32)) C dL_law_2266 (by decide) ?_
            exact q_lawret C (kf _ (someI h)) dL_law_2267
      · have h := ifF c754 h
        refine q_iconst (v := (0 : Int32)) C dL_law_2249 (by decide) ?_
        exact q_lawret C (kf _ (someI h)) dL_law_2250
    have h := ifF c739 h
    by_cases c759 : (v14 &&& (63 : Int32)) = (35 : Int32)
    · have h := ifT c759 h
      refine q_tableIn (off := 2231) (tgt := 2271) C dL_law_40 (by rw [c759]; decide) (by rw [c759]; decide) (by rw [c759]; rfl) (by decide) ?_
      refine q_aload_n 1 C dL_law_2271 rfl ?_
      refine q_sload_n 0 C dL_law_2272 rfl ?_
      refine q_iload 4 C dL_law_2273 rfl ?_
      refine q_iconst (v := (1 : Int32)) C dL_law_2275 (by decide) ?_
      refine q_iadd C dL_law_2276 ?_
      obtain ⟨v760, e761, h⟩ := bindE h
      refine q_sald C hsc e761 dL_law_2277 ?_
      refine q_sload_n 0 C dL_law_2278 rfl ?_
      refine q_iload 4 C dL_law_2279 rfl ?_
      refine q_iconst (v := (2 : Int32)) C dL_law_2281 (by decide) ?_
      refine q_iadd C dL_law_2282 ?_
      obtain ⟨v762, e763, h⟩ := bindE h
      refine q_sald C hsc e763 dL_law_2283 ?_
      refine q_aload_n 3 C dL_law_2284 rfl ?_
      obtain ⟨v766, M765, e764, h⟩ := bd2E h
      refine q_callSH (v := some (.int v766)) [.ref l1, .int v760, .int v762, .ref l3] C hRO lkh_RL_267 sk_L_toGrow rfl rfl (Nat.le_of_ble_eq_true rfl) (by decide) (by decide) dL_law_2285 (k_L_toGrow X.1.2.1 hl X.2.2.1 l1 v760 v762 l3 M _ e764) ?_
      refine q_istore (i := 5) (lv' := [(5, .int v766), (0, .retAddr 27), (1, .ref l1), (2, .ref l2), (3, .ref l3), (4, .int l4)]) C dL_law_2288 (by decide) rfl ?_
      refine q_aload_n 3 C dL_law_2290 rfl ?_
      refine q_sload_n 1 C dL_law_2291 rfl ?_
      refine q_iload 5 C dL_law_2292 rfl ?_
      refine q_iconst (v := (1 : Int32)) C dL_law_2294 (by decide) ?_
      refine q_iadd C dL_law_2295 ?_
      obtain ⟨v767, e768, h⟩ := bindE h
      refine q_sald C hsc e768 dL_law_2296 ?_
      refine q_sload_n 1 C dL_law_2297 rfl ?_
      refine q_iload 5 C dL_law_2298 rfl ?_
      refine q_iconst (v := (2 : Int32)) C dL_law_2300 (by decide) ?_
      refine q_iadd C dL_law_2301 ?_
      obtain ⟨v769, e770, h⟩ := bindE h
      refine q_sald C hsc e770 dL_law_2302 ?_
      obtain ⟨e771, h⟩ := ckOE h
      obtain ⟨v774, M773, e772, h⟩ := bd2E h
      refine q_callV (v := some (.int v774)) [.int v767, .int v769] C hRO lk_RL_269 vk_X9_toGrow e771 rfl rfl rfl (Nat.le_of_ble_eq_true rfl) (by decide) (by decide) dL_law_2303 (k_X9_toGrow X.1.2.1 hl X.2.2.1 l2 v767 v769 M765 _ e772) ?_
      refine q_istore (i := 6) (lv' := [(6, .int v774), (5, .int v766), (0, .retAddr 27), (1, .ref l1), (2, .ref l2), (3, .ref l3), (4, .int l4)]) C dL_law_2306 (by decide) rfl ?_
      refine q_aload_n 4 C dL_law_2308 rfl ?_
      obtain ⟨e775, h⟩ := ckOE h
      obtain ⟨v777, e776, h⟩ := bindE h
      refine q_callV (v := some (.int v777)) [] C hRO lk_RL_156 vk_X9_thrown e775 rfl rfl rfl (Nat.le_of_ble_eq_true rfl) (by decide) (by decide) dL_law_2309 (k_X9_thrown X.1.2.1 hl X.2.2.1 l2 M773 _ e776) ?_
      refine q_iload 1 C dL_law_2312 rfl ?_
      refine q_icmp_eq (tgt := 2319) C dL_law_2314 (by decide) (fun c778 => ?_) (fun c778 => ?_)
      · have h := ifT c778 h
        refine q_iload 1 C dL_law_2319 rfl ?_
        refine q_if_ne (tgt := 2336) C dL_law_2321 (by decide) (fun c779 => ?_) (fun c779 => ?_)
        · have h := ifF c779 h
          refine q_goto (tgt := 3015) C dL_law_2336 (by decide) ?_
          refine q_iinc 6 (v := (l4 + (6 : Int32))) (lv' := [(4, .int (l4 + (6 : Int32))), (6, .int v774), (5, .int v766), (0, .retAddr 27), (1, .ref l1), (2, .ref l2), (3, .ref l3)]) C dL_law_3015 rfl rfl (by decide) rfl ?_
          refine q_goto (tgt := 23) C dL_law_3018 (by decide) ?_
          exact q_sub (lv' := [(0, .retAddr 27), (1, .ref l1), (2, .ref l2), (3, .ref l3), (4, .int (l4 + (6 : Int32)))]) [3, 4, 5, 6, 0] rfl (kc ((l4 + (6 : Int32)), M773) (someI h))
        · have h := ifT c779 h
          refine q_aload_n 5 C dL_law_2324 rfl ?_
          refine q_iconst (v := (0 : Int32)) C dL_law_2325 (by decide) ?_
          obtain ⟨v780, e781, h⟩ := bindE h
          refine q_laload C e781 dL_law_2326 ?_
          refine q_iload 0 C dL_law_2327 rfl ?_
          refine q_i2l C dL_law_2329 ?_
          refine q_lcmp C dL_law_2330 ?_
          refine q_if_eq (tgt := 2336) C dL_law_2331 (by decide) (fun c782 => ?_) (fun c782 => ?_)
          · have h := ifT c782 h
            refine q_goto (tgt := 3015) C dL_law_2336 (by decide) ?_
            refine q_iinc 6 (v := (l4 + (6 : Int32))) (lv' := [(4, .int (l4 + (6 : Int32))), (6, .int v774), (5, .int v766), (0, .retAddr 27), (1, .ref l1), (2, .ref l2), (3, .ref l3)]) C dL_law_3015 rfl rfl (by decide) rfl ?_
            refine q_goto (tgt := 23) C dL_law_3018 (by decide) ?_
            exact q_sub (lv' := [(0, .retAddr 27), (1, .ref l1), (2, .ref l2), (3, .ref l3), (4, .int (l4 + (6 : Int32)))]) [3, 4, 5, 6, 0] rfl (kc ((l4 + (6 : Int32)), M773) (someI h))
          · have h := ifF c782 h
            refine q_iconst (v := (0 : Int32)) C dL_law_2334 (by decide) ?_
            exact q_lawret C (kf _ (someI h)) dL_law_2335
      · have h := ifF c778 h
        refine q_iconst (v := (0 : Int32)) C dL_law_2317 (by decide) ?_
        exact q_lawret C (kf _ (someI h)) dL_law_2318
    have h := ifF c759 h
    by_cases c783 : (v14 &&& (63 : Int32)) = (36 : Int32)
    · have h := ifT c783 h
      refine q_tableIn (off := 2299) (tgt := 2339) C dL_law_40 (by rw [c783]; decide) (by rw [c783]; decide) (by rw [c783]; rfl) (by decide) ?_
      refine q_aload_n 1 C dL_law_2339 rfl ?_
      refine q_sload_n 0 C dL_law_2340 rfl ?_
      refine q_iload 4 C dL_law_2341 rfl ?_
      refine q_iconst (v := (1 : Int32)) C dL_law_2343 (by decide) ?_
      refine q_iadd C dL_law_2344 ?_
      obtain ⟨v784, e785, h⟩ := bindE h
      refine q_sald C hsc e785 dL_law_2345 ?_
      refine q_aload_n 3 C dL_law_2346 rfl ?_
      obtain ⟨v788, M787, e786, h⟩ := bd2E h
      refine q_callSH (v := some (.int v788)) [.ref l1, .int v784, .ref l3] C hRO lkh_RL_270 sk_L_paid rfl rfl (Nat.le_of_ble_eq_true rfl) (by decide) (by decide) dL_law_2347 (k_L_paid X.1.2.1 hl X.2.2.1 l1 v784 l3 M _ e786) ?_
      refine q_istore (i := 5) (lv' := [(5, .int v788), (0, .retAddr 27), (1, .ref l1), (2, .ref l2), (3, .ref l3), (4, .int l4)]) C dL_law_2350 (by decide) rfl ?_
      refine q_aload_n 3 C dL_law_2352 rfl ?_
      refine q_sload_n 1 C dL_law_2353 rfl ?_
      refine q_iload 5 C dL_law_2354 rfl ?_
      refine q_iconst (v := (1 : Int32)) C dL_law_2356 (by decide) ?_
      refine q_iadd C dL_law_2357 ?_
      obtain ⟨v789, e790, h⟩ := bindE h
      refine q_sald C hsc e790 dL_law_2358 ?_
      obtain ⟨e791, h⟩ := ckOE h
      obtain ⟨v794, M793, e792, h⟩ := bd2E h
      refine q_callV (v := some (.int v794)) [.int v789] C hRO lk_RL_272 vk_X9_paid e791 rfl rfl rfl (Nat.le_of_ble_eq_true rfl) (by decide) (by decide) dL_law_2359 (k_X9_paid X.1.2.1 hl X.2.2.1 l2 v789 M787 _ e792) ?_
      refine q_istore (i := 6) (lv' := [(6, .int v794), (5, .int v788), (0, .retAddr 27), (1, .ref l1), (2, .ref l2), (3, .ref l3), (4, .int l4)]) C dL_law_2362 (by decide) rfl ?_
      refine q_aload_n 4 C dL_law_2364 rfl ?_
      obtain ⟨e795, h⟩ := ckOE h
      obtain ⟨v797, e796, h⟩ := bindE h
      refine q_callV (v := some (.int v797)) [] C hRO lk_RL_156 vk_X9_thrown e795 rfl rfl rfl (Nat.le_of_ble_eq_true rfl) (by decide) (by decide) dL_law_2365 (k_X9_thrown X.1.2.1 hl X.2.2.1 l2 M793 _ e796) ?_
      refine q_iload 1 C dL_law_2368 rfl ?_
      refine q_icmp_eq (tgt := 2375) C dL_law_2370 (by decide) (fun c798 => ?_) (fun c798 => ?_)
      · have h := ifT c798 h
        refine q_iload 1 C dL_law_2375 rfl ?_
        refine q_if_ne (tgt := 2392) C dL_law_2377 (by decide) (fun c799 => ?_) (fun c799 => ?_)
        · have h := ifF c799 h
          refine q_goto (tgt := 3015) C dL_law_2392 (by decide) ?_
          refine q_iinc 6 (v := (l4 + (6 : Int32))) (lv' := [(4, .int (l4 + (6 : Int32))), (6, .int v794), (5, .int v788), (0, .retAddr 27), (1, .ref l1), (2, .ref l2), (3, .ref l3)]) C dL_law_3015 rfl rfl (by decide) rfl ?_
          refine q_goto (tgt := 23) C dL_law_3018 (by decide) ?_
          exact q_sub (lv' := [(0, .retAddr 27), (1, .ref l1), (2, .ref l2), (3, .ref l3), (4, .int (l4 + (6 : Int32)))]) [3, 4, 5, 6, 0] rfl (kc ((l4 + (6 : Int32)), M793) (someI h))
        · have h := ifT c799 h
          refine q_aload_n 5 C dL_law_2380 rfl ?_
          refine q_iconst (v := (0 : Int32)) C dL_law_2381 (by decide) ?_
          obtain ⟨v800, e801, h⟩ := bindE h
          refine q_laload C e801 dL_law_2382 ?_
          refine q_iload 0 C dL_law_2383 rfl ?_
          refine q_i2l C dL_law_2385 ?_
          refine q_lcmp C dL_law_2386 ?_
          refine q_if_eq (tgt := 2392) C dL_law_2387 (by decide) (fun c802 => ?_) (fun c802 => ?_)
          · have h := ifT c802 h
            refine q_goto (tgt := 3015) C dL_law_2392 (by decide) ?_
            refine q_iinc 6 (v := (l4 + (6 : Int32))) (lv' := [(4, .int (l4 + (6 : Int32))), (6, .int v794), (5, .int v788), (0, .retAddr 27), (1, .ref l1), (2, .ref l2), (3, .ref l3)]) C dL_law_3015 rfl rfl (by decide) rfl ?_
            refine q_goto (tgt := 23) C dL_law_3018 (by decide) ?_
            exact q_sub (lv' := [(0, .retAddr 27), (1, .ref l1), (2, .ref l2), (3, .ref l3), (4, .int (l4 + (6 : Int32)))]) [3, 4, 5, 6, 0] rfl (kc ((l4 + (6 : Int32)), M793) (someI h))
          · have h := ifF c802 h
            refine q_iconst (v := (0 : Int32)) C dL_law_2390 (by decide) ?_
            exact q_lawret C (kf _ (someI h)) dL_law_2391
      · have h := ifF c798 h
        refine q_iconst (v := (0 : Int32)) C dL_law_2373 (by decide) ?_
        exact q_lawret C (kf _ (someI h)) dL_law_2374
    have h := ifF c783 h
    by_cases c803 : (v14 &&& (63 : Int32)) = (37 : Int32)
    · have h := ifT c803 h
      refine q_tableIn (off := 2355) (tgt := 2395) C dL_law_40 (by rw [c803]; decide) (by rw [c803]; decide) (by rw [c803]; rfl) (by decide) ?_
      refine q_aload_n 1 C dL_law_2395 rfl ?_
      refine q_sload_n 0 C dL_law_2396 rfl ?_
      refine q_iload 4 C dL_law_2397 rfl ?_
      refine q_iconst (v := (1 : Int32)) C dL_law_2399 (by decide) ?_
      refine q_iadd C dL_law_2400 ?_
      obtain ⟨v804, e805, h⟩ := bindE h
      refine q_sald C hsc e805 dL_law_2401 ?_
      refine q_aload_n 3 C dL_law_2402 rfl ?_
      obtain ⟨v808, M807, e806, h⟩ := bd2E h
      refine q_callSH (v := some (.int v808)) [.ref l1, .int v804, .ref l3] C hRO lkh_RL_273 sk_L_wornest rfl rfl (Nat.le_of_ble_eq_true rfl) (by decide) (by decide) dL_law_2403 (k_L_wornest X.1.2.1 hl X.2.2.1 l1 v804 l3 M _ e806) ?_
      refine q_istore (i := 5) (lv' := [(5, .int v808), (0, .retAddr 27), (1, .ref l1), (2, .ref l2), (3, .ref l3), (4, .int l4)]) C dL_law_2406 (by decide) rfl ?_
      refine q_aload_n 3 C dL_law_2408 rfl ?_
      refine q_sload_n 1 C dL_law_2409 rfl ?_
      refine q_iload 5 C dL_law_2410 rfl ?_
      refine q_iconst (v := (1 : Int32)) C dL_law_2412 (by decide) ?_
      refine q_iadd C dL_law_2413 ?_
      obtain ⟨v809, e810, h⟩ := bindE h
      refine q_sald C hsc e810 dL_law_2414 ?_
      obtain ⟨e811, h⟩ := ckOE h
      obtain ⟨v814, M813, e812, h⟩ := bd2E h
      refine q_callV (v := some (.int v814)) [.int v809] C hRO lk_RL_275 vk_X9_wornest e811 rfl rfl rfl (Nat.le_of_ble_eq_true rfl) (by decide) (by decide) dL_law_2415 (k_X9_wornest X.1.2.1 hl X.2.2.1 l2 v809 M807 _ e812) ?_
      refine q_istore (i := 6) (lv' := [(6, .int v814), (5, .int v808), (0, .retAddr 27), (1, .ref l1), (2, .ref l2), (3, .ref l3), (4, .int l4)]) C dL_law_2418 (by decide) rfl ?_
      refine q_aload_n 4 C dL_law_2420 rfl ?_
      obtain ⟨e815, h⟩ := ckOE h
      obtain ⟨v817, e816, h⟩ := bindE h
      refine q_callV (v := some (.int v817)) [] C hRO lk_RL_156 vk_X9_thrown e815 rfl rfl rfl (Nat.le_of_ble_eq_true rfl) (by decide) (by decide) dL_law_2421 (k_X9_thrown X.1.2.1 hl X.2.2.1 l2 M813 _ e816) ?_
      refine q_iload 1 C dL_law_2424 rfl ?_
      refine q_icmp_eq (tgt := 2431) C dL_law_2426 (by decide) (fun c818 => ?_) (fun c818 => ?_)
      · have h := ifT c818 h
        refine q_iload 1 C dL_law_2431 rfl ?_
        refine q_if_ne (tgt := 2448) C dL_law_2433 (by decide) (fun c819 => ?_) (fun c819 => ?_)
        · have h := ifF c819 h
          refine q_goto (tgt := 3015) C dL_law_2448 (by decide) ?_
          refine q_iinc 6 (v := (l4 + (6 : Int32))) (lv' := [(4, .int (l4 + (6 : Int32))), (6, .int v814), (5, .int v808), (0, .retAddr 27), (1, .ref l1), (2, .ref l2), (3, .ref l3)]) C dL_law_3015 rfl rfl (by decide) rfl ?_
          refine q_goto (tgt := 23) C dL_law_3018 (by decide) ?_
          exact q_sub (lv' := [(0, .retAddr 27), (1, .ref l1), (2, .ref l2), (3, .ref l3), (4, .int (l4 + (6 : Int32)))]) [3, 4, 5, 6, 0] rfl (kc ((l4 + (6 : Int32)), M813) (someI h))
        · have h := ifT c819 h
          refine q_aload_n 5 C dL_law_2436 rfl ?_
          refine q_iconst (v := (0 : Int32)) C dL_law_2437 (by decide) ?_
          obtain ⟨v820, e821, h⟩ := bindE h
          refine q_laload C e821 dL_law_2438 ?_
          refine q_iload 0 C dL_law_2439 rfl ?_
          refine q_i2l C dL_law_2441 ?_
          refine q_lcmp C dL_law_2442 ?_
          refine q_if_eq (tgt := 2448) C dL_law_2443 (by decide) (fun c822 => ?_) (fun c822 => ?_)
          · have h := ifT c822 h
            refine q_goto (tgt := 3015) C dL_law_2448 (by decide) ?_
            refine q_iinc 6 (v := (l4 + (6 : Int32))) (lv' := [(4, .int (l4 + (6 : Int32))), (6, .int v814), (5, .int v808), (0, .retAddr 27), (1, .ref l1), (2, .ref l2), (3, .ref l3)]) C dL_law_3015 rfl rfl (by decide) rfl ?_
            refine q_goto (tgt := 23) C dL_law_3018 (by decide) ?_
            exact q_sub (lv' := [(0, .retAddr 27), (1, .ref l1), (2, .ref l2), (3, .ref l3), (4, .int (l4 + (6 : Int32)))]) [3, 4, 5, 6, 0] rfl (kc ((l4 + (6 : Int32)), M813) (someI h))
          · have h := ifF c822 h
            refine q_iconst (v := (0 : Int32)) C dL_law_2446 (by decide) ?_
            exact q_lawret C (kf _ (someI h)) dL_law_2447
      · have h := ifF c818 h
        refine q_iconst (v := (0 : Int32)) C dL_law_2429 (by decide) ?_
        exact q_lawret C (kf _ (someI h)) dL_law_2430
    have h := ifF c803 h
    by_cases c823 : (v14 &&& (63 : Int32)) = (38 : Int32)
    · have h := ifT c823 h
      refine q_tableIn (off := 2411) (tgt := 2451) C dL_law_40 (by rw [c823]; decide) (by rw [c823]; decide) (by rw [c823]; rfl) (by decide) ?_
      refine q_aload_n 1 C dL_law_2451 rfl ?_
      refine q_sload_n 0 C dL_law_2452 rfl ?_
      refine q_iload 4 C dL_law_2453 rfl ?_
      refine q_iconst (v := (1 : Int32)) C dL_law_2455 (by decide) ?_
      refine q_iadd C dL_law_2456 ?_
      obtain ⟨v824, e825, h⟩ := bindE h
      refine q_sald C hsc e825 dL_law_2457 ?_
      refine q_aload_n 3 C dL_law_2458 rfl ?_
      obtain ⟨v828, M827, e826, h⟩ := bd2E h
      refine q_callSH (v := some (.int v828)) [.ref l1, .int v824, .ref l3] C hRO lkh_RL_276 sk_L_dampest rfl rfl (Nat.le_of_ble_eq_true rfl) (by decide) (by decide) dL_law_2459 (k_L_dampest X.1.2.1 hl X.2.2.1 l1 v824 l3 M _ e826) ?_
      refine q_istore (i := 5) (lv' := [(5, .int v828), (0, .retAddr 27), (1, .ref l1), (2, .ref l2), (3, .ref l3), (4, .int l4)]) C dL_law_2462 (by decide) rfl ?_
      refine q_aload_n 3 C dL_law_2464 rfl ?_
      refine q_sload_n 1 C dL_law_2465 rfl ?_
      refine q_iload 5 C dL_law_2466 rfl ?_
      refine q_iconst (v := (1 : Int32)) C dL_law_2468 (by decide) ?_
      refine q_iadd C dL_law_2469 ?_
      obtain ⟨v829, e830, h⟩ := bindE h
      refine q_sald C hsc e830 dL_law_2470 ?_
      obtain ⟨e831, h⟩ := ckOE h
      obtain ⟨v834, M833, e832, h⟩ := bd2E h
      refine q_callV (v := some (.int v834)) [.int v829] C hRO lk_RL_278 vk_X9_dampest e831 rfl rfl rfl (Nat.le_of_ble_eq_true rfl) (by decide) (by decide) dL_law_2471 (k_X9_dampest X.1.2.1 hl X.2.2.1 l2 v829 M827 _ e832) ?_
      refine q_istore (i := 6) (lv' := [(6, .int v834), (5, .int v828), (0, .retAddr 27), (1, .ref l1), (2, .ref l2), (3, .ref l3), (4, .int l4)]) C dL_law_2474 (by decide) rfl ?_
      refine q_aload_n 4 C dL_law_2476 rfl ?_
      obtain ⟨e835, h⟩ := ckOE h
      obtain ⟨v837, e836, h⟩ := bindE h
      refine q_callV (v := some (.int v837)) [] C hRO lk_RL_156 vk_X9_thrown e835 rfl rfl rfl (Nat.le_of_ble_eq_true rfl) (by decide) (by decide) dL_law_2477 (k_X9_thrown X.1.2.1 hl X.2.2.1 l2 M833 _ e836) ?_
      refine q_iload 1 C dL_law_2480 rfl ?_
      refine q_icmp_eq (tgt := 2487) C dL_law_2482 (by decide) (fun c838 => ?_) (fun c838 => ?_)
      · have h := ifT c838 h
        refine q_iload 1 C dL_law_2487 rfl ?_
        refine q_if_ne (tgt := 2504) C dL_law_2489 (by decide) (fun c839 => ?_) (fun c839 => ?_)
        · have h := ifF c839 h
          refine q_goto (tgt := 3015) C dL_law_2504 (by decide) ?_
          refine q_iinc 6 (v := (l4 + (6 : Int32))) (lv' := [(4, .int (l4 + (6 : Int32))), (6, .int v834), (5, .int v828), (0, .retAddr 27), (1, .ref l1), (2, .ref l2), (3, .ref l3)]) C dL_law_3015 rfl rfl (by decide) rfl ?_
          refine q_goto (tgt := 23) C dL_law_3018 (by decide) ?_
          exact q_sub (lv' := [(0, .retAddr 27), (1, .ref l1), (2, .ref l2), (3, .ref l3), (4, .int (l4 + (6 : Int32)))]) [3, 4, 5, 6, 0] rfl (kc ((l4 + (6 : Int32)), M833) (someI h))
        · have h := ifT c839 h
          refine q_aload_n 5 C dL_law_2492 rfl ?_
          refine q_iconst (v := (0 : Int32)) C dL_law_2493 (by decide) ?_
          obtain ⟨v840, e841, h⟩ := bindE h
          refine q_laload C e841 dL_law_2494 ?_
          refine q_iload 0 C dL_law_2495 rfl ?_
          refine q_i2l C dL_law_2497 ?_
          refine q_lcmp C dL_law_2498 ?_
          refine q_if_eq (tgt := 2504) C dL_law_2499 (by decide) (fun c842 => ?_) (fun c842 => ?_)
          · have h := ifT c842 h
            refine q_goto (tgt := 3015) C dL_law_2504 (by decide) ?_
            refine q_iinc 6 (v := (l4 + (6 : Int32))) (lv' := [(4, .int (l4 + (6 : Int32))), (6, .int v834), (5, .int v828), (0, .retAddr 27), (1, .ref l1), (2, .ref l2), (3, .ref l3)]) C dL_law_3015 rfl rfl (by decide) rfl ?_
            refine q_goto (tgt := 23) C dL_law_3018 (by decide) ?_
            exact q_sub (lv' := [(0, .retAddr 27), (1, .ref l1), (2, .ref l2), (3, .ref l3), (4, .int (l4 + (6 : Int32)))]) [3, 4, 5, 6, 0] rfl (kc ((l4 + (6 : Int32)), M833) (someI h))
          · have h := ifF c842 h
            refine q_iconst (v := (0 : Int32)) C dL_law_2502 (by decide) ?_
            exact q_lawret C (kf _ (someI h)) dL_law_2503
      · have h := ifF c838 h
        refine q_iconst (v := (0 : Int32)) C dL_law_2485 (by decide) ?_
        exact q_lawret C (kf _ (someI h)) dL_law_2486
    have h := ifF c823 h
    by_cases c843 : (v14 &&& (63 : Int32)) = (39 : Int32)
    · have h := ifT c843 h
      refine q_tableIn (off := 2467) (tgt := 2507) C dL_law_40 (by rw [c843]; decide) (by rw [c843]; decide) (by rw [c843]; rfl) (by decide) ?_
      refine q_aload_n 1 C dL_law_2507 rfl ?_
      refine q_sload_n 0 C dL_law_2508 rfl ?_
      refine q_iload 4 C dL_law_2509 rfl ?_
      refine q_iconst (v := (1 : Int32)) C dL_law_2511 (by decide) ?_
      refine q_iadd C dL_law_2512 ?_
      obtain ⟨v844, e845, h⟩ := bindE h
      refine q_sald C hsc e845 dL_law_2513 ?_
      refine q_aload_n 3 C dL_law_2514 rfl ?_
      obtain ⟨v848, M847, e846, h⟩ := bd2E h
      refine q_callSH (v := some (.int v848)) [.ref l1, .int v844, .ref l3] C hRO lkh_RL_279 sk_L_kept rfl rfl (Nat.le_of_ble_eq_true rfl) (by decide) (by decide) dL_law_2515 (k_L_kept X.1.2.1 hl X.2.2.1 l1 v844 l3 M _ e846) ?_
      refine q_istore (i := 5) (lv' := [(5, .int v848), (0, .retAddr 27), (1, .ref l1), (2, .ref l2), (3, .ref l3), (4, .int l4)]) C dL_law_2518 (by decide) rfl ?_
      refine q_aload_n 3 C dL_law_2520 rfl ?_
      refine q_sload_n 1 C dL_law_2521 rfl ?_
      refine q_iload 5 C dL_law_2522 rfl ?_
      refine q_iconst (v := (1 : Int32)) C dL_law_2524 (by decide) ?_
      refine q_iadd C dL_law_2525 ?_
      obtain ⟨v849, e850, h⟩ := bindE h
      refine q_sald C hsc e850 dL_law_2526 ?_
      obtain ⟨e851, h⟩ := ckOE h
      obtain ⟨v854, M853, e852, h⟩ := bd2E h
      refine q_callV (v := some (.int v854)) [.int v849] C hRO lk_RL_281 vk_X9_kept e851 rfl rfl rfl (Nat.le_of_ble_eq_true rfl) (by decide) (by decide) dL_law_2527 (k_X9_kept X.1.2.1 hl X.2.2.1 l2 v849 M847 _ e852) ?_
      refine q_istore (i := 6) (lv' := [(6, .int v854), (5, .int v848), (0, .retAddr 27), (1, .ref l1), (2, .ref l2), (3, .ref l3), (4, .int l4)]) C dL_law_2530 (by decide) rfl ?_
      refine q_aload_n 4 C dL_law_2532 rfl ?_
      obtain ⟨e855, h⟩ := ckOE h
      obtain ⟨v857, e856, h⟩ := bindE h
      refine q_callV (v := some (.int v857)) [] C hRO lk_RL_156 vk_X9_thrown e855 rfl rfl rfl (Nat.le_of_ble_eq_true rfl) (by decide) (by decide) dL_law_2533 (k_X9_thrown X.1.2.1 hl X.2.2.1 l2 M853 _ e856) ?_
      refine q_iload 1 C dL_law_2536 rfl ?_
      refine q_icmp_eq (tgt := 2543) C dL_law_2538 (by decide) (fun c858 => ?_) (fun c858 => ?_)
      · have h := ifT c858 h
        refine q_iload 1 C dL_law_2543 rfl ?_
        refine q_if_ne (tgt := 2560) C dL_law_2545 (by decide) (fun c859 => ?_) (fun c859 => ?_)
        · have h := ifF c859 h
          refine q_goto (tgt := 3015) C dL_law_2560 (by decide) ?_
          refine q_iinc 6 (v := (l4 + (6 : Int32))) (lv' := [(4, .int (l4 + (6 : Int32))), (6, .int v854), (5, .int v848), (0, .retAddr 27), (1, .ref l1), (2, .ref l2), (3, .ref l3)]) C dL_law_3015 rfl rfl (by decide) rfl ?_
          refine q_goto (tgt := 23) C dL_law_3018 (by decide) ?_
          exact q_sub (lv' := [(0, .retAddr 27), (1, .ref l1), (2, .ref l2), (3, .ref l3), (4, .int (l4 + (6 : Int32)))]) [3, 4, 5, 6, 0] rfl (kc ((l4 + (6 : Int32)), M853) (someI h))
        · have h := ifT c859 h
          refine q_aload_n 5 C dL_law_2548 rfl ?_
          refine q_iconst (v := (0 : Int32)) C dL_law_2549 (by decide) ?_
          obtain ⟨v860, e861, h⟩ := bindE h
          refine q_laload C e861 dL_law_2550 ?_
          refine q_iload 0 C dL_law_2551 rfl ?_
          refine q_i2l C dL_law_2553 ?_
          refine q_lcmp C dL_law_2554 ?_
          refine q_if_eq (tgt := 2560) C dL_law_2555 (by decide) (fun c862 => ?_) (fun c862 => ?_)
          · have h := ifT c862 h
            refine q_goto (tgt := 3015) C dL_law_2560 (by decide) ?_
            refine q_iinc 6 (v := (l4 + (6 : Int32))) (lv' := [(4, .int (l4 + (6 : Int32))), (6, .int v854), (5, .int v848), (0, .retAddr 27), (1, .ref l1), (2, .ref l2), (3, .ref l3)]) C dL_law_3015 rfl rfl (by decide) rfl ?_
            refine q_goto (tgt := 23) C dL_law_3018 (by decide) ?_
            exact q_sub (lv' := [(0, .retAddr 27), (1, .ref l1), (2, .ref l2), (3, .ref l3), (4, .int (l4 + (6 : Int32)))]) [3, 4, 5, 6, 0] rfl (kc ((l4 + (6 : Int32)), M853) (someI h))
          · have h := ifF c862 h
            refine q_iconst (v := (0 : Int32)) C dL_law_2558 (by decide) ?_
            exact q_lawret C (kf _ (someI h)) dL_law_2559
      · have h := ifF c858 h
        refine q_iconst (v := (0 : Int32)) C dL_law_2541 (by decide) ?_
        exact q_lawret C (kf _ (someI h)) dL_law_2542
    have h := ifF c843 h
    by_cases c863 : (v14 &&& (63 : Int32)) = (40 : Int32)
    · have h := ifT c863 h
      refine q_tableIn (off := 2523) (tgt := 2563) C dL_law_40 (by rw [c863]; decide) (by rw [c863]; decide) (by rw [c863]; rfl) (by decide) ?_
      refine q_aload_n 1 C dL_law_2563 rfl ?_
      refine q_sload_n 0 C dL_law_2564 rfl ?_
      refine q_iload 4 C dL_law_2565 rfl ?_
      refine q_iconst (v := (1 : Int32)) C dL_law_2567 (by decide) ?_
      refine q_iadd C dL_law_2568 ?_
      obtain ⟨v864, e865, h⟩ := bindE h
      refine q_sald C hsc e865 dL_law_2569 ?_
      refine q_aload_n 3 C dL_law_2570 rfl ?_
      obtain ⟨v868, M867, e866, h⟩ := bd2E h
      refine q_callSH (v := some (.int v868)) [.ref l1, .int v864, .ref l3] C hRO lkh_RL_282 sk_L_sorest rfl rfl (Nat.le_of_ble_eq_true rfl) (by decide) (by decide) dL_law_2571 (k_L_sorest X.1.2.1 hl X.2.2.1 l1 v864 l3 M _ e866) ?_
      refine q_istore (i := 5) (lv' := [(5, .int v868), (0, .retAddr 27), (1, .ref l1), (2, .ref l2), (3, .ref l3), (4, .int l4)]) C dL_law_2574 (by decide) rfl ?_
      refine q_aload_n 3 C dL_law_2576 rfl ?_
      refine q_sload_n 1 C dL_law_2577 rfl ?_
      refine q_iload 5 C dL_law_2578 rfl ?_
      refine q_iconst (v := (1 : Int32)) C dL_law_2580 (by decide) ?_
      refine q_iadd C dL_law_2581 ?_
      obtain ⟨v869, e870, h⟩ := bindE h
      refine q_sald C hsc e870 dL_law_2582 ?_
      obtain ⟨e871, h⟩ := ckOE h
      obtain ⟨v874, M873, e872, h⟩ := bd2E h
      refine q_callV (v := some (.int v874)) [.int v869] C hRO lk_RL_284 vk_X9_sorest e871 rfl rfl rfl (Nat.le_of_ble_eq_true rfl) (by decide) (by decide) dL_law_2583 (k_X9_sorest X.1.2.1 hl X.2.2.1 l2 v869 M867 _ e872) ?_
      refine q_istore (i := 6) (lv' := [(6, .int v874), (5, .int v868), (0, .retAddr 27), (1, .ref l1), (2, .ref l2), (3, .ref l3), (4, .int l4)]) C dL_law_2586 (by decide) rfl ?_
      refine q_aload_n 4 C dL_law_2588 rfl ?_
      obtain ⟨e875, h⟩ := ckOE h
      obtain ⟨v877, e876, h⟩ := bindE h
      refine q_callV (v := some (.int v877)) [] C hRO lk_RL_156 vk_X9_thrown e875 rfl rfl rfl (Nat.le_of_ble_eq_true rfl) (by decide) (by decide) dL_law_2589 (k_X9_thrown X.1.2.1 hl X.2.2.1 l2 M873 _ e876) ?_
      refine q_iload 1 C dL_law_2592 rfl ?_
      refine q_icmp_eq (tgt := 2599) C dL_law_2594 (by decide) (fun c878 => ?_) (fun c878 => ?_)
      · have h := ifT c878 h
        refine q_iload 1 C dL_law_2599 rfl ?_
        refine q_if_ne (tgt := 2616) C dL_law_2601 (by decide) (fun c879 => ?_) (fun c879 => ?_)
        · have h := ifF c879 h
          refine q_goto (tgt := 3015) C dL_law_2616 (by decide) ?_
          refine q_iinc 6 (v := (l4 + (6 : Int32))) (lv' := [(4, .int (l4 + (6 : Int32))), (6, .int v874), (5, .int v868), (0, .retAddr 27), (1, .ref l1), (2, .ref l2), (3, .ref l3)]) C dL_law_3015 rfl rfl (by decide) rfl ?_
          refine q_goto (tgt := 23) C dL_law_3018 (by decide) ?_
          exact q_sub (lv' := [(0, .retAddr 27), (1, .ref l1), (2, .ref l2), (3, .ref l3), (4, .int (l4 + (6 : Int32)))]) [3, 4, 5, 6, 0] rfl (kc ((l4 + (6 : Int32)), M873) (someI h))
        · have h := ifT c879 h
          refine q_aload_n 5 C dL_law_2604 rfl ?_
          refine q_iconst (v := (0 : Int32)) C dL_law_2605 (by decide) ?_
          obtain ⟨v880, e881, h⟩ := bindE h
          refine q_laload C e881 dL_law_2606 ?_
          refine q_iload 0 C dL_law_2607 rfl ?_
          refine q_i2l C dL_law_2609 ?_
          refine q_lcmp C dL_law_2610 ?_
          refine q_if_eq (tgt := 2616) C dL_law_2611 (by decide) (fun c882 => ?_) (fun c882 => ?_)
          · have h := ifT c882 h
            refine q_goto (tgt := 3015) C dL_law_2616 (by decide) ?_
            refine q_iinc 6 (v := (l4 + (6 : Int32))) (lv' := [(4, .int (l4 + (6 : Int32))), (6, .int v874), (5, .int v868), (0, .retAddr 27), (1, .ref l1), (2, .ref l2), (3, .ref l3)]) C dL_law_3015 rfl rfl (by decide) rfl ?_
            refine q_goto (tgt := 23) C dL_law_3018 (by decide) ?_
            exact q_sub (lv' := [(0, .retAddr 27), (1, .ref l1), (2, .ref l2), (3, .ref l3), (4, .int (l4 + (6 : Int32)))]) [3, 4, 5, 6, 0] rfl (kc ((l4 + (6 : Int32)), M873) (someI h))
          · have h := ifF c882 h
            refine q_iconst (v := (0 : Int32)) C dL_law_2614 (by decide) ?_
            exact q_lawret C (kf _ (someI h)) dL_law_2615
      · have h := ifF c878 h
        refine q_iconst (v := (0 : Int32)) C dL_law_2597 (by decide) ?_
        exact q_lawret C (kf _ (someI h)) dL_law_2598
    have h := ifF c863 h
    by_cases c883 : (v14 &&& (63 : Int32)) = (41 : Int32)
    · have h := ifT c883 h
      refine q_tableIn (off := 2579) (tgt := 2619) C dL_law_40 (by rw [c883]; decide) (by rw [c883]; decide) (by rw [c883]; rfl) (by decide) ?_
      refine q_aload_n 1 C dL_law_2619 rfl ?_
      refine q_sload_n 0 C dL_law_2620 rfl ?_
      refine q_iload 4 C dL_law_2621 rfl ?_
      refine q_iconst (v := (1 : Int32)) C dL_law_2623 (by decide) ?_
      refine q_iadd C dL_law_2624 ?_
      obtain ⟨v884, e885, h⟩ := bindE h
      refine q_sald C hsc e885 dL_law_2625 ?_
      refine q_sload_n 0 C dL_law_2626 rfl ?_
      refine q_iload 4 C dL_law_2627 rfl ?_
      refine q_iconst (v := (2 : Int32)) C dL_law_2629 (by decide) ?_
      refine q_iadd C dL_law_2630 ?_
      obtain ⟨v886, e887, h⟩ := bindE h
      refine q_sald C hsc e887 dL_law_2631 ?_
      refine q_sload_n 0 C dL_law_2632 rfl ?_
      refine q_iload 4 C dL_law_2633 rfl ?_
      refine q_iconst (v := (3 : Int32)) C dL_law_2635 (by decide) ?_
      refine q_iadd C dL_law_2636 ?_
      obtain ⟨v888, e889, h⟩ := bindE h
      refine q_sald C hsc e889 dL_law_2637 ?_
      refine q_aload_n 3 C dL_law_2638 rfl ?_
      obtain ⟨v892, M891, e890, h⟩ := bd2E h
      refine q_callSH (v := some (.int v892)) [.ref l1, .int v884, .int v886, .int v888, .ref l3] C hRO lkh_RL_285 sk_L_eased rfl rfl (Nat.le_of_ble_eq_true rfl) (by decide) (by decide) dL_law_2639 (k_L_eased X.1.2.1 hl X.2.2.1 l1 v884 v886 v888 l3 M _ e890) ?_
      refine q_istore (i := 5) (lv' := [(5, .int v892), (0, .retAddr 27), (1, .ref l1), (2, .ref l2), (3, .ref l3), (4, .int l4)]) C dL_law_2642 (by decide) rfl ?_
      refine q_aload_n 3 C dL_law_2644 rfl ?_
      refine q_sload_n 1 C dL_law_2645 rfl ?_
      refine q_iload 5 C dL_law_2646 rfl ?_
      refine q_iconst (v := (1 : Int32)) C dL_law_2648 (by decide) ?_
      refine q_iadd C dL_law_2649 ?_
      obtain ⟨v893, e894, h⟩ := bindE h
      refine q_sald C hsc e894 dL_law_2650 ?_
      refine q_sload_n 1 C dL_law_2651 rfl ?_
      refine q_iload 5 C dL_law_2652 rfl ?_
      refine q_iconst (v := (2 : Int32)) C dL_law_2654 (by decide) ?_
      refine q_iadd C dL_law_2655 ?_
      obtain ⟨v895, e896, h⟩ := bindE h
      refine q_sald C hsc e896 dL_law_2656 ?_
      refine q_sload_n 1 C dL_law_2657 rfl ?_
      refine q_iload 5 C dL_law_2658 rfl ?_
      refine q_iconst (v := (3 : Int32)) C dL_law_2660 (by decide) ?_
      refine q_iadd C dL_law_2661 ?_
      obtain ⟨v897, e898, h⟩ := bindE h
      refine q_sald C hsc e898 dL_law_2662 ?_
      obtain ⟨e899, h⟩ := ckOE h
      obtain ⟨v902, M901, e900, h⟩ := bd2E h
      refine q_callV (v := some (.int v902)) [.int v893, .int v895, .int v897] C hRO lk_RL_287 vk_X9_eased e899 rfl rfl rfl (Nat.le_of_ble_eq_true rfl) (by decide) (by decide) dL_law_2663 (k_X9_eased X.1.2.1 hl X.2.2.1 l2 v893 v895 v897 M891 _ e900) ?_
      refine q_istore (i := 6) (lv' := [(6, .int v902), (5, .int v892), (0, .retAddr 27), (1, .ref l1), (2, .ref l2), (3, .ref l3), (4, .int l4)]) C dL_law_2666 (by decide) rfl ?_
      refine q_aload_n 4 C dL_law_2668 rfl ?_
      obtain ⟨e903, h⟩ := ckOE h
      obtain ⟨v905, e904, h⟩ := bindE h
      refine q_callV (v := some (.int v905)) [] C hRO lk_RL_156 vk_X9_thrown e903 rfl rfl rfl (Nat.le_of_ble_eq_true rfl) (by decide) (by decide) dL_law_2669 (k_X9_thrown X.1.2.1 hl X.2.2.1 l2 M901 _ e904) ?_
      refine q_iload 1 C dL_law_2672 rfl ?_
      refine q_icmp_eq (tgt := 2679) C dL_law_2674 (by decide) (fun c906 => ?_) (fun c906 => ?_)
      · have h := ifT c906 h
        refine q_iload 1 C dL_law_2679 rfl ?_
        refine q_if_ne (tgt := 2696) C dL_law_2681 (by decide) (fun c907 => ?_) (fun c907 => ?_)
        · have h := ifF c907 h
          refine q_goto (tgt := 3015) C dL_law_2696 (by decide) ?_
          refine q_iinc 6 (v := (l4 + (6 : Int32))) (lv' := [(4, .int (l4 + (6 : Int32))), (6, .int v902), (5, .int v892), (0, .retAddr 27), (1, .ref l1), (2, .ref l2), (3, .ref l3)]) C dL_law_3015 rfl rfl (by decide) rfl ?_
          refine q_goto (tgt := 23) C dL_law_3018 (by decide) ?_
          exact q_sub (lv' := [(0, .retAddr 27), (1, .ref l1), (2, .ref l2), (3, .ref l3), (4, .int (l4 + (6 : Int32)))]) [3, 4, 5, 6, 0] rfl (kc ((l4 + (6 : Int32)), M901) (someI h))
        · have h := ifT c907 h
          refine q_aload_n 5 C dL_law_2684 rfl ?_
          refine q_iconst (v := (0 : Int32)) C dL_law_2685 (by decide) ?_
          obtain ⟨v908, e909, h⟩ := bindE h
          refine q_laload C e909 dL_law_2686 ?_
          refine q_iload 0 C dL_law_2687 rfl ?_
          refine q_i2l C dL_law_2689 ?_
          refine q_lcmp C dL_law_2690 ?_
          refine q_if_eq (tgt := 2696) C dL_law_2691 (by decide) (fun c910 => ?_) (fun c910 => ?_)
          · have h := ifT c910 h
            refine q_goto (tgt := 3015) C dL_law_2696 (by decide) ?_
            refine q_iinc 6 (v := (l4 + (6 : Int32))) (lv' := [(4, .int (l4 + (6 : Int32))), (6, .int v902), (5, .int v892), (0, .retAddr 27), (1, .ref l1), (2, .ref l2), (3, .ref l3)]) C dL_law_3015 rfl rfl (by decide) rfl ?_
            refine q_goto (tgt := 23) C dL_law_3018 (by decide) ?_
            exact q_sub (lv' := [(0, .retAddr 27), (1, .ref l1), (2, .ref l2), (3, .ref l3), (4, .int (l4 + (6 : Int32)))]) [3, 4, 5, 6, 0] rfl (kc ((l4 + (6 : Int32)), M901) (someI h))
          · have h := ifF c910 h
            refine q_iconst (v := (0 : Int32)) C dL_law_2694 (by decide) ?_
            exact q_lawret C (kf _ (someI h)) dL_law_2695
      · have h := ifF c906 h
        refine q_iconst (v := (0 : Int32)) C dL_law_2677 (by decide) ?_
        exact q_lawret C (kf _ (someI h)) dL_law_2678
    have h := ifF c883 h
    by_cases c911 : (v14 &&& (63 : Int32)) = (42 : Int32)
    · have h := ifT c911 h
      refine q_tableIn (off := 2659) (tgt := 2699) C dL_law_40 (by rw [c911]; decide) (by rw [c911]; decide) (by rw [c911]; rfl) (by decide) ?_
      refine q_aload_n 1 C dL_law_2699 rfl ?_
      refine q_sload_n 0 C dL_law_2700 rfl ?_
      refine q_iload 4 C dL_law_2701 rfl ?_
      refine q_iconst (v := (1 : Int32)) C dL_law_2703 (by decide) ?_
      refine q_iadd C dL_law_2704 ?_
      obtain ⟨v912, e913, h⟩ := bindE h
      refine q_sald C hsc e913 dL_law_2705 ?_
      refine q_aload_n 3 C dL_law_2706 rfl ?_
      obtain ⟨v916, M915, e914, h⟩ := bd2E h
      refine q_callSH (v := some (.int v916)) [.ref l1, .int v912, .ref l3] C hRO lkh_RL_288 sk_L_free rfl rfl (Nat.le_of_ble_eq_true rfl) (by decide) (by decide) dL_law_2707 (k_L_free X.1.2.1 hl X.2.2.1 l1 v912 l3 M _ e914) ?_
      refine q_istore (i := 5) (lv' := [(5, .int v916), (0, .retAddr 27), (1, .ref l1), (2, .ref l2), (3, .ref l3), (4, .int l4)]) C dL_law_2710 (by decide) rfl ?_
      refine q_aload_n 3 C dL_law_2712 rfl ?_
      refine q_sload_n 1 C dL_law_2713 rfl ?_
      refine q_iload 5 C dL_law_2714 rfl ?_
      refine q_iconst (v := (1 : Int32)) C dL_law_2716 (by decide) ?_
      refine q_iadd C dL_law_2717 ?_
      obtain ⟨v917, e918, h⟩ := bindE h
      refine q_sald C hsc e918 dL_law_2718 ?_
      obtain ⟨e919, h⟩ := ckOE h
      obtain ⟨v922, M921, e920, h⟩ := bd2E h
      refine q_callV (v := some (.int v922)) [.int v917] C hRO lk_RL_290 vk_X9_free e919 rfl rfl rfl (Nat.le_of_ble_eq_true rfl) (by decide) (by decide) dL_law_2719 (k_X9_free X.1.2.1 hl X.2.2.1 l2 v917 M915 _ e920) ?_
      refine q_istore (i := 6) (lv' := [(6, .int v922), (5, .int v916), (0, .retAddr 27), (1, .ref l1), (2, .ref l2), (3, .ref l3), (4, .int l4)]) C dL_law_2722 (by decide) rfl ?_
      refine q_aload_n 4 C dL_law_2724 rfl ?_
      obtain ⟨e923, h⟩ := ckOE h
      obtain ⟨v925, e924, h⟩ := bindE h
      refine q_callV (v := some (.int v925)) [] C hRO lk_RL_156 vk_X9_thrown e923 rfl rfl rfl (Nat.le_of_ble_eq_true rfl) (by decide) (by decide) dL_law_2725 (k_X9_thrown X.1.2.1 hl X.2.2.1 l2 M921 _ e924) ?_
      refine q_iload 1 C dL_law_2728 rfl ?_
      refine q_icmp_eq (tgt := 2735) C dL_law_2730 (by decide) (fun c926 => ?_) (fun c926 => ?_)
      · have h := ifT c926 h
        refine q_iload 1 C dL_law_2735 rfl ?_
        refine q_if_ne (tgt := 2752) C dL_law_2737 (by decide) (fun c927 => ?_) (fun c927 => ?_)
        · have h := ifF c927 h
          refine q_goto (tgt := 3015) C dL_law_2752 (by decide) ?_
          refine q_iinc 6 (v := (l4 + (6 : Int32))) (lv' := [(4, .int (l4 + (6 : Int32))), (6, .int v922), (5, .int v916), (0, .retAddr 27), (1, .ref l1), (2, .ref l2), (3, .ref l3)]) C dL_law_3015 rfl rfl (by decide) rfl ?_
          refine q_goto (tgt := 23) C dL_law_3018 (by decide) ?_
          exact q_sub (lv' := [(0, .retAddr 27), (1, .ref l1), (2, .ref l2), (3, .ref l3), (4, .int (l4 + (6 : Int32)))]) [3, 4, 5, 6, 0] rfl (kc ((l4 + (6 : Int32)), M921) (someI h))
        · have h := ifT c927 h
          refine q_aload_n 5 C dL_law_2740 rfl ?_
          refine q_iconst (v := (0 : Int32)) C dL_law_2741 (by decide) ?_
          obtain ⟨v928, e929, h⟩ := bindE h
          refine q_laload C e929 dL_law_2742 ?_
          refine q_iload 0 C dL_law_2743 rfl ?_
          refine q_i2l C dL_law_2745 ?_
          refine q_lcmp C dL_law_2746 ?_
          refine q_if_eq (tgt := 2752) C dL_law_2747 (by decide) (fun c930 => ?_) (fun c930 => ?_)
          · have h := ifT c930 h
            refine q_goto (tgt := 3015) C dL_law_2752 (by decide) ?_
            refine q_iinc 6 (v := (l4 + (6 : Int32))) (lv' := [(4, .int (l4 + (6 : Int32))), (6, .int v922), (5, .int v916), (0, .retAddr 27), (1, .ref l1), (2, .ref l2), (3, .ref l3)]) C dL_law_3015 rfl rfl (by decide) rfl ?_
            refine q_goto (tgt := 23) C dL_law_3018 (by decide) ?_
            exact q_sub (lv' := [(0, .retAddr 27), (1, .ref l1), (2, .ref l2), (3, .ref l3), (4, .int (l4 + (6 : Int32)))]) [3, 4, 5, 6, 0] rfl (kc ((l4 + (6 : Int32)), M921) (someI h))
          · have h := ifF c930 h
            refine q_iconst (v := (0 : Int32)) C dL_law_2750 (by decide) ?_
            exact q_lawret C (kf _ (someI h)) dL_law_2751
      · have h := ifF c926 h
        refine q_iconst (v := (0 : Int32)) C dL_law_2733 (by decide) ?_
        exact q_lawret C (kf _ (someI h)) dL_law_2734
    have h := ifF c911 h
    by_cases c931 : (v14 &&& (63 : Int32)) = (43 : Int32)
    · have h := ifT c931 h
      refine q_tableIn (off := 2715) (tgt := 2755) C dL_law_40 (by rw [c931]; decide) (by rw [c931]; decide) (by rw [c931]; rfl) (by decide) ?_
      refine q_aload_n 1 C dL_law_2755 rfl ?_
      refine q_sload_n 0 C dL_law_2756 rfl ?_
      refine q_iload 4 C dL_law_2757 rfl ?_
      refine q_iconst (v := (1 : Int32)) C dL_law_2759 (by decide) ?_
      refine q_iadd C dL_law_2760 ?_
      obtain ⟨v932, e933, h⟩ := bindE h
      refine q_sald C hsc e933 dL_law_2761 ?_
      refine q_aload_n 3 C dL_law_2762 rfl ?_
      obtain ⟨v936, M935, e934, h⟩ := bd2E h
      refine q_callSH (v := some (.int v936)) [.ref l1, .int v932, .ref l3] C hRO lkh_RL_291 sk_L_larger rfl rfl (Nat.le_of_ble_eq_true rfl) (by decide) (by decide) dL_law_2763 (k_L_larger X.1.2.1 hl X.2.2.1 l1 v932 l3 M _ e934) ?_
      refine q_istore (i := 5) (lv' := [(5, .int v936), (0, .retAddr 27), (1, .ref l1), (2, .ref l2), (3, .ref l3), (4, .int l4)]) C dL_law_2766 (by decide) rfl ?_
      refine q_aload_n 3 C dL_law_2768 rfl ?_
      refine q_sload_n 1 C dL_law_2769 rfl ?_
      refine q_iload 5 C dL_law_2770 rfl ?_
      refine q_iconst (v := (1 : Int32)) C dL_law_2772 (by decide) ?_
      refine q_iadd C dL_law_2773 ?_
      obtain ⟨v937, e938, h⟩ := bindE h
      refine q_sald C hsc e938 dL_law_2774 ?_
      obtain ⟨e939, h⟩ := ckOE h
      obtain ⟨v942, M941, e940, h⟩ := bd2E h
      refine q_callV (v := some (.int v942)) [.int v937] C hRO lk_RL_293 vk_X9_larger e939 rfl rfl rfl (Nat.le_of_ble_eq_true rfl) (by decide) (by decide) dL_law_2775 (k_X9_larger X.1.2.1 hl X.2.2.1 l2 v937 M935 _ e940) ?_
      refine q_istore (i := 6) (lv' := [(6, .int v942), (5, .int v936), (0, .retAddr 27), (1, .ref l1), (2, .ref l2), (3, .ref l3), (4, .int l4)]) C dL_law_2778 (by decide) rfl ?_
      refine q_aload_n 4 C dL_law_2780 rfl ?_
      obtain ⟨e943, h⟩ := ckOE h
      obtain ⟨v945, e944, h⟩ := bindE h
      refine q_callV (v := some (.int v945)) [] C hRO lk_RL_156 vk_X9_thrown e943 rfl rfl rfl (Nat.le_of_ble_eq_true rfl) (by decide) (by decide) dL_law_2781 (k_X9_thrown X.1.2.1 hl X.2.2.1 l2 M941 _ e944) ?_
      refine q_iload 1 C dL_law_2784 rfl ?_
      refine q_icmp_eq (tgt := 2791) C dL_law_2786 (by decide) (fun c946 => ?_) (fun c946 => ?_)
      · have h := ifT c946 h
        refine q_iload 1 C dL_law_2791 rfl ?_
        refine q_if_ne (tgt := 2808) C dL_law_2793 (by decide) (fun c947 => ?_) (fun c947 => ?_)
        · have h := ifF c947 h
          refine q_goto (tgt := 3015) C dL_law_2808 (by decide) ?_
          refine q_iinc 6 (v := (l4 + (6 : Int32))) (lv' := [(4, .int (l4 + (6 : Int32))), (6, .int v942), (5, .int v936), (0, .retAddr 27), (1, .ref l1), (2, .ref l2), (3, .ref l3)]) C dL_law_3015 rfl rfl (by decide) rfl ?_
          refine q_goto (tgt := 23) C dL_law_3018 (by decide) ?_
          exact q_sub (lv' := [(0, .retAddr 27), (1, .ref l1), (2, .ref l2), (3, .ref l3), (4, .int (l4 + (6 : Int32)))]) [3, 4, 5, 6, 0] rfl (kc ((l4 + (6 : Int32)), M941) (someI h))
        · have h := ifT c947 h
          refine q_aload_n 5 C dL_law_2796 rfl ?_
          refine q_iconst (v := (0 : Int32)) C dL_law_2797 (by decide) ?_
          obtain ⟨v948, e949, h⟩ := bindE h
          refine q_laload C e949 dL_law_2798 ?_
          refine q_iload 0 C dL_law_2799 rfl ?_
          refine q_i2l C dL_law_2801 ?_
          refine q_lcmp C dL_law_2802 ?_
          refine q_if_eq (tgt := 2808) C dL_law_2803 (by decide) (fun c950 => ?_) (fun c950 => ?_)
          · have h := ifT c950 h
            refine q_goto (tgt := 3015) C dL_law_2808 (by decide) ?_
            refine q_iinc 6 (v := (l4 + (6 : Int32))) (lv' := [(4, .int (l4 + (6 : Int32))), (6, .int v942), (5, .int v936), (0, .retAddr 27), (1, .ref l1), (2, .ref l2), (3, .ref l3)]) C dL_law_3015 rfl rfl (by decide) rfl ?_
            refine q_goto (tgt := 23) C dL_law_3018 (by decide) ?_
            exact q_sub (lv' := [(0, .retAddr 27), (1, .ref l1), (2, .ref l2), (3, .ref l3), (4, .int (l4 + (6 : Int32)))]) [3, 4, 5, 6, 0] rfl (kc ((l4 + (6 : Int32)), M941) (someI h))
          · have h := ifF c950 h
            refine q_iconst (v := (0 : Int32)) C dL_law_2806 (by decide) ?_
            exact q_lawret C (kf _ (someI h)) dL_law_2807
      · have h := ifF c946 h
        refine q_iconst (v := (0 : Int32)) C dL_law_2789 (by decide) ?_
        exact q_lawret C (kf _ (someI h)) dL_law_2790
    have h := ifF c931 h
    by_cases c951 : (v14 &&& (63 : Int32)) = (44 : Int32)
    · have h := ifT c951 h
      refine q_tableIn (off := 2771) (tgt := 2811) C dL_law_40 (by rw [c951]; decide) (by rw [c951]; decide) (by rw [c951]; rfl) (by decide) ?_
      refine q_aload_n 1 C dL_law_2811 rfl ?_
      refine q_sload_n 0 C dL_law_2812 rfl ?_
      refine q_iload 4 C dL_law_2813 rfl ?_
      refine q_iconst (v := (1 : Int32)) C dL_law_2815 (by decide) ?_
      refine q_iadd C dL_law_2816 ?_
      obtain ⟨v952, e953, h⟩ := bindE h
      refine q_sald C hsc e953 dL_law_2817 ?_
      refine q_aload_n 3 C dL_law_2818 rfl ?_
      obtain ⟨v956, M955, e954, h⟩ := bd2E h
      refine q_callSH (v := some (.int v956)) [.ref l1, .int v952, .ref l3] C hRO lkh_RL_294 sk_L_wide rfl rfl (Nat.le_of_ble_eq_true rfl) (by decide) (by decide) dL_law_2819 (k_L_wide X.1.2.1 hl X.2.2.1 l1 v952 l3 M _ e954) ?_
      refine q_istore (i := 5) (lv' := [(5, .int v956), (0, .retAddr 27), (1, .ref l1), (2, .ref l2), (3, .ref l3), (4, .int l4)]) C dL_law_2822 (by decide) rfl ?_
      refine q_aload_n 3 C dL_law_2824 rfl ?_
      refine q_sload_n 1 C dL_law_2825 rfl ?_
      refine q_iload 5 C dL_law_2826 rfl ?_
      refine q_iconst (v := (1 : Int32)) C dL_law_2828 (by decide) ?_
      refine q_iadd C dL_law_2829 ?_
      obtain ⟨v957, e958, h⟩ := bindE h
      refine q_sald C hsc e958 dL_law_2830 ?_
      obtain ⟨e959, h⟩ := ckOE h
      obtain ⟨v962, M961, e960, h⟩ := bd2E h
      refine q_callV (v := some (.int v962)) [.int v957] C hRO lk_RL_296 vk_X9_wide e959 rfl rfl rfl (Nat.le_of_ble_eq_true rfl) (by decide) (by decide) dL_law_2831 (k_X9_wide X.1.2.1 hl X.2.2.1 l2 v957 M955 _ e960) ?_
      refine q_istore (i := 6) (lv' := [(6, .int v962), (5, .int v956), (0, .retAddr 27), (1, .ref l1), (2, .ref l2), (3, .ref l3), (4, .int l4)]) C dL_law_2834 (by decide) rfl ?_
      refine q_aload_n 4 C dL_law_2836 rfl ?_
      obtain ⟨e963, h⟩ := ckOE h
      obtain ⟨v965, e964, h⟩ := bindE h
      refine q_callV (v := some (.int v965)) [] C hRO lk_RL_156 vk_X9_thrown e963 rfl rfl rfl (Nat.le_of_ble_eq_true rfl) (by decide) (by decide) dL_law_2837 (k_X9_thrown X.1.2.1 hl X.2.2.1 l2 M961 _ e964) ?_
      refine q_iload 1 C dL_law_2840 rfl ?_
      refine q_icmp_eq (tgt := 2847) C dL_law_2842 (by decide) (fun c966 => ?_) (fun c966 => ?_)
      · have h := ifT c966 h
        refine q_iload 1 C dL_law_2847 rfl ?_
        refine q_if_ne (tgt := 2864) C dL_law_2849 (by decide) (fun c967 => ?_) (fun c967 => ?_)
        · have h := ifF c967 h
          refine q_goto (tgt := 3015) C dL_law_2864 (by decide) ?_
          refine q_iinc 6 (v := (l4 + (6 : Int32))) (lv' := [(4, .int (l4 + (6 : Int32))), (6, .int v962), (5, .int v956), (0, .retAddr 27), (1, .ref l1), (2, .ref l2), (3, .ref l3)]) C dL_law_3015 rfl rfl (by decide) rfl ?_
          refine q_goto (tgt := 23) C dL_law_3018 (by decide) ?_
          exact q_sub (lv' := [(0, .retAddr 27), (1, .ref l1), (2, .ref l2), (3, .ref l3), (4, .int (l4 + (6 : Int32)))]) [3, 4, 5, 6, 0] rfl (kc ((l4 + (6 : Int32)), M961) (someI h))
        · have h := ifT c967 h
          refine q_aload_n 5 C dL_law_2852 rfl ?_
          refine q_iconst (v := (0 : Int32)) C dL_law_2853 (by decide) ?_
          obtain ⟨v968, e969, h⟩ := bindE h
          refine q_laload C e969 dL_law_2854 ?_
          refine q_iload 0 C dL_law_2855 rfl ?_
          refine q_i2l C dL_law_2857 ?_
          refine q_lcmp C dL_law_2858 ?_
          refine q_if_eq (tgt := 2864) C dL_law_2859 (by decide) (fun c970 => ?_) (fun c970 => ?_)
          · have h := ifT c970 h
            refine q_goto (tgt := 3015) C dL_law_2864 (by decide) ?_
            refine q_iinc 6 (v := (l4 + (6 : Int32))) (lv' := [(4, .int (l4 + (6 : Int32))), (6, .int v962), (5, .int v956), (0, .retAddr 27), (1, .ref l1), (2, .ref l2), (3, .ref l3)]) C dL_law_3015 rfl rfl (by decide) rfl ?_
            refine q_goto (tgt := 23) C dL_law_3018 (by decide) ?_
            exact q_sub (lv' := [(0, .retAddr 27), (1, .ref l1), (2, .ref l2), (3, .ref l3), (4, .int (l4 + (6 : Int32)))]) [3, 4, 5, 6, 0] rfl (kc ((l4 + (6 : Int32)), M961) (someI h))
          · have h := ifF c970 h
            refine q_iconst (v := (0 : Int32)) C dL_law_2862 (by decide) ?_
            exact q_lawret C (kf _ (someI h)) dL_law_2863
      · have h := ifF c966 h
        refine q_iconst (v := (0 : Int32)) C dL_law_2845 (by decide) ?_
        exact q_lawret C (kf _ (someI h)) dL_law_2846
    have h := ifF c951 h
    by_cases c971 : (v14 &&& (63 : Int32)) = (45 : Int32)
    · have h := ifT c971 h
      refine q_tableIn (off := 2827) (tgt := 2867) C dL_law_40 (by rw [c971]; decide) (by rw [c971]; decide) (by rw [c971]; rfl) (by decide) ?_
      refine q_aload_n 1 C dL_law_2867 rfl ?_
      refine q_sload_n 0 C dL_law_2868 rfl ?_
      refine q_iload 4 C dL_law_2869 rfl ?_
      refine q_iconst (v := (1 : Int32)) C dL_law_2871 (by decide) ?_
      refine q_iadd C dL_law_2872 ?_
      obtain ⟨v972, e973, h⟩ := bindE h
      refine q_sald C hsc e973 dL_law_2873 ?_
      refine q_sload_n 0 C dL_law_2874 rfl ?_
      refine q_iload 4 C dL_law_2875 rfl ?_
      refine q_iconst (v := (2 : Int32)) C dL_law_2877 (by decide) ?_
      refine q_iadd C dL_law_2878 ?_
      obtain ⟨v974, e975, h⟩ := bindE h
      refine q_sald C hsc e975 dL_law_2879 ?_
      refine q_aload_n 3 C dL_law_2880 rfl ?_
      obtain ⟨v978, M977, e976, h⟩ := bd2E h
      refine q_callSH (v := some (.int v978)) [.ref l1, .int v972, .int v974, .ref l3] C hRO lkh_RL_297 sk_L_endures rfl rfl (Nat.le_of_ble_eq_true rfl) (by decide) (by decide) dL_law_2881 (k_L_endures X.1.2.1 hl X.2.2.1 l1 v972 v974 l3 M _ e976) ?_
      refine q_istore (i := 5) (lv' := [(5, .int v978), (0, .retAddr 27), (1, .ref l1), (2, .ref l2), (3, .ref l3), (4, .int l4)]) C dL_law_2884 (by decide) rfl ?_
      refine q_aload_n 3 C dL_law_2886 rfl ?_
      refine q_sload_n 1 C dL_law_2887 rfl ?_
      refine q_iload 5 C dL_law_2888 rfl ?_
      refine q_iconst (v := (1 : Int32)) C dL_law_2890 (by decide) ?_
      refine q_iadd C dL_law_2891 ?_
      obtain ⟨v979, e980, h⟩ := bindE h
      refine q_sald C hsc e980 dL_law_2892 ?_
      refine q_sload_n 1 C dL_law_2893 rfl ?_
      refine q_iload 5 C dL_law_2894 rfl ?_
      refine q_iconst (v := (2 : Int32)) C dL_law_2896 (by decide) ?_
      refine q_iadd C dL_law_2897 ?_
      obtain ⟨v981, e982, h⟩ := bindE h
      refine q_sald C hsc e982 dL_law_2898 ?_
      obtain ⟨e983, h⟩ := ckOE h
      obtain ⟨v986, M985, e984, h⟩ := bd2E h
      refine q_callV (v := some (.int v986)) [.int v979, .int v981] C hRO lk_RL_299 vk_X9_endures e983 rfl rfl rfl (Nat.le_of_ble_eq_true rfl) (by decide) (by decide) dL_law_2899 (k_X9_endures X.1.2.1 hl X.2.2.1 l2 v979 v981 M977 _ e984) ?_
      refine q_istore (i := 6) (lv' := [(6, .int v986), (5, .int v978), (0, .retAddr 27), (1, .ref l1), (2, .ref l2), (3, .ref l3), (4, .int l4)]) C dL_law_2902 (by decide) rfl ?_
      refine q_aload_n 4 C dL_law_2904 rfl ?_
      obtain ⟨e987, h⟩ := ckOE h
      obtain ⟨v989, e988, h⟩ := bindE h
      refine q_callV (v := some (.int v989)) [] C hRO lk_RL_156 vk_X9_thrown e987 rfl rfl rfl (Nat.le_of_ble_eq_true rfl) (by decide) (by decide) dL_law_2905 (k_X9_thrown X.1.2.1 hl X.2.2.1 l2 M985 _ e988) ?_
      refine q_iload 1 C dL_law_2908 rfl ?_
      refine q_icmp_eq (tgt := 2915) C dL_law_2910 (by decide) (fun c990 => ?_) (fun c990 => ?_)
      · have h := ifT c990 h
        refine q_iload 1 C dL_law_2915 rfl ?_
        refine q_if_ne (tgt := 2932) C dL_law_2917 (by decide) (fun c991 => ?_) (fun c991 => ?_)
        · have h := ifF c991 h
          refine q_goto (tgt := 3015) C dL_law_2932 (by decide) ?_
          refine q_iinc 6 (v := (l4 + (6 : Int32))) (lv' := [(4, .int (l4 + (6 : Int32))), (6, .int v986), (5, .int v978), (0, .retAddr 27), (1, .ref l1), (2, .ref l2), (3, .ref l3)]) C dL_law_3015 rfl rfl (by decide) rfl ?_
          refine q_goto (tgt := 23) C dL_law_3018 (by decide) ?_
          exact q_sub (lv' := [(0, .retAddr 27), (1, .ref l1), (2, .ref l2), (3, .ref l3), (4, .int (l4 + (6 : Int32)))]) [3, 4, 5, 6, 0] rfl (kc ((l4 + (6 : Int32)), M985) (someI h))
        · have h := ifT c991 h
          refine q_aload_n 5 C dL_law_2920 rfl ?_
          refine q_iconst (v := (0 : Int32)) C dL_law_2921 (by decide) ?_
          obtain ⟨v992, e993, h⟩ := bindE h
          refine q_laload C e993 dL_law_2922 ?_
          refine q_iload 0 C dL_law_2923 rfl ?_
          refine q_i2l C dL_law_2925 ?_
          refine q_lcmp C dL_law_2926 ?_
          refine q_if_eq (tgt := 2932) C dL_law_2927 (by decide) (fun c994 => ?_) (fun c994 => ?_)
          · have h := ifT c994 h
            refine q_goto (tgt := 3015) C dL_law_2932 (by decide) ?_
            refine q_iinc 6 (v := (l4 + (6 : Int32))) (lv' := [(4, .int (l4 + (6 : Int32))), (6, .int v986), (5, .int v978), (0, .retAddr 27), (1, .ref l1), (2, .ref l2), (3, .ref l3)]) C dL_law_3015 rfl rfl (by decide) rfl ?_
            refine q_goto (tgt := 23) C dL_law_3018 (by decide) ?_
            exact q_sub (lv' := [(0, .retAddr 27), (1, .ref l1), (2, .ref l2), (3, .ref l3), (4, .int (l4 + (6 : Int32)))]) [3, 4, 5, 6, 0] rfl (kc ((l4 + (6 : Int32)), M985) (someI h))
          · have h := ifF c994 h
            refine q_iconst (v := (0 : Int32)) C dL_law_2930 (by decide) ?_
            exact q_lawret C (kf _ (someI h)) dL_law_2931
      · have h := ifF c990 h
        refine q_iconst (v := (0 : Int32)) C dL_law_2913 (by decide) ?_
        exact q_lawret C (kf _ (someI h)) dL_law_2914
    have h := ifF c971 h
    by_cases c995 : (v14 &&& (63 : Int32)) = (46 : Int32)
    · have h := ifT c995 h
      refine q_tableIn (off := 2895) (tgt := 2935) C dL_law_40 (by rw [c995]; decide) (by rw [c995]; decide) (by rw [c995]; rfl) (by decide) ?_
      refine q_aload_n 1 C dL_law_2935 rfl ?_
      refine q_sload_n 0 C dL_law_2936 rfl ?_
      refine q_iload 4 C dL_law_2937 rfl ?_
      refine q_iconst (v := (1 : Int32)) C dL_law_2939 (by decide) ?_
      refine q_iadd C dL_law_2940 ?_
      obtain ⟨v996, e997, h⟩ := bindE h
      refine q_sald C hsc e997 dL_law_2941 ?_
      refine q_aload_n 3 C dL_law_2942 rfl ?_
      obtain ⟨v1000, M999, e998, h⟩ := bd2E h
      refine q_callSH (v := some (.int v1000)) [.ref l1, .int v996, .ref l3] C hRO lkh_RL_300 sk_L_ringed rfl rfl (Nat.le_of_ble_eq_true rfl) (by decide) (by decide) dL_law_2943 (k_L_ringed X.1.2.1 hl X.2.2.1 l1 v996 l3 M _ e998) ?_
      refine q_istore (i := 5) (lv' := [(5, .int v1000), (0, .retAddr 27), (1, .ref l1), (2, .ref l2), (3, .ref l3), (4, .int l4)]) C dL_law_2946 (by decide) rfl ?_
      refine q_aload_n 3 C dL_law_2948 rfl ?_
      refine q_sload_n 1 C dL_law_2949 rfl ?_
      refine q_iload 5 C dL_law_2950 rfl ?_
      refine q_iconst (v := (1 : Int32)) C dL_law_2952 (by decide) ?_
      refine q_iadd C dL_law_2953 ?_
      obtain ⟨v1001, e1002, h⟩ := bindE h
      refine q_sald C hsc e1002 dL_law_2954 ?_
      obtain ⟨e1003, h⟩ := ckOE h
      obtain ⟨v1006, M1005, e1004, h⟩ := bd2E h
      refine q_callV (v := some (.int v1006)) [.int v1001] C hRO lk_RL_302 vk_X9_ringed e1003 rfl rfl rfl (Nat.le_of_ble_eq_true rfl) (by decide) (by decide) dL_law_2955 (k_X9_ringed X.1.2.1 hl X.2.2.1 l2 v1001 M999 _ e1004) ?_
      refine q_istore (i := 6) (lv' := [(6, .int v1006), (5, .int v1000), (0, .retAddr 27), (1, .ref l1), (2, .ref l2), (3, .ref l3), (4, .int l4)]) C dL_law_2958 (by decide) rfl ?_
      refine q_aload_n 4 C dL_law_2960 rfl ?_
      obtain ⟨e1007, h⟩ := ckOE h
      obtain ⟨v1009, e1008, h⟩ := bindE h
      refine q_callV (v := some (.int v1009)) [] C hRO lk_RL_156 vk_X9_thrown e1007 rfl rfl rfl (Nat.le_of_ble_eq_true rfl) (by decide) (by decide) dL_law_2961 (k_X9_thrown X.1.2.1 hl X.2.2.1 l2 M1005 _ e1008) ?_
      refine q_iload 1 C dL_law_2964 rfl ?_
      refine q_icmp_eq (tgt := 2971) C dL_law_2966 (by decide) (fun c1010 => ?_) (fun c1010 => ?_)
      · have h := ifT c1010 h
        refine q_iload 1 C dL_law_2971 rfl ?_
        refine q_if_ne (tgt := 2988) C dL_law_2973 (by decide) (fun c1011 => ?_) (fun c1011 => ?_)
        · have h := ifF c1011 h
          refine q_goto (tgt := 3015) C dL_law_2988 (by decide) ?_
          refine q_iinc 6 (v := (l4 + (6 : Int32))) (lv' := [(4, .int (l4 + (6 : Int32))), (6, .int v1006), (5, .int v1000), (0, .retAddr 27), (1, .ref l1), (2, .ref l2), (3, .ref l3)]) C dL_law_3015 rfl rfl (by decide) rfl ?_
          refine q_goto (tgt := 23) C dL_law_3018 (by decide) ?_
          exact q_sub (lv' := [(0, .retAddr 27), (1, .ref l1), (2, .ref l2), (3, .ref l3), (4, .int (l4 + (6 : Int32)))]) [3, 4, 5, 6, 0] rfl (kc ((l4 + (6 : Int32)), M1005) (someI h))
        · have h := ifT c1011 h
          refine q_aload_n 5 C dL_law_2976 rfl ?_
          refine q_iconst (v := (0 : Int32)) C dL_law_2977 (by decide) ?_
          obtain ⟨v1012, e1013, h⟩ := bindE h
          refine q_laload C e1013 dL_law_2978 ?_
          refine q_iload 0 C dL_law_2979 rfl ?_
          refine q_i2l C dL_law_2981 ?_
          refine q_lcmp C dL_law_2982 ?_
          refine q_if_eq (tgt := 2988) C dL_law_2983 (by decide) (fun c1014 => ?_) (fun c1014 => ?_)
          · have h := ifT c1014 h
            refine q_goto (tgt := 3015) C dL_law_2988 (by decide) ?_
            refine q_iinc 6 (v := (l4 + (6 : Int32))) (lv' := [(4, .int (l4 + (6 : Int32))), (6, .int v1006), (5, .int v1000), (0, .retAddr 27), (1, .ref l1), (2, .ref l2), (3, .ref l3)]) C dL_law_3015 rfl rfl (by decide) rfl ?_
            refine q_goto (tgt := 23) C dL_law_3018 (by decide) ?_
            exact q_sub (lv' := [(0, .retAddr 27), (1, .ref l1), (2, .ref l2), (3, .ref l3), (4, .int (l4 + (6 : Int32)))]) [3, 4, 5, 6, 0] rfl (kc ((l4 + (6 : Int32)), M1005) (someI h))
          · have h := ifF c1014 h
            refine q_iconst (v := (0 : Int32)) C dL_law_2986 (by decide) ?_
            exact q_lawret C (kf _ (someI h)) dL_law_2987
      · have h := ifF c1010 h
        refine q_iconst (v := (0 : Int32)) C dL_law_2969 (by decide) ?_
        exact q_lawret C (kf _ (someI h)) dL_law_2970
    have h := ifF c995 h
    by_cases c1015 : (v14 &&& (63 : Int32)) = (47 : Int32)
    · have h := ifT c1015 h
      refine q_tableIn (off := 2951) (tgt := 2991) C dL_law_40 (by rw [c1015]; decide) (by rw [c1015]; decide) (by rw [c1015]; rfl) (by decide) ?_
      refine q_aload_n 1 C dL_law_2991 rfl ?_
      obtain ⟨e1016, h⟩ := ckOE h
      obtain ⟨M1018, e1017, h⟩ := bindE h
      refine q_callV (v := none) [] C hRO lk_RL_303 vk_X8_image e1016 rfl rfl rfl (Nat.le_of_ble_eq_true rfl) (by decide) (by decide) dL_law_2992 (k_X8_image X.1.2.1 hl X.2.2.1 l1 M _ e1017) ?_
      refine q_aload_n 2 C dL_law_2995 rfl ?_
      obtain ⟨e1020, h⟩ := ckOE h
      obtain ⟨M1022, e1021, h⟩ := bindE h
      refine q_callV (v := none) [] C hRO lk_RL_306 vk_X9_image e1020 rfl rfl rfl (Nat.le_of_ble_eq_true rfl) (by decide) (by decide) dL_law_2996 (k_X9_image X.1.2.1 hl X.2.2.1 l2 M1018 _ e1021) ?_
      refine q_goto (tgt := 3015) C dL_law_2999 (by decide) ?_
      refine q_iinc 4 (v := (l4 + (6 : Int32))) (lv' := [(4, .int (l4 + (6 : Int32))), (0, .retAddr 27), (1, .ref l1), (2, .ref l2), (3, .ref l3)]) C dL_law_3015 rfl rfl (by decide) rfl ?_
      refine q_goto (tgt := 23) C dL_law_3018 (by decide) ?_
      exact q_sub (lv' := [(0, .retAddr 27), (1, .ref l1), (2, .ref l2), (3, .ref l3), (4, .int (l4 + (6 : Int32)))]) [1, 2, 3, 4, 0] rfl (kc ((l4 + (6 : Int32)), M1022) (someI h))
    have h := ifF c1015 h
    by_cases c1024 : (v14 &&& (63 : Int32)) = (48 : Int32)
    · have h := ifT c1024 h
      refine q_tableIn (off := 2962) (tgt := 3002) C dL_law_40 (by rw [c1024]; decide) (by rw [c1024]; decide) (by rw [c1024]; rfl) (by decide) ?_
      refine q_aload_n 1 C dL_law_3002 rfl ?_
      obtain ⟨e1025, h⟩ := ckOE h
      obtain ⟨v1028, M1027, e1026, h⟩ := bd2E h
      refine q_callV (v := some (.int v1028)) [] C hRO lk_RL_307 vk_X8_restore e1025 rfl rfl rfl (Nat.le_of_ble_eq_true rfl) (by decide) (by decide) dL_law_3003 (k_X8_restore X.1.2.1 hl X.2.2.1 l1 M _ e1026) ?_
      refine q_aload_n 2 C dL_law_3006 rfl ?_
      obtain ⟨e1029, h⟩ := ckOE h
      obtain ⟨v1032, M1031, e1030, h⟩ := bd2E h
      refine q_callV (v := some (.int v1032)) [] C hRO lk_RL_311 vk_X9_restore e1029 rfl rfl rfl (Nat.le_of_ble_eq_true rfl) (by decide) (by decide) dL_law_3007 (k_X9_restore X.1.2.1 hl X.2.2.1 l2 M1027 _ e1030) ?_
      refine q_icmp_eq (tgt := 3015) C dL_law_3010 (by decide) (fun c1033 => ?_) (fun c1033 => ?_)
      · have h := ifT c1033 h
        refine q_iinc 4 (v := (l4 + (6 : Int32))) (lv' := [(4, .int (l4 + (6 : Int32))), (0, .retAddr 27), (1, .ref l1), (2, .ref l2), (3, .ref l3)]) C dL_law_3015 rfl rfl (by decide) rfl ?_
        refine q_goto (tgt := 23) C dL_law_3018 (by decide) ?_
        exact q_sub (lv' := [(0, .retAddr 27), (1, .ref l1), (2, .ref l2), (3, .ref l3), (4, .int (l4 + (6 : Int32)))]) [1, 2, 3, 4, 0] rfl (kc ((l4 + (6 : Int32)), M1031) (someI h))
      · have h := ifF c1033 h
        refine q_iconst (v := (0 : Int32)) C dL_law_3013 (by decide) ?_
        exact q_lawret C (kf _ (someI h)) dL_law_3014
    have h := ifF c1024 h
    refine q_tableOut (tgt := 3015) C dL_law_40 (by have z0 := neI c16; have z1 := neI c46; have z2 := neI c66; have z3 := neI c75; have z4 := neI c95; have z5 := neI c119; have z6 := neI c143; have z7 := neI c167; have z8 := neI c181; have z9 := neI c205; have z10 := neI c225; have z11 := neI c249; have z12 := neI c274; have z13 := neI c284; have z14 := neI c294; have z15 := neI c322; have z16 := neI c346; have z17 := neI c366; have z18 := neI c386; have z19 := neI c406; have z20 := neI c426; have z21 := neI c446; have z22 := neI c466; have z23 := neI c486; have z24 := neI c506; have z25 := neI c530; have z26 := neI c554; have z27 := neI c574; have z28 := neI c602; have z29 := neI c611; have z30 := neI c631; have z31 := neI c651; have z32 := neI c679; have z33 := neI c711; have z34 := neI c739; have z35 := neI c759; have z36 := neI c783; have z37 := neI c803; have z38 := neI c823; have z39 := neI c843; have z40 := neI c863; have z41 := neI c883; have z42 := neI c911; have z43 := neI c931; have z44 := neI c951; have z45 := neI c971; have z46 := neI c995; have z47 := neI c1015; have z48 := neI c1024; simp only [Int32.reduceToInt] at *; omega) (by decide) ?_
    refine q_iinc 4 (v := (l4 + (6 : Int32))) (lv' := [(4, .int (l4 + (6 : Int32))), (0, .retAddr 27), (1, .ref l1), (2, .ref l2), (3, .ref l3)]) C dL_law_3015 rfl rfl (by decide) rfl ?_
    refine q_goto (tgt := 23) C dL_law_3018 (by decide) ?_
    exact q_sub (lv' := [(0, .retAddr 27), (1, .ref l1), (2, .ref l2), (3, .ref l3), (4, .int (l4 + (6 : Int32)))]) [1, 2, 3, 4, 0] rfl (kc ((l4 + (6 : Int32)), M) (someI h))
theorem w_L_law_l23 {X : CX} {r : (Mem) ⊕ (Int32 × Mem)} (C : CK X cL_law 7 RL 2048 84000) (hRO : RO X.2.2.1 X.1.2.2.2.2.1 X.1.2.2.2.2.1.heap) (hl : X.1.2.1.stackTraces = false) {L : Nat} {xs : Nat → Int32} (hsc : HSC X L xs) (l1 : Nat) (l2 : Nat) (l3 : Nat) (l4 : Int32) (M : Mem) (h : loop (fun s => F_L_law_s23 l1 l2 l3 s.1 s.2 L xs) (l4, M) = some r) (kx : ∀ e' : Mem, r = .inl e' → wq X 7 3021 [(0, .retAddr 27)] [] e') (kf : ∀ f' : Int32 × Mem, r = .inr f' → FINL X f') : wq X 7 23 [(0, .retAddr 27), (1, .ref l1), (2, .ref l2), (3, .ref l3), (4, .int l4)] [] M :=
  loop_ind (P := fun s => wq X 7 23 [(0, .retAddr 27), (1, .ref l1), (2, .ref l2), (3, .ref l3), (4, .int s.1)] [] s.2) h (fun s y hy kc kr => w_L_law_s23 C hRO hl hsc l1 l2 l3 s.1 s.2 hy kc (fun e' he => kx e' (kr _ he).symm) (fun f' he => kf f' (kr _ he).symm))
set_option maxRecDepth 100000 in
set_option maxHeartbeats 4000000 in
theorem w_L_law {X : CX} {y : Int32 × Mem} (C : CK X cL_law 7 RL 2048 84000) (hRO : RO X.2.2.1 X.1.2.2.2.2.1 X.1.2.2.2.2.1.heap) (hl : X.1.2.1.stackTraces = false) {L : Nat} {xs : Nat → Int32} (hsc : HSC X L xs)  (M : Mem) (h : F_L_law  M L xs = some y) (kf : FINL X y) : wq X 7 0 [(0, .retAddr 27)] [] M := by
  unfold F_L_law at h
  obtain ⟨M1, e2, h⟩ := bindE h
  refine q_new (ci := 8) C rfl cl_RL_8 ib_8 in_8 e2 dL_law_0 ?_
  refine q_dup C dL_law_3 rfl ?_
  obtain ⟨M4, e3, h⟩ := bindE h
  refine q_callI [] C hRO rfl lk_RL_141 ik_X8_init rfl rfl (Nat.le_of_ble_eq_true rfl) (by decide) (by decide) dL_law_4 (k_X8_init X.1.2.1 hl X.2.2.1 M.1.length M1 _ e3) ?_
  refine q_astore_n (i := 1) (lv' := [(1, .ref M.1.length), (0, .retAddr 27)]) C dL_law_7 rfl (by decide) rfl ?_
  obtain ⟨M6, e7, h⟩ := bindE h
  refine q_new (ci := 9) C rfl cl_RL_142 ib_9 in_9 e7 dL_law_8 ?_
  refine q_dup C dL_law_11 rfl ?_
  obtain ⟨M9, e8, h⟩ := bindE h
  refine q_callI [] C hRO rfl lk_RL_144 ik_X9_init rfl rfl (Nat.le_of_ble_eq_true rfl) (by decide) (by decide) dL_law_12 (k_X9_init X.1.2.1 hl X.2.2.1 M4.1.length M6 _ e8) ?_
  refine q_astore_n (i := 2) (lv' := [(2, .ref M4.1.length), (1, .ref M.1.length), (0, .retAddr 27)]) C dL_law_15 rfl (by decide) rfl ?_
  refine q_iconst (v := (1 : Int32)) C dL_law_16 (by decide) ?_
  obtain ⟨M11, e12, h⟩ := bindE h
  refine q_newJ C ar_long e12 dL_law_17 ?_
  refine q_astore_n (i := 3) (lv' := [(3, .ref M9.1.length), (2, .ref M4.1.length), (1, .ref M.1.length), (0, .retAddr 27)]) C dL_law_19 rfl (by decide) rfl ?_
  refine q_iconst (v := (0 : Int32)) C dL_law_20 (by decide) ?_
  refine q_istore (i := 4) (lv' := [(4, .int (0 : Int32)), (3, .ref M9.1.length), (2, .ref M4.1.length), (1, .ref M.1.length), (0, .retAddr 27)]) C dL_law_21 (by decide) rfl ?_
  obtain ⟨r1034, e1035, h⟩ := bindE h
  refine q_sub (lv' := [(0, .retAddr 27), (1, .ref M.1.length), (2, .ref M4.1.length), (3, .ref M9.1.length), (4, .int (0 : Int32))]) [4, 3, 2, 1, 0] rfl (w_L_law_l23 C hRO hl hsc M.1.length M4.1.length M9.1.length (0 : Int32) M11 e1035 (fun M1036 he => ?_) (fun f1038 he => ?_))
  · subst he
    have h := elimL h
    show wq X 7 3021 [(0, .retAddr 27)] [] M1036
    refine q_iconst (v := (1 : Int32)) C dL_law_3021 (by decide) ?_
    cases h
    exact q_lawret C kf dL_law_3022
  · subst he
    have h := elimR h
    cases h
    exact kf
