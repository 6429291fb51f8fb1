/-! X8_worn -/
set_option maxRecDepth 100000 in
set_option maxHeartbeats 4000000 in
theorem w_X8_worn {X : CX} {y : (Int32 × Mem) ⊕ (Nat × Mem)} (C : CK X cX8_worn 3 RX8 13 281) (hRO : RO X.2.2.1 X.1.2.2.2.2.1 X.1.2.2.2.2.1.heap) (hl : X.1.2.1.stackTraces = false) (l0 : Nat) (l1 : Int32) (l2 : Int32) (M : Mem) (h : F_X8_worn l0 l1 l2 M = some y) (kf : FIN X (some .int) (rs_tI y) (ms_tI y)) : wq X 3 0 [(0, .ref l0), (1, .int l1), (2, .int l2)] [] M := by
  unfold F_X8_worn at h
  refine q_aload_n 0 C dX8_worn_0 rfl ?_
  refine q_iload_n 1 C dX8_worn_1 rfl ?_
  obtain ⟨e1, h⟩ := ckOE h
  rcases bdVE h with ⟨M3, e2, h⟩ | ⟨x18, M19, e2, h⟩
  · refine q_callV (v := none) [.int l1] C hRO lk_RX8_186 vk_X8_needHouse e1 rfl rfl rfl (Nat.le_of_ble_eq_true rfl) (by decide) (by decide) dX8_worn_2 (k_X8_needHouse X.1.2.1 hl X.2.2.1 l0 l1 M _ e2) ?_
    refine q_iload_n 2 C dX8_worn_5 rfl ?_
    refine q_iconst (v := (0 : Int32)) C dX8_worn_6 (by decide) ?_
    rcases bdVE h with ⟨M6, e5, h⟩ | ⟨x16, M17, e5, h⟩
    · refine q_callS (v := none) [.int l2, .int (0 : Int32)] C hRO lk_RX8_280 sk_X8_needDays rfl rfl (Nat.le_of_ble_eq_true rfl) (by decide) (by decide) dX8_worn_7 (k_X8_needDays X.1.2.1 hl X.2.2.1 l2 (0 : Int32) M3 _ e5) ?_
      refine q_aload_n 0 C dX8_worn_10 rfl ?_
      refine q_iload_n 2 C dX8_worn_11 rfl ?_
      obtain ⟨e8, h⟩ := ckOE h
      obtain ⟨v11, M10, e9, h⟩ := bd2E h
      refine q_callV (v := some (.ref v11)) [.int l2] C hRO lk_RX8_283 vk_X8_after e8 rfl rfl rfl (Nat.le_of_ble_eq_true rfl) (by decide) (by decide) dX8_worn_12 (k_X8_after X.1.2.1 hl X.2.2.1 l0 l2 M6 _ e9) ?_
      obtain ⟨v12, e13, h⟩ := bindE h
      refine q_getP C fl_RX8_197 rfl e13 dX8_worn_15 ?_
      refine q_iload_n 1 C dX8_worn_18 rfl ?_
      obtain ⟨v14, e15, h⟩ := bindE h
      refine q_iaload C e15 dX8_worn_19 ?_
      cases h
      exact q_iret C kf dX8_worn_20
    · skip
      cases h
      exact q_callSX [.int l2, .int (0 : Int32)] C kf lk_RX8_280 sk_X8_needDays rfl rfl (Nat.le_of_ble_eq_true rfl) (by decide) (by decide) dX8_worn_7 (k_X8_needDays X.1.2.1 hl X.2.2.1 l2 (0 : Int32) M3 _ e5)
  · skip
    cases h
    exact q_callVX [.int l1] C kf lk_RX8_186 vk_X8_needHouse e1 rfl rfl rfl (Nat.le_of_ble_eq_true rfl) (by decide) (by decide) dX8_worn_2 (k_X8_needHouse X.1.2.1 hl X.2.2.1 l0 l1 M _ e2)
theorem k_X8_worn (l : Launch) (hl : l.stackTraces = false) (G : GG) (l0 : Nat) (l1 : Int32) (l2 : Int32) (M : Mem) (x : (Int32 × Mem) ⊕ (Nat × Mem)) (h : F_X8_worn l0 l1 l2 M = some x) : Ct l G yX8_worn (.code yX8_worn cX8_worn 3 (some .int)) 13 281 [.ref l0, .int l1, .int l2] M (rs_tI x) (ms_tI x) := by
  refine Ct_of (by decide +kernel) (Nat.le_of_ble_eq_true rfl) fun X e1 e2 e3 C FN hnm => ?_
  subst e1; subst e2
  show wq X 3 0 [(0, .ref l0), (1, .int l1), (2, .int l2)] [] M
  exact w_X8_worn C FN.2.2.2 hl l0 l1 l2 M h FN
/-! X8_wornest -/
set_option maxRecDepth 100000 in
set_option maxHeartbeats 4000000 in
theorem w_X8_wornest {X : CX} {y : (Int32 × Mem) ⊕ (Nat × Mem)} (C : CK X cX8_wornest 2 RX8 13 281) (hRO : RO X.2.2.1 X.1.2.2.2.2.1 X.1.2.2.2.2.1.heap) (hl : X.1.2.1.stackTraces = false) (l0 : Nat) (l1 : Int32) (M : Mem) (h : F_X8_wornest l0 l1 M = some y) (kf : FIN X (some .int) (rs_tI y) (ms_tI y)) : wq X 2 0 [(0, .ref l0), (1, .int l1)] [] M := by
  unfold F_X8_wornest at h
  refine q_iload_n 1 C dX8_wornest_0 rfl ?_
  refine q_iconst (v := (0 : Int32)) C dX8_wornest_1 (by decide) ?_
  rcases bdVE h with ⟨M2, e1, h⟩ | ⟨x16, M17, e1, h⟩
  · refine q_callS (v := none) [.int l1, .int (0 : Int32)] C hRO lk_RX8_280 sk_X8_needDays rfl rfl (Nat.le_of_ble_eq_true rfl) (by decide) (by decide) dX8_wornest_2 (k_X8_needDays X.1.2.1 hl X.2.2.1 l1 (0 : Int32) M _ e1) ?_
    refine q_aload_n 0 C dX8_wornest_5 rfl ?_
    refine q_iload_n 1 C dX8_wornest_6 rfl ?_
    obtain ⟨e4, h⟩ := ckOE h
    obtain ⟨v7, M6, e5, h⟩ := bd2E h
    refine q_callV (v := some (.ref v7)) [.int l1] C hRO lk_RX8_283 vk_X8_after e4 rfl rfl rfl (Nat.le_of_ble_eq_true rfl) (by decide) (by decide) dX8_wornest_7 (k_X8_after X.1.2.1 hl X.2.2.1 l0 l1 M2 _ e5) ?_
    obtain ⟨v8, e9, h⟩ := bindE h
    refine q_getP C fl_RX8_197 rfl e9 dX8_wornest_10 ?_
    refine q_aload_n 0 C dX8_wornest_13 rfl ?_
    obtain ⟨v10, e11, h⟩ := bindE h
    refine q_getP C fl_RX8_23 rfl e11 dX8_wornest_14 ?_
    obtain ⟨v12, e13, h⟩ := bindE h
    refine q_getI C fl_RX8_119 rfl e13 dX8_wornest_17 ?_
    obtain ⟨v15, e14, h⟩ := bindE h
    refine q_callS (v := some (.int v15)) [.ref v8, .int v12] C hRO lk_RX8_392 sk_X8_leastOfMost rfl rfl (Nat.le_of_ble_eq_true rfl) (by decide) (by decide) dX8_wornest_20 (k_X8_leastOfMost X.1.2.1 hl X.2.2.1 v8 v12 M6 _ e14) ?_
    cases h
    exact q_iret C kf dX8_wornest_23
  · skip
    cases h
    exact q_callSX [.int l1, .int (0 : Int32)] C kf lk_RX8_280 sk_X8_needDays rfl rfl (Nat.le_of_ble_eq_true rfl) (by decide) (by decide) dX8_wornest_2 (k_X8_needDays X.1.2.1 hl X.2.2.1 l1 (0 : Int32) M _ e1)
theorem k_X8_wornest (l : Launch) (hl : l.stackTraces = false) (G : GG) (l0 : Nat) (l1 : Int32) (M : Mem) (x : (Int32 × Mem) ⊕ (Nat × Mem)) (h : F_X8_wornest l0 l1 M = some x) : Ct l G yX8_wornest (.code yX8_wornest cX8_wornest 2 (some .int)) 13 281 [.ref l0, .int l1] M (rs_tI x) (ms_tI x) := by
  refine Ct_of (by decide +kernel) (Nat.le_of_ble_eq_true rfl) fun X e1 e2 e3 C FN hnm => ?_
  subst e1; subst e2
  show wq X 2 0 [(0, .ref l0), (1, .int l1)] [] M
  exact w_X8_wornest C FN.2.2.2 hl l0 l1 M h FN
/-! X8_wriggles -/
set_option maxRecDepth 100000 in
set_option maxHeartbeats 4000000 in
theorem w_X8_wriggles_s18 {X : CX} {y : (Int32 × Mem) ⊕ ((Mem) ⊕ ((Int32 × Mem) ⊕ (Nat × Mem)))} (C : CK X cX8_wriggles 3 RX8 12 260) (hRO : RO X.2.2.1 X.1.2.2.2.2.1 X.1.2.2.2.2.1.heap) (hl : X.1.2.1.stackTraces = false) (l0 : Nat) (l1 : Int32) (l2 : Int32) (M : Mem) (h : F_X8_wriggles_s18 l0 l1 l2 M = some y) (kc : ∀ s' : Int32 × Mem, y = .inl s' → wq X 3 18 [(0, .ref l0), (1, .int l1), (2, .int (s'.1))] [] s'.2) (kx : ∀ e' : Mem, y = (.inr (.inl e')) → wq X 3 62 [] [] e') (kf : ∀ f' : (Int32 × Mem) ⊕ (Nat × Mem), y = (.inr (.inr f')) → FIN X (some .int) (rs_tI f') (ms_tI f')) : wq X 3 18 [(0, .ref l0), (1, .int l1), (2, .int l2)] [] M := by
  unfold F_X8_wriggles_s18 at h
  refine q_iload_n 2 C dX8_wriggles_18 rfl ?_
  refine q_bipush (v := (40 : Int32)) C dX8_wriggles_19 (by decide) ?_
  refine q_icmp_gt (tgt := 62) C dX8_wriggles_21 (by decide) (fun c13 => ?_) (fun c13 => ?_)
  · have h := ifT c13 h
    exact q_sub (lv' := []) [] rfl (kx M (someI h))
  · have h := ifF c13 h
    refine q_aload_n 0 C dX8_wriggles_24 rfl ?_
    refine q_aload_n 0 C dX8_wriggles_25 rfl ?_
    obtain ⟨v14, e15, h⟩ := bindE h
    refine q_getP C fl_RX8_37 rfl e15 dX8_wriggles_26 ?_
    refine q_iconst (v := (1 : Int32)) C dX8_wriggles_29 (by decide) ?_
    obtain ⟨e16, h⟩ := ckOE h
    obtain ⟨M18, e17, h⟩ := bindE h
    refine q_callV (v := none) [.ref v14, .int (1 : Int32)] C hRO lk_RX8_245 vk_X8_pass e16 rfl rfl rfl (Nat.le_of_ble_eq_true rfl) (by decide) (by decide) dX8_wriggles_30 (k_X8_pass X.1.2.1 hl X.2.2.1 l0 v14 (1 : Int32) M _ e17) ?_
    refine q_aload_n 0 C dX8_wriggles_33 rfl ?_
    obtain ⟨v20, e21, h⟩ := bindE h
    refine q_getP C fl_RX8_37 rfl e21 dX8_wriggles_34 ?_
    obtain ⟨v22, e23, h⟩ := bindE h
    refine q_getP C fl_RX8_165 rfl e23 dX8_wriggles_37 ?_
    refine q_iload_n 1 C dX8_wriggles_40 rfl ?_
    obtain ⟨v24, e25, h⟩ := bindE h
    refine q_iaload C e25 dX8_wriggles_41 ?_
    refine q_aload_n 0 C dX8_wriggles_42 rfl ?_
    obtain ⟨v26, e27, h⟩ := bindE h
    refine q_getP C fl_RX8_33 rfl e27 dX8_wriggles_43 ?_
    obtain ⟨v28, e29, h⟩ := bindE h
    refine q_getP C fl_RX8_165 rfl e29 dX8_wriggles_46 ?_
    refine q_iload_n 1 C dX8_wriggles_49 rfl ?_
    obtain ⟨v30, e31, h⟩ := bindE h
    refine q_iaload C e31 dX8_wriggles_50 ?_
    refine q_icmp_le (tgt := 56) C dX8_wriggles_51 (by decide) (fun c32 => ?_) (fun c32 => ?_)
    · have h := ifT c32 h
      refine q_iinc 2 (v := (l2 + (1 : Int32))) (lv' := [(2, .int (l2 + (1 : Int32))), (0, .ref l0), (1, .int l1)]) C dX8_wriggles_56 rfl rfl (by decide) rfl ?_
      refine q_goto (tgt := 18) C dX8_wriggles_59 (by decide) ?_
      exact q_sub (lv' := [(0, .ref l0), (1, .int l1), (2, .int (l2 + (1 : Int32)))]) [1, 2, 0] rfl (kc ((l2 + (1 : Int32)), M18) (someI h))
    · have h := ifF c32 h
      refine q_iload_n 2 C dX8_wriggles_54 rfl ?_
      exact q_iret C (kf _ (someI h)) dX8_wriggles_55
theorem w_X8_wriggles_l18 {X : CX} {r : (Mem) ⊕ ((Int32 × Mem) ⊕ (Nat × Mem))} (C : CK X cX8_wriggles 3 RX8 12 260) (hRO : RO X.2.2.1 X.1.2.2.2.2.1 X.1.2.2.2.2.1.heap) (hl : X.1.2.1.stackTraces = false) (l0 : Nat) (l1 : Int32) (l2 : Int32) (M : Mem) (h : loop (fun s => F_X8_wriggles_s18 l0 l1 s.1 s.2) (l2, M) = some r) (kx : ∀ e' : Mem, r = .inl e' → wq X 3 62 [] [] e') (kf : ∀ f' : (Int32 × Mem) ⊕ (Nat × Mem), r = .inr f' → FIN X (some .int) (rs_tI f') (ms_tI f')) : wq X 3 18 [(0, .ref l0), (1, .int l1), (2, .int l2)] [] M :=
  loop_ind (P := fun s => wq X 3 18 [(0, .ref l0), (1, .int l1), (2, .int s.1)] [] s.2) h (fun s y hy kc kr => w_X8_wriggles_s18 C hRO hl l0 l1 s.1 s.2 hy kc (fun e' he => kx e' (kr _ he).symm) (fun f' he => kf f' (kr _ he).symm))
set_option maxRecDepth 100000 in
set_option maxHeartbeats 4000000 in
theorem w_X8_wriggles {X : CX} {y : (Int32 × Mem) ⊕ (Nat × Mem)} (C : CK X cX8_wriggles 3 RX8 12 260) (hRO : RO X.2.2.1 X.1.2.2.2.2.1 X.1.2.2.2.2.1.heap) (hl : X.1.2.1.stackTraces = false) (l0 : Nat) (l1 : Int32) (M : Mem) (h : F_X8_wriggles l0 l1 M = some y) (kf : FIN X (some .int) (rs_tI y) (ms_tI y)) : wq X 3 0 [(0, .ref l0), (1, .int l1)] [] M := by
  unfold F_X8_wriggles at h
  refine q_aload_n 0 C dX8_wriggles_0 rfl ?_
  refine q_iload_n 1 C dX8_wriggles_1 rfl ?_
  obtain ⟨e1, h⟩ := ckOE h
  rcases bdVE h with ⟨M3, e2, h⟩ | ⟨x38, M39, e2, h⟩
  · refine q_callV (v := none) [.int l1] C hRO lk_RX8_223 vk_X8_needPerson e1 rfl rfl rfl (Nat.le_of_ble_eq_true rfl) (by decide) (by decide) dX8_wriggles_2 (k_X8_needPerson X.1.2.1 hl X.2.2.1 l0 l1 M _ e2) ?_
    refine q_aload_n 0 C dX8_wriggles_5 rfl ?_
    obtain ⟨v5, e6, h⟩ := bindE h
    refine q_getP C fl_RX8_37 rfl e6 dX8_wriggles_6 ?_
    refine q_aload_n 0 C dX8_wriggles_9 rfl ?_
    obtain ⟨v7, e8, h⟩ := bindE h
    refine q_getP C fl_RX8_33 rfl e8 dX8_wriggles_10 ?_
    obtain ⟨e9, h⟩ := ckOE h
    obtain ⟨M11, e10, h⟩ := bindE h
    refine q_callV (v := none) [.ref v7] C hRO lk_RX8_274 vk_X6_copy e9 rfl rfl rfl (Nat.le_of_ble_eq_true rfl) (by decide) (by decide) dX8_wriggles_13 (k_X6_copy X.1.2.1 hl X.2.2.1 v5 v7 M3 _ e10) ?_
    refine q_iconst (v := (1 : Int32)) C dX8_wriggles_16 (by decide) ?_
    refine q_istore_n (i := 2) (lv' := [(2, .int (1 : Int32)), (0, .ref l0), (1, .int l1)]) C dX8_wriggles_17 rfl (by decide) rfl ?_
    obtain ⟨r33, e34, h⟩ := bindE h
    refine q_sub (lv' := [(0, .ref l0), (1, .int l1), (2, .int (1 : Int32))]) [1, 2, 0] rfl (w_X8_wriggles_l18 C hRO hl l0 l1 (1 : Int32) M11 e34 (fun M35 he => ?_) (fun f37 he => ?_))
    · subst he
      have h := elimL h
      show wq X 3 62 [] [] M35
      refine q_iconst (v := (-1 : Int32)) C dX8_wriggles_62 (by decide) ?_
      cases h
      exact q_iret C kf dX8_wriggles_63
    · subst he
      have h := elimR h
      cases h
      exact kf
  · skip
    cases h
    exact q_callVX [.int l1] C kf lk_RX8_223 vk_X8_needPerson e1 rfl rfl rfl (Nat.le_of_ble_eq_true rfl) (by decide) (by decide) dX8_wriggles_2 (k_X8_needPerson X.1.2.1 hl X.2.2.1 l0 l1 M _ e2)
theorem k_X8_wriggles (l : Launch) (hl : l.stackTraces = false) (G : GG) (l0 : Nat) (l1 : Int32) (M : Mem) (x : (Int32 × Mem) ⊕ (Nat × Mem)) (h : F_X8_wriggles l0 l1 M = some x) : Ct l G yX8_wriggles (.code yX8_wriggles cX8_wriggles 3 (some .int)) 12 260 [.ref l0, .int l1] M (rs_tI x) (ms_tI x) := by
  refine Ct_of (by decide +kernel) (Nat.le_of_ble_eq_true rfl) fun X e1 e2 e3 C FN hnm => ?_
  subst e1; subst e2
  show wq X 3 0 [(0, .ref l0), (1, .int l1)] [] M
  exact w_X8_wriggles C FN.2.2.2 hl l0 l1 M h FN
/-! X8_years -/
set_option maxRecDepth 100000 in
set_option maxHeartbeats 4000000 in
theorem w_X8_years_j117_27 {X : CX} {y : (Int32 × Int32 × Mem) ⊕ (Mem)} (C : CK X cX8_years 8 RX8 12 260) (hRO : RO X.2.2.1 X.1.2.2.2.2.1 X.1.2.2.2.2.1.heap) (hl : X.1.2.1.stackTraces = false) (l0 : Nat) (l2 : Int32) (l3 : Int32) (l4 : Int32) (l5 : Int32) (l6 : Int32) (M : Mem) (h : F_X8_years_j117_27 l0 l2 l4 l5 l6 M = some y) (kc : ∀ s' : Int32 × Int32 × Mem, y = .inl s' → wq X 8 27 [(0, .ref l0), (2, .int l2), (3, .int l3), (4, .int (s'.1)), (5, .int (s'.2.1))] [] s'.2.2) (kx : ∀ e' : Mem, y = (.inr e') → wq X 8 136 [(0, .ref l0), (3, .int l3)] [] e') : wq X 8 117 [(0, .ref l0), (2, .int l2), (3, .int l3), (4, .int l4), (5, .int l5), (6, .int l6)] [] M := by
  unfold F_X8_years_j117_27 at h
  refine q_aload_n 0 C dX8_years_117 rfl ?_
  obtain ⟨v25, e26, h⟩ := bindE h
  refine q_getP C fl_RX8_23 rfl e26 dX8_years_118 ?_
  refine q_aload_n 0 C dX8_years_121 rfl ?_
  obtain ⟨v27, e28, h⟩ := bindE h
  refine q_getP C fl_RX8_37 rfl e28 dX8_years_122 ?_
  refine q_iload 5 C dX8_years_125 rfl ?_
  obtain ⟨e29, h⟩ := ckOE h
  obtain ⟨M31, e30, h⟩ := bindE h
  refine q_callV (v := none) [.ref v27, .int l6] C hRO lk_RX8_273 vk_X2_pass e29 rfl rfl rfl (Nat.le_of_ble_eq_true rfl) (by decide) (by decide) dX8_years_127 (k_X2_pass X.1.2.1 hl X.2.2.1 v25 v27 l6 M _ e30) ?_
  refine q_iinc 4 (v := (l5 + (1 : Int32))) (lv' := [(5, .int (l5 + (1 : Int32))), (0, .ref l0), (2, .int l2), (3, .int l3), (4, .int l4), (6, .int l6)]) C dX8_years_130 rfl rfl (by decide) rfl ?_
  refine q_goto (tgt := 27) C dX8_years_133 (by decide) ?_
  exact q_sub (lv' := [(0, .ref l0), (2, .int l2), (3, .int l3), (4, .int l4), (5, .int (l5 + (1 : Int32)))]) [1, 2, 3, 4, 0] rfl (kc (l4, (l5 + (1 : Int32)), M31) (someI h))
set_option maxRecDepth 100000 in
set_option maxHeartbeats 4000000 in
theorem w_X8_years_s27 {X : CX} {y : (Int32 × Int32 × Mem) ⊕ (Mem)} (C : CK X cX8_years 8 RX8 12 260) (hRO : RO X.2.2.1 X.1.2.2.2.2.1 X.1.2.2.2.2.1.heap) (hl : X.1.2.1.stackTraces = false) (l0 : Nat) (l2 : Int32) (l3 : Int32) (l4 : Int32) (l5 : Int32) (M : Mem) (h : F_X8_years_s27 l0 l2 l4 l5 M = some y) (kc : ∀ s' : Int32 × Int32 × Mem, y = .inl s' → wq X 8 27 [(0, .ref l0), (2, .int l2), (3, .int l3), (4, .int (s'.1)), (5, .int (s'.2.1))] [] s'.2.2) (kx : ∀ e' : Mem, y = (.inr e') → wq X 8 136 [(0, .ref l0), (3, .int l3)] [] e') : wq X 8 27 [(0, .ref l0), (2, .int l2), (3, .int l3), (4, .int l4), (5, .int l5)] [] M := by
  unfold F_X8_years_s27 at h
  refine q_iload 4 C dX8_years_27 rfl ?_
  refine q_iload_n 1 C dX8_years_29 rfl ?_
  refine q_icmp_ge (tgt := 136) C dX8_years_30 (by decide) (fun c15 => ?_) (fun c15 => ?_)
  · have h := ifT c15 h
    exact q_sub (lv' := [(0, .ref l0), (3, .int l3)]) [0, 2] rfl (kx M (someI h))
  · have h := ifF c15 h
    refine q_iload 3 C dX8_years_33 rfl ?_
    obtain ⟨v17, e16, h⟩ := bindE h
    refine q_callS (v := some (.int v17)) [.int l4] C hRO lk_RX8_375 sk_X8_drawAfter rfl rfl (Nat.le_of_ble_eq_true rfl) (by decide) (by decide) dX8_years_35 (k_X8_drawAfter X.1.2.1 hl X.2.2.1 l4 M _ e16) ?_
    refine q_istore (i := 4) (lv' := [(4, .int v17), (0, .ref l0), (2, .int l2), (3, .int l3), (5, .int l5)]) C dX8_years_38 (by decide) rfl ?_
    refine q_iload 0 C dX8_years_40 rfl ?_
    refine q_bipush (v := (10 : Int32)) C dX8_years_42 (by decide) ?_
    obtain ⟨v19, e18, h⟩ := bindE h
    refine q_callS (v := some (.int v19)) [.int v17, .int (10 : Int32)] C hRO lk_RX8_378 sk_X8_draw rfl rfl (Nat.le_of_ble_eq_true rfl) (by decide) (by decide) dX8_years_44 (k_X8_draw X.1.2.1 hl X.2.2.1 v17 (10 : Int32) M _ e18) ?_
    refine q_istore (i := 6) (lv' := [(6, .int v19), (4, .int v17), (0, .ref l0), (2, .int l2), (3, .int l3), (5, .int l5)]) C dX8_years_47 (by decide) rfl ?_
    refine q_aload_n 2 C dX8_years_49 rfl ?_
    obtain ⟨v20, e21, h⟩ := bindE h
    refine q_getP C fl_RX8_23 rfl e21 dX8_years_50 ?_
    obtain ⟨v22, e23, h⟩ := bindE h
    refine q_getI C fl_RX8_122 rfl e23 dX8_years_53 ?_
    refine q_if_le (tgt := 117) C dX8_years_56 (by decide) (fun c24 => ?_) (fun c24 => ?_)
    · have h := ifT c24 h
      exact q_sub (lv' := [(0, .ref l0), (2, .int l2), (3, .int l3), (4, .int v17), (5, .int l5), (6, .int v19)]) [2, 3, 4, 1, 5, 0] rfl (w_X8_years_j117_27 C hRO hl l0 l2 l3 v17 l5 v19 M h kc kx)
    · have h := ifF c24 h
      refine q_aload_n 2 C dX8_years_59 rfl ?_
      obtain ⟨v33, e34, h⟩ := bindE h
      refine q_getP C fl_RX8_23 rfl e34 dX8_years_60 ?_
      obtain ⟨v35, e36, h⟩ := bindE h
      refine q_getI C fl_RX8_119 rfl e36 dX8_years_63 ?_
      refine q_if_le (tgt := 117) C dX8_years_66 (by decide) (fun c37 => ?_) (fun c37 => ?_)
      · have h := ifT c37 h
        exact q_sub (lv' := [(0, .ref l0), (2, .int l2), (3, .int l3), (4, .int v17), (5, .int l5), (6, .int v19)]) [2, 3, 4, 1, 5, 0] rfl (w_X8_years_j117_27 C hRO hl l0 l2 l3 v17 l5 v19 M h kc kx)
      · have h := ifF c37 h
        refine q_iload 1 C dX8_years_69 rfl ?_
        obtain ⟨v39, e38, h⟩ := bindE h
        refine q_callS (v := some (.int v39)) [.int v17] C hRO lk_RX8_375 sk_X8_drawAfter rfl rfl (Nat.le_of_ble_eq_true rfl) (by decide) (by decide) dX8_years_71 (k_X8_drawAfter X.1.2.1 hl X.2.2.1 v17 M _ e38) ?_
        refine q_istore (i := 4) (lv' := [(4, .int v39), (6, .int v19), (0, .ref l0), (2, .int l2), (3, .int l3), (5, .int l5)]) C dX8_years_74 (by decide) rfl ?_
        refine q_iload 0 C dX8_years_76 rfl ?_
        refine q_aload_n 2 C dX8_years_78 rfl ?_
        obtain ⟨v40, e41, h⟩ := bindE h
        refine q_getP C fl_RX8_23 rfl e41 dX8_years_79 ?_
        obtain ⟨v42, e43, h⟩ := bindE h
        refine q_getI C fl_RX8_122 rfl e43 dX8_years_82 ?_
        obtain ⟨v45, e44, h⟩ := bindE h
        refine q_callS (v := some (.int v45)) [.int v39, .int v42] C hRO lk_RX8_378 sk_X8_draw rfl rfl (Nat.le_of_ble_eq_true rfl) (by decide) (by decide) dX8_years_85 (k_X8_draw X.1.2.1 hl X.2.2.1 v39 v42 M _ e44) ?_
        refine q_istore (i := 7) (lv' := [(7, .int v45), (4, .int v39), (6, .int v19), (0, .ref l0), (2, .int l2), (3, .int l3), (5, .int l5)]) C dX8_years_88 (by decide) rfl ?_
        refine q_iload 1 C dX8_years_90 rfl ?_
        obtain ⟨v47, e46, h⟩ := bindE h
        refine q_callS (v := some (.int v47)) [.int v39] C hRO lk_RX8_375 sk_X8_drawAfter rfl rfl (Nat.le_of_ble_eq_true rfl) (by decide) (by decide) dX8_years_92 (k_X8_drawAfter X.1.2.1 hl X.2.2.1 v39 M _ e46) ?_
        refine q_istore (i := 4) (lv' := [(4, .int v47), (7, .int v45), (6, .int v19), (0, .ref l0), (2, .int l2), (3, .int l3), (5, .int l5)]) C dX8_years_95 (by decide) rfl ?_
        refine q_aload_n 3 C dX8_years_97 rfl ?_
        refine q_iload 1 C dX8_years_98 rfl ?_
        refine q_iload 0 C dX8_years_100 rfl ?_
        refine q_aload_n 3 C dX8_years_102 rfl ?_
        obtain ⟨v48, e49, h⟩ := bindE h
        refine q_getP C fl_RX8_23 rfl e49 dX8_years_103 ?_
        obtain ⟨v50, e51, h⟩ := bindE h
        refine q_getI C fl_RX8_119 rfl e51 dX8_years_106 ?_
        obtain ⟨v53, e52, h⟩ := bindE h
        refine q_callS (v := some (.int v53)) [.int v47, .int v50] C hRO lk_RX8_378 sk_X8_draw rfl rfl (Nat.le_of_ble_eq_true rfl) (by decide) (by decide) dX8_years_109 (k_X8_draw X.1.2.1 hl X.2.2.1 v47 v50 M _ e52) ?_
        refine q_iload 2 C dX8_years_112 rfl ?_
        obtain ⟨e54, h⟩ := ckOE h
        obtain ⟨M56, e55, h⟩ := bindE h
        refine q_callV (v := none) [.int v45, .int v53, .int v19] C hRO lk_RX8_381 vk_X8_tryIn e54 rfl rfl rfl (Nat.le_of_ble_eq_true rfl) (by decide) (by decide) dX8_years_114 (k_X8_tryIn X.1.2.1 hl X.2.2.1 l0 v45 v53 v19 M _ e55) ?_
        exact q_sub (lv' := [(0, .ref l0), (2, .int l2), (3, .int l3), (4, .int v47), (5, .int l5), (6, .int v19)]) [3, 4, 5, 0, 6, 2] rfl (w_X8_years_j117_27 C hRO hl l0 l2 l3 v47 l5 v19 M56 h kc kx)
theorem w_X8_years_l27 {X : CX} {r : Mem} (C : CK X cX8_years 8 RX8 12 260) (hRO : RO X.2.2.1 X.1.2.2.2.2.1 X.1.2.2.2.2.1.heap) (hl : X.1.2.1.stackTraces = false) (l0 : Nat) (l2 : Int32) (l3 : Int32) (l4 : Int32) (l5 : Int32) (M : Mem) (h : loop (fun s => F_X8_years_s27 l0 l2 s.1 s.2.1 s.2.2) (l4, l5, M) = some r) (kx : ∀ e' : Mem, r = e' → wq X 8 136 [(0, .ref l0), (3, .int l3)] [] e') : wq X 8 27 [(0, .ref l0), (2, .int l2), (3, .int l3), (4, .int l4), (5, .int l5)] [] M :=
  loop_ind (P := fun s => wq X 8 27 [(0, .ref l0), (2, .int l2), (3, .int l3), (4, .int s.1), (5, .int s.2.1)] [] s.2.2) h (fun s y hy kc kr => w_X8_years_s27 C hRO hl l0 l2 l3 s.1 s.2.1 s.2.2 hy kc (fun e' he => kx e' (kr _ he).symm))
set_option maxRecDepth 100000 in
set_option maxHeartbeats 4000000 in
theorem w_X8_years {X : CX} {y : (Int32 × Mem) ⊕ (Nat × Mem)} (C : CK X cX8_years 8 RX8 12 260) (hRO : RO X.2.2.1 X.1.2.2.2.2.1 X.1.2.2.2.2.1.heap) (hl : X.1.2.1.stackTraces = false) (l0 : Nat) (l1 : Int32) (l2 : Int32) (l3 : Int32) (M : Mem) (h : F_X8_years l0 l1 l2 l3 M = some y) (kf : FIN X (some .int) (rs_tI y) (ms_tI y)) : wq X 8 0 [(0, .ref l0), (1, .int l1), (2, .int l2), (3, .int l3)] [] M := by
  unfold F_X8_years at h
  refine q_iload_n 3 C dX8_years_0 rfl ?_
  refine q_iconst (v := (2 : Int32)) C dX8_years_1 (by decide) ?_
  rcases bdVE h with ⟨M2, e1, h⟩ | ⟨x84, M85, e1, h⟩
  · refine q_callS (v := none) [.int l3, .int (2 : Int32)] C hRO lk_RX8_277 sk_X8_needWhat rfl rfl (Nat.le_of_ble_eq_true rfl) (by decide) (by decide) dX8_years_2 (k_X8_needWhat X.1.2.1 hl X.2.2.1 l3 (2 : Int32) M _ e1) ?_
    refine q_iload_n 2 C dX8_years_5 rfl ?_
    refine q_iconst (v := (0 : Int32)) C dX8_years_6 (by decide) ?_
    rcases bdVE h with ⟨M5, e4, h⟩ | ⟨x82, M83, e4, h⟩
    · refine q_callS (v := none) [.int l2, .int (0 : Int32)] C hRO lk_RX8_280 sk_X8_needDays rfl rfl (Nat.le_of_ble_eq_true rfl) (by decide) (by decide) dX8_years_7 (k_X8_needDays X.1.2.1 hl X.2.2.1 l2 (0 : Int32) M2 _ e4) ?_
      refine q_aload_n 0 C dX8_years_10 rfl ?_
      obtain ⟨v7, e8, h⟩ := bindE h
      refine q_getP C fl_RX8_37 rfl e8 dX8_years_11 ?_
      refine q_aload_n 0 C dX8_years_14 rfl ?_
      obtain ⟨v9, e10, h⟩ := bindE h
      refine q_getP C fl_RX8_33 rfl e10 dX8_years_15 ?_
      obtain ⟨e11, h⟩ := ckOE h
      obtain ⟨M13, e12, h⟩ := bindE h
      refine q_callV (v := none) [.ref v9] C hRO lk_RX8_274 vk_X6_copy e11 rfl rfl rfl (Nat.le_of_ble_eq_true rfl) (by decide) (by decide) dX8_years_18 (k_X6_copy X.1.2.1 hl X.2.2.1 v7 v9 M5 _ e12) ?_
      refine q_iload_n 1 C dX8_years_21 rfl ?_
      refine q_istore (i := 4) (lv' := [(4, .int l1), (0, .ref l0), (1, .int l1), (2, .int l2), (3, .int l3)]) C dX8_years_22 (by decide) rfl ?_
      refine q_iconst (v := (0 : Int32)) C dX8_years_24 (by decide) ?_
      refine q_istore (i := 5) (lv' := [(5, .int (0 : Int32)), (4, .int l1), (0, .ref l0), (1, .int l1), (2, .int l2), (3, .int l3)]) C dX8_years_25 (by decide) rfl ?_
      obtain ⟨M60, e59, h⟩ := bindE h
      refine q_sub (lv' := [(0, .ref l0), (2, .int l2), (3, .int l3), (4, .int l1), (5, .int (0 : Int32))]) [2, 4, 5, 1, 0] rfl (w_X8_years_l27 C hRO hl l0 l2 l3 l1 (0 : Int32) M13 e59 (fun r58 he => ?_))
      subst he
      show wq X 8 136 [(0, .ref l0), (3, .int l3)] [] M60
      refine q_iload_n 1 C dX8_years_136 rfl ?_
      by_cases c61 : l3 = (0 : Int32)
      · have h := ifT c61 h
        refine q_lookup (off := 27) (tgt := 164) C dX8_years_137 (by decide) (by rw [c61]; decide) (by decide) ?_
        refine q_aload_n 0 C dX8_years_164 rfl ?_
        obtain ⟨v62, e63, h⟩ := bindE h
        refine q_getP C fl_RX8_37 rfl e63 dX8_years_165 ?_
        obtain ⟨v64, e65, h⟩ := bindE h
        refine q_getI C fl_RX8_132 rfl e65 dX8_years_168 ?_
        obtain ⟨v67, e66, h⟩ := bindE h
        refine q_callS (v := some (.int v67)) [.int v64] C hRO lk_RX8_384 sk_J6_bitCount_0f7a4 rfl rfl (Nat.le_of_ble_eq_true rfl) (by decide) (by decide) dX8_years_171 (k_J6_bitCount_0f7a4 X.1.2.1 hl X.2.2.1 v64 M60 _ e66) ?_
        cases h
        exact q_iret C kf dX8_years_174
      have h := ifF c61 h
      by_cases c68 : l3 = (1 : Int32)
      · have h := ifT c68 h
        refine q_lookup (off := 38) (tgt := 175) C dX8_years_137 (by decide) (by rw [c68]; decide) (by decide) ?_
        refine q_aload_n 0 C dX8_years_175 rfl ?_
        refine q_aload_n 0 C dX8_years_176 rfl ?_
        obtain ⟨v69, e70, h⟩ := bindE h
        refine q_getP C fl_RX8_37 rfl e70 dX8_years_177 ?_
        obtain ⟨e71, h⟩ := ckOE h
        obtain ⟨v73, e72, h⟩ := bindE h
        refine q_callV (v := some (.int v73)) [.ref v69] C hRO lk_RX8_141 vk_X8_allBlisters e71 rfl rfl rfl (Nat.le_of_ble_eq_true rfl) (by decide) (by decide) dX8_years_180 (k_X8_allBlisters X.1.2.1 hl X.2.2.1 l0 v69 M60 _ e72) ?_
        cases h
        exact q_iret C kf dX8_years_183
      have h := ifF c68 h
      refine q_lookup (off := 47) (tgt := 184) C dX8_years_137 (by decide) (by have z0 := neI c61; have z1 := neI c68; simp only [Int32.reduceToInt] at *; simp [Op.lookupswitch.offset, Ne.symm z0, Ne.symm z1]) (by decide) ?_
      refine q_aload_n 0 C dX8_years_184 rfl ?_
      refine q_aload_n 0 C dX8_years_185 rfl ?_
      obtain ⟨v74, e75, h⟩ := bindE h
      refine q_getP C fl_RX8_37 rfl e75 dX8_years_186 ?_
      obtain ⟨e76, h⟩ := ckOE h
      obtain ⟨v78, e77, h⟩ := bindE h
      refine q_callV (v := some (.int v78)) [.ref v74] C hRO lk_RX8_138 vk_X8_lodgers e76 rfl rfl rfl (Nat.le_of_ble_eq_true rfl) (by decide) (by decide) dX8_years_189 (k_X8_lodgers X.1.2.1 hl X.2.2.1 l0 v74 M60 _ e77) ?_
      obtain ⟨v80, e79, h⟩ := bindE h
      refine q_callS (v := some (.int v80)) [.int v78] C hRO lk_RX8_384 sk_J6_bitCount_0f7a4 rfl rfl (Nat.le_of_ble_eq_true rfl) (by decide) (by decide) dX8_years_192 (k_J6_bitCount_0f7a4 X.1.2.1 hl X.2.2.1 v78 M60 _ e79) ?_
      cases h
      exact q_iret C kf dX8_years_195
    · skip
      cases h
      exact q_callSX [.int l2, .int (0 : Int32)] C kf lk_RX8_280 sk_X8_needDays rfl rfl (Nat.le_of_ble_eq_true rfl) (by decide) (by decide) dX8_years_7 (k_X8_needDays X.1.2.1 hl X.2.2.1 l2 (0 : Int32) M2 _ e4)
  · skip
    cases h
    exact q_callSX [.int l3, .int (2 : Int32)] C kf lk_RX8_277 sk_X8_needWhat rfl rfl (Nat.le_of_ble_eq_true rfl) (by decide) (by decide) dX8_years_2 (k_X8_needWhat X.1.2.1 hl X.2.2.1 l3 (2 : Int32) M _ e1)
theorem k_X8_years (l : Launch) (hl : l.stackTraces = false) (G : GG) (l0 : Nat) (l1 : Int32) (l2 : Int32) (l3 : Int32) (M : Mem) (x : (Int32 × Mem) ⊕ (Nat × Mem)) (h : F_X8_years l0 l1 l2 l3 M = some x) : Ct l G yX8_years (.code yX8_years cX8_years 8 (some .int)) 12 260 [.ref l0, .int l1, .int l2, .int l3] M (rs_tI x) (ms_tI x) := by
  refine Ct_of (by decide +kernel) (Nat.le_of_ble_eq_true rfl) fun X e1 e2 e3 C FN hnm => ?_
  subst e1; subst e2
  show wq X 8 0 [(0, .ref l0), (1, .int l1), (2, .int l2), (3, .int l3)] [] M
  exact w_X8_years C FN.2.2.2 hl l0 l1 l2 l3 M h FN
