/-! X9_out -/
set_option maxRecDepth 100000 in
set_option maxHeartbeats 4000000 in
theorem w_X9_out {X : CX} {y : Int32 × Mem} (C : CK X cX9_out 3 RX9 9 183) (hRO : RO X.2.2.1 X.1.2.2.2.2.1 X.1.2.2.2.2.1.heap) (hl : X.1.2.1.stackTraces = false) (l0 : Nat) (l1 : Int32) (M : Mem) (h : F_X9_out l0 l1 M = some y) (kf : FIN X (some .int) (rs_mI y) (ms_mI y)) : wq X 3 0 [(0, .ref l0), (1, .int l1)] [] M := by
  unfold F_X9_out at h
  refine q_aload_n 0 C dX9_out_0 rfl ?_
  refine q_iconst (v := (0 : Int32)) C dX9_out_1 (by decide) ?_
  obtain ⟨M1, e2, h⟩ := bindE h
  refine q_putI C fp_RX9_111 rfl e2 dX9_out_2 ?_
  refine q_aload_n 0 C dX9_out_5 rfl ?_
  refine q_iload_n 1 C dX9_out_6 rfl ?_
  obtain ⟨e3, h⟩ := ckOE h
  obtain ⟨v6, M5, e4, h⟩ := bd2E h
  refine q_callV (v := some (.int v6)) [.int l1] C hRO lk_RX9_379 vk_X9_isPerson e3 rfl rfl rfl (Nat.le_of_ble_eq_true rfl) (by decide) (by decide) dX9_out_7 (k_X9_isPerson X.1.2.1 hl X.2.2.1 l0 l1 M1 _ e4) ?_
  refine q_if_ne (tgt := 15) C dX9_out_10 (by decide) (fun c7 => ?_) (fun c7 => ?_)
  · have h := ifF c7 h
    refine q_aload_n 0 C dX9_out_15 rfl ?_
    refine q_iconst (v := (0 : Int32)) C dX9_out_16 (by decide) ?_
    refine q_iload_n 1 C dX9_out_17 rfl ?_
    obtain ⟨e8, h⟩ := ckOE h
    obtain ⟨v10, e9, h⟩ := bindE h
    refine q_callV (v := some (.int v10)) [.int (0 : Int32), .int l1] C hRO lk_RX9_339 vk_X9_houseOf e8 rfl rfl rfl (Nat.le_of_ble_eq_true rfl) (by decide) (by decide) dX9_out_18 (k_X9_houseOf X.1.2.1 hl X.2.2.1 l0 (0 : Int32) l1 M5 _ e9) ?_
    refine q_istore_n (i := 2) (lv' := [(2, .int v10), (0, .ref l0), (1, .int l1)]) C dX9_out_21 rfl (by decide) rfl ?_
    refine q_iload_n 0 C dX9_out_22 rfl ?_
    refine q_iconst (v := (-1 : Int32)) C dX9_out_23 (by decide) ?_
    refine q_icmp_ne (tgt := 33) C dX9_out_24 (by decide) (fun c11 => ?_) (fun c11 => ?_)
    · have h := ifF c11 h
      refine q_aload_n 1 C dX9_out_33 rfl ?_
      obtain ⟨e12, h⟩ := ckOE h
      obtain ⟨M14, e13, h⟩ := bindE h
      refine q_callV (v := none) [] C hRO lk_RX9_385 vk_X9_keeps e12 rfl rfl rfl (Nat.le_of_ble_eq_true rfl) (by decide) (by decide) dX9_out_34 (k_X9_keeps X.1.2.1 hl X.2.2.1 l0 M5 _ e13) ?_
      refine q_aload_n 1 C dX9_out_37 rfl ?_
      obtain ⟨v16, e17, h⟩ := bindE h
      refine q_getP C fl_RX9_66 rfl e17 dX9_out_38 ?_
      refine q_bipush (v := (19 : Int32)) C dX9_out_41 (by decide) ?_
      refine q_iload_n 0 C dX9_out_43 rfl ?_
      refine q_iadd C dX9_out_44 ?_
      refine q_iconst (v := (-1 : Int32)) C dX9_out_45 (by decide) ?_
      obtain ⟨M18, e19, h⟩ := bindE h
      refine q_iastore C e19 dX9_out_46 ?_
      refine q_iload_n 0 C dX9_out_47 rfl ?_
      cases h
      exact q_iret C kf dX9_out_48
    · have h := ifT c11 h
      refine q_aload_n 1 C dX9_out_27 rfl ?_
      refine q_iconst (v := (1 : Int32)) C dX9_out_28 (by decide) ?_
      obtain ⟨e20, h⟩ := ckOE h
      obtain ⟨v23, M22, e21, h⟩ := bd2E h
      refine q_callV (v := some (.int v23)) [.int (1 : Int32)] C hRO lk_RX9_382 vk_X9_refuses e20 rfl rfl rfl (Nat.le_of_ble_eq_true rfl) (by decide) (by decide) dX9_out_29 (k_X9_refuses X.1.2.1 hl X.2.2.1 l0 (1 : Int32) M5 _ e21) ?_
      cases h
      exact q_iret C kf dX9_out_32
  · have h := ifT c7 h
    refine q_iconst (v := (0 : Int32)) C dX9_out_13 (by decide) ?_
    cases h
    exact q_iret C kf dX9_out_14
theorem k_X9_out (l : Launch) (hl : l.stackTraces = false) (G : GG) (l0 : Nat) (l1 : Int32) (M : Mem) (x : Int32 × Mem) (h : F_X9_out l0 l1 M = some x) : Ct l G yX9_out (.code yX9_out cX9_out 3 (some .int)) 9 183 [.ref l0, .int l1] M (rs_mI x) (ms_mI x) := by
  refine Ct_of (by decide +kernel) (Nat.le_of_ble_eq_true rfl) fun X e1 e2 e3 C FN hnm => ?_
  subst e1; subst e2
  show wq X 3 0 [(0, .ref l0), (1, .int l1)] [] M
  exact w_X9_out C FN.2.2.2 hl l0 l1 M h FN
/-! X9_paid -/
set_option maxRecDepth 100000 in
set_option maxHeartbeats 4000000 in
theorem w_X9_paid {X : CX} {y : Int32 × Mem} (C : CK X cX9_paid 2 RX9 14 300) (hRO : RO X.2.2.1 X.1.2.2.2.2.1 X.1.2.2.2.2.1.heap) (hl : X.1.2.1.stackTraces = false) (l0 : Nat) (l1 : Int32) (M : Mem) (h : F_X9_paid l0 l1 M = some y) (kf : FIN X (some .int) (rs_mI y) (ms_mI y)) : wq X 2 0 [(0, .ref l0), (1, .int l1)] [] M := by
  unfold F_X9_paid at h
  refine q_aload_n 0 C dX9_paid_0 rfl ?_
  refine q_iconst (v := (0 : Int32)) C dX9_paid_1 (by decide) ?_
  obtain ⟨M1, e2, h⟩ := bindE h
  refine q_putI C fp_RX9_111 rfl e2 dX9_paid_2 ?_
  refine q_aload_n 0 C dX9_paid_5 rfl ?_
  refine q_iload_n 1 C dX9_paid_6 rfl ?_
  refine q_iconst (v := (0 : Int32)) C dX9_paid_7 (by decide) ?_
  refine q_iconst (v := (1 : Int32)) C dX9_paid_8 (by decide) ?_
  obtain ⟨e3, h⟩ := ckOE h
  obtain ⟨v6, M5, e4, h⟩ := bd2E h
  refine q_callV (v := some (.int v6)) [.int l1, .int (0 : Int32), .int (1 : Int32)] C hRO lk_RX9_397 vk_X9_isDays e3 rfl rfl rfl (Nat.le_of_ble_eq_true rfl) (by decide) (by decide) dX9_paid_9 (k_X9_isDays X.1.2.1 hl X.2.2.1 l0 l1 (0 : Int32) (1 : Int32) M1 _ e4) ?_
  refine q_if_ne (tgt := 17) C dX9_paid_12 (by decide) (fun c7 => ?_) (fun c7 => ?_)
  · have h := ifF c7 h
    refine q_aload_n 0 C dX9_paid_17 rfl ?_
    refine q_iload_n 1 C dX9_paid_18 rfl ?_
    obtain ⟨e8, h⟩ := ckOE h
    obtain ⟨M10, e9, h⟩ := bindE h
    refine q_callV (v := none) [.int l1] C hRO lk_RX9_400 vk_X9_goesTo e8 rfl rfl rfl (Nat.le_of_ble_eq_true rfl) (by decide) (by decide) dX9_paid_19 (k_X9_goesTo X.1.2.1 hl X.2.2.1 l0 l1 M5 _ e9) ?_
    refine q_aload_n 0 C dX9_paid_22 rfl ?_
    refine q_bipush (v := (43 : Int32)) C dX9_paid_23 (by decide) ?_
    obtain ⟨e12, h⟩ := ckOE h
    obtain ⟨v14, e13, h⟩ := bindE h
    refine q_callV (v := some (.int v14)) [.int (43 : Int32)] C hRO lk_RX9_355 vk_X9_soreIn e12 rfl rfl rfl (Nat.le_of_ble_eq_true rfl) (by decide) (by decide) dX9_paid_25 (k_X9_soreIn X.1.2.1 hl X.2.2.1 l0 (43 : Int32) M10 _ e13) ?_
    refine q_aload_n 0 C dX9_paid_28 rfl ?_
    refine q_iconst (v := (0 : Int32)) C dX9_paid_29 (by decide) ?_
    obtain ⟨e15, h⟩ := ckOE h
    obtain ⟨v17, e16, h⟩ := bindE h
    refine q_callV (v := some (.int v17)) [.int (0 : Int32)] C hRO lk_RX9_355 vk_X9_soreIn e15 rfl rfl rfl (Nat.le_of_ble_eq_true rfl) (by decide) (by decide) dX9_paid_30 (k_X9_soreIn X.1.2.1 hl X.2.2.1 l0 (0 : Int32) M10 _ e16) ?_
    refine q_isub C dX9_paid_33 ?_
    cases h
    exact q_iret C kf dX9_paid_34
  · have h := ifT c7 h
    refine q_iconst (v := (0 : Int32)) C dX9_paid_15 (by decide) ?_
    cases h
    exact q_iret C kf dX9_paid_16
theorem k_X9_paid (l : Launch) (hl : l.stackTraces = false) (G : GG) (l0 : Nat) (l1 : Int32) (M : Mem) (x : Int32 × Mem) (h : F_X9_paid l0 l1 M = some x) : Ct l G yX9_paid (.code yX9_paid cX9_paid 2 (some .int)) 14 300 [.ref l0, .int l1] M (rs_mI x) (ms_mI x) := by
  refine Ct_of (by decide +kernel) (Nat.le_of_ble_eq_true rfl) fun X e1 e2 e3 C FN hnm => ?_
  subst e1; subst e2
  show wq X 2 0 [(0, .ref l0), (1, .int l1)] [] M
  exact w_X9_paid C FN.2.2.2 hl l0 l1 M h FN
/-! X9_person -/
set_option maxRecDepth 100000 in
set_option maxHeartbeats 4000000 in
theorem w_X9_person {X : CX} {y : Int32 × Mem} (C : CK X cX9_person 3 RX9 10 207) (hRO : RO X.2.2.1 X.1.2.2.2.2.1 X.1.2.2.2.2.1.heap) (hl : X.1.2.1.stackTraces = false) (l0 : Nat) (l1 : Int32) (l2 : Int32) (M : Mem) (h : F_X9_person l0 l1 l2 M = some y) (kf : FIN X (some .int) (rs_mI y) (ms_mI y)) : wq X 3 0 [(0, .ref l0), (1, .int l1), (2, .int l2)] [] M := by
  unfold F_X9_person at h
  refine q_aload_n 0 C dX9_person_0 rfl ?_
  refine q_iconst (v := (0 : Int32)) C dX9_person_1 (by decide) ?_
  obtain ⟨M1, e2, h⟩ := bindE h
  refine q_putI C fp_RX9_111 rfl e2 dX9_person_2 ?_
  refine q_aload_n 0 C dX9_person_5 rfl ?_
  refine q_iload_n 1 C dX9_person_6 rfl ?_
  obtain ⟨e3, h⟩ := ckOE h
  obtain ⟨v6, M5, e4, h⟩ := bd2E h
  refine q_callV (v := some (.int v6)) [.int l1] C hRO lk_RX9_379 vk_X9_isPerson e3 rfl rfl rfl (Nat.le_of_ble_eq_true rfl) (by decide) (by decide) dX9_person_7 (k_X9_isPerson X.1.2.1 hl X.2.2.1 l0 l1 M1 _ e4) ?_
  refine q_if_eq (tgt := 22) C dX9_person_10 (by decide) (fun c7 => ?_) (fun c7 => ?_)
  · have h := ifT c7 h
    refine q_iconst (v := (0 : Int32)) C dX9_person_22 (by decide) ?_
    cases h
    exact q_iret C kf dX9_person_23
  · have h := ifF c7 h
    refine q_aload_n 0 C dX9_person_13 rfl ?_
    refine q_iload_n 2 C dX9_person_14 rfl ?_
    refine q_iconst (v := (4 : Int32)) C dX9_person_15 (by decide) ?_
    obtain ⟨e8, h⟩ := ckOE h
    obtain ⟨v11, M10, e9, h⟩ := bd2E h
    refine q_callV (v := some (.int v11)) [.int l2, .int (4 : Int32)] C hRO lk_RX9_370 vk_X9_isWhat e8 rfl rfl rfl (Nat.le_of_ble_eq_true rfl) (by decide) (by decide) dX9_person_16 (k_X9_isWhat X.1.2.1 hl X.2.2.1 l0 l2 (4 : Int32) M5 _ e9) ?_
    refine q_if_ne (tgt := 24) C dX9_person_19 (by decide) (fun c12 => ?_) (fun c12 => ?_)
    · have h := ifF c12 h
      refine q_iload_n 2 C dX9_person_24 rfl ?_
      refine q_if_ne (tgt := 40) C dX9_person_25 (by decide) (fun c13 => ?_) (fun c13 => ?_)
      · have h := ifF c13 h
        refine q_iload_n 2 C dX9_person_40 rfl ?_
        refine q_iconst (v := (1 : Int32)) C dX9_person_41 (by decide) ?_
        refine q_icmp_ne (tgt := 54) C dX9_person_42 (by decide) (fun c14 => ?_) (fun c14 => ?_)
        · have h := ifF c14 h
          refine q_iload_n 2 C dX9_person_54 rfl ?_
          refine q_iconst (v := (2 : Int32)) C dX9_person_55 (by decide) ?_
          refine q_icmp_ne (tgt := 68) C dX9_person_56 (by decide) (fun c15 => ?_) (fun c15 => ?_)
          · have h := ifF c15 h
            refine q_iload_n 2 C dX9_person_68 rfl ?_
            refine q_iconst (v := (3 : Int32)) C dX9_person_69 (by decide) ?_
            refine q_icmp_ne (tgt := 85) C dX9_person_70 (by decide) (fun c16 => ?_) (fun c16 => ?_)
            · have h := ifF c16 h
              refine q_aload_n 0 C dX9_person_85 rfl ?_
              refine q_iload_n 1 C dX9_person_86 rfl ?_
              obtain ⟨e17, h⟩ := ckOE h
              obtain ⟨v19, e18, h⟩ := bindE h
              refine q_callV (v := some (.int v19)) [.int l1] C hRO lk_RX9_342 vk_X9_tightNow e17 rfl rfl rfl (Nat.le_of_ble_eq_true rfl) (by decide) (by decide) dX9_person_87 (k_X9_tightNow X.1.2.1 hl X.2.2.1 l0 l1 M10 _ e18) ?_
              cases h
              exact q_iret C kf dX9_person_90
            · have h := ifT c16 h
              refine q_aload_n 0 C dX9_person_73 rfl ?_
              obtain ⟨v20, e21, h⟩ := bindE h
              refine q_getP C fl_RX9_66 rfl e21 dX9_person_74 ?_
              refine q_bipush (v := (35 : Int32)) C dX9_person_77 (by decide) ?_
              refine q_iload_n 1 C dX9_person_79 rfl ?_
              refine q_iadd C dX9_person_80 ?_
              obtain ⟨v22, e23, h⟩ := bindE h
              refine q_iaload C e23 dX9_person_81 ?_
              refine q_goto (tgt := 90) C dX9_person_82 (by decide) ?_
              cases h
              exact q_iret C kf dX9_person_90
          · have h := ifT c15 h
            refine q_aload_n 0 C dX9_person_59 rfl ?_
            refine q_iconst (v := (0 : Int32)) C dX9_person_60 (by decide) ?_
            refine q_iload_n 1 C dX9_person_61 rfl ?_
            obtain ⟨e24, h⟩ := ckOE h
            obtain ⟨v26, e25, h⟩ := bindE h
            refine q_callV (v := some (.int v26)) [.int (0 : Int32), .int l1] C hRO lk_RX9_339 vk_X9_houseOf e24 rfl rfl rfl (Nat.le_of_ble_eq_true rfl) (by decide) (by decide) dX9_person_62 (k_X9_houseOf X.1.2.1 hl X.2.2.1 l0 (0 : Int32) l1 M10 _ e25) ?_
            refine q_goto (tgt := 90) C dX9_person_65 (by decide) ?_
            cases h
            exact q_iret C kf dX9_person_90
        · have h := ifT c14 h
          refine q_aload_n 0 C dX9_person_45 rfl ?_
          obtain ⟨v27, e28, h⟩ := bindE h
          refine q_getP C fl_RX9_23 rfl e28 dX9_person_46 ?_
          refine q_iload_n 1 C dX9_person_49 rfl ?_
          obtain ⟨v29, e30, h⟩ := bindE h
          refine q_iaload C e30 dX9_person_50 ?_
          refine q_goto (tgt := 90) C dX9_person_51 (by decide) ?_
          cases h
          exact q_iret C kf dX9_person_90
      · have h := ifT c13 h
        refine q_aload_n 0 C dX9_person_28 rfl ?_
        obtain ⟨v31, e32, h⟩ := bindE h
        refine q_getP C fl_RX9_66 rfl e32 dX9_person_29 ?_
        refine q_bipush (v := (27 : Int32)) C dX9_person_32 (by decide) ?_
        refine q_iload_n 1 C dX9_person_34 rfl ?_
        refine q_iadd C dX9_person_35 ?_
        obtain ⟨v33, e34, h⟩ := bindE h
        refine q_iaload C e34 dX9_person_36 ?_
        refine q_goto (tgt := 90) C dX9_person_37 (by decide) ?_
        cases h
        exact q_iret C kf dX9_person_90
    · have h := ifT c12 h
      refine q_iconst (v := (0 : Int32)) C dX9_person_22 (by decide) ?_
      cases h
      exact q_iret C kf dX9_person_23
theorem k_X9_person (l : Launch) (hl : l.stackTraces = false) (G : GG) (l0 : Nat) (l1 : Int32) (l2 : Int32) (M : Mem) (x : Int32 × Mem) (h : F_X9_person l0 l1 l2 M = some x) : Ct l G yX9_person (.code yX9_person cX9_person 3 (some .int)) 10 207 [.ref l0, .int l1, .int l2] M (rs_mI x) (ms_mI x) := by
  refine Ct_of (by decide +kernel) (Nat.le_of_ble_eq_true rfl) fun X e1 e2 e3 C FN hnm => ?_
  subst e1; subst e2
  show wq X 3 0 [(0, .ref l0), (1, .int l1), (2, .int l2)] [] M
  exact w_X9_person C FN.2.2.2 hl l0 l1 l2 M h FN
/-! X9_putIn -/
set_option maxRecDepth 100000 in
set_option maxHeartbeats 4000000 in
theorem w_X9_putIn {X : CX} {y : Int32 × Mem} (C : CK X cX9_putIn 3 RX9 12 256) (hRO : RO X.2.2.1 X.1.2.2.2.2.1 X.1.2.2.2.2.1.heap) (hl : X.1.2.1.stackTraces = false) (l0 : Nat) (l1 : Int32) (l2 : Int32) (M : Mem) (h : F_X9_putIn l0 l1 l2 M = some y) (kf : FIN X (some .int) (rs_mI y) (ms_mI y)) : wq X 3 0 [(0, .ref l0), (1, .int l1), (2, .int l2)] [] M := by
  unfold F_X9_putIn at h
  refine q_aload_n 0 C dX9_putIn_0 rfl ?_
  refine q_iconst (v := (0 : Int32)) C dX9_putIn_1 (by decide) ?_
  obtain ⟨M1, e2, h⟩ := bindE h
  refine q_putI C fp_RX9_111 rfl e2 dX9_putIn_2 ?_
  refine q_aload_n 0 C dX9_putIn_5 rfl ?_
  refine q_iload_n 1 C dX9_putIn_6 rfl ?_
  obtain ⟨e3, h⟩ := ckOE h
  obtain ⟨v6, M5, e4, h⟩ := bd2E h
  refine q_callV (v := some (.int v6)) [.int l1] C hRO lk_RX9_379 vk_X9_isPerson e3 rfl rfl rfl (Nat.le_of_ble_eq_true rfl) (by decide) (by decide) dX9_putIn_7 (k_X9_isPerson X.1.2.1 hl X.2.2.1 l0 l1 M1 _ e4) ?_
  refine q_if_eq (tgt := 21) C dX9_putIn_10 (by decide) (fun c7 => ?_) (fun c7 => ?_)
  · have h := ifT c7 h
    refine q_iconst (v := (0 : Int32)) C dX9_putIn_21 (by decide) ?_
    cases h
    exact q_iret C kf dX9_putIn_22
  · have h := ifF c7 h
    refine q_aload_n 0 C dX9_putIn_13 rfl ?_
    refine q_iload_n 2 C dX9_putIn_14 rfl ?_
    obtain ⟨e8, h⟩ := ckOE h
    obtain ⟨v11, M10, e9, h⟩ := bd2E h
    refine q_callV (v := some (.int v11)) [.int l2] C hRO lk_RX9_367 vk_X9_isHouse e8 rfl rfl rfl (Nat.le_of_ble_eq_true rfl) (by decide) (by decide) dX9_putIn_15 (k_X9_isHouse X.1.2.1 hl X.2.2.1 l0 l2 M5 _ e9) ?_
    refine q_if_ne (tgt := 23) C dX9_putIn_18 (by decide) (fun c12 => ?_) (fun c12 => ?_)
    · have h := ifF c12 h
      refine q_aload_n 0 C dX9_putIn_23 rfl ?_
      refine q_iconst (v := (0 : Int32)) C dX9_putIn_24 (by decide) ?_
      refine q_iload_n 1 C dX9_putIn_25 rfl ?_
      obtain ⟨e13, h⟩ := ckOE h
      obtain ⟨v15, e14, h⟩ := bindE h
      refine q_callV (v := some (.int v15)) [.int (0 : Int32), .int l1] C hRO lk_RX9_339 vk_X9_houseOf e13 rfl rfl rfl (Nat.le_of_ble_eq_true rfl) (by decide) (by decide) dX9_putIn_26 (k_X9_houseOf X.1.2.1 hl X.2.2.1 l0 (0 : Int32) l1 M10 _ e14) ?_
      refine q_iconst (v := (-1 : Int32)) C dX9_putIn_29 (by decide) ?_
      refine q_icmp_ne (tgt := 56) C dX9_putIn_30 (by decide) (fun c16 => ?_) (fun c16 => ?_)
      · have h := ifF c16 h
        refine q_aload_n 0 C dX9_putIn_56 rfl ?_
        refine q_iconst (v := (1 : Int32)) C dX9_putIn_57 (by decide) ?_
        obtain ⟨e17, h⟩ := ckOE h
        obtain ⟨v20, M19, e18, h⟩ := bd2E h
        refine q_callV (v := some (.int v20)) [.int (1 : Int32)] C hRO lk_RX9_382 vk_X9_refuses e17 rfl rfl rfl (Nat.le_of_ble_eq_true rfl) (by decide) (by decide) dX9_putIn_58 (k_X9_refuses X.1.2.1 hl X.2.2.1 l0 (1 : Int32) M10 _ e18) ?_
        cases h
        exact q_iret C kf dX9_putIn_61
      · have h := ifT c16 h
        refine q_aload_n 0 C dX9_putIn_33 rfl ?_
        obtain ⟨v21, e22, h⟩ := bindE h
        refine q_getP C fl_RX9_66 rfl e22 dX9_putIn_34 ?_
        refine q_bipush (v := (19 : Int32)) C dX9_putIn_37 (by decide) ?_
        refine q_iload_n 2 C dX9_putIn_39 rfl ?_
        refine q_iadd C dX9_putIn_40 ?_
        obtain ⟨v23, e24, h⟩ := bindE h
        refine q_iaload C e24 dX9_putIn_41 ?_
        refine q_iconst (v := (-1 : Int32)) C dX9_putIn_42 (by decide) ?_
        refine q_icmp_ne (tgt := 56) C dX9_putIn_43 (by decide) (fun c25 => ?_) (fun c25 => ?_)
        · have h := ifF c25 h
          refine q_aload_n 0 C dX9_putIn_56 rfl ?_
          refine q_iconst (v := (1 : Int32)) C dX9_putIn_57 (by decide) ?_
          obtain ⟨e26, h⟩ := ckOE h
          obtain ⟨v29, M28, e27, h⟩ := bd2E h
          refine q_callV (v := some (.int v29)) [.int (1 : Int32)] C hRO lk_RX9_382 vk_X9_refuses e26 rfl rfl rfl (Nat.le_of_ble_eq_true rfl) (by decide) (by decide) dX9_putIn_58 (k_X9_refuses X.1.2.1 hl X.2.2.1 l0 (1 : Int32) M10 _ e27) ?_
          cases h
          exact q_iret C kf dX9_putIn_61
        · have h := ifT c25 h
          refine q_aload_n 0 C dX9_putIn_46 rfl ?_
          refine q_iconst (v := (0 : Int32)) C dX9_putIn_47 (by decide) ?_
          refine q_iload_n 1 C dX9_putIn_48 rfl ?_
          refine q_iload_n 2 C dX9_putIn_49 rfl ?_
          obtain ⟨e30, h⟩ := ckOE h
          obtain ⟨v33, M32, e31, h⟩ := bd2E h
          refine q_callV (v := some (.int v33)) [.int (0 : Int32), .int l1, .int l2] C hRO lk_RX9_388 vk_X9_wouldGo e30 rfl rfl rfl (Nat.le_of_ble_eq_true rfl) (by decide) (by decide) dX9_putIn_50 (k_X9_wouldGo X.1.2.1 hl X.2.2.1 l0 (0 : Int32) l1 l2 M10 _ e31) ?_
          refine q_if_ne (tgt := 62) C dX9_putIn_53 (by decide) (fun c34 => ?_) (fun c34 => ?_)
          · have h := ifF c34 h
            refine q_aload_n 0 C dX9_putIn_62 rfl ?_
            obtain ⟨e35, h⟩ := ckOE h
            obtain ⟨M37, e36, h⟩ := bindE h
            refine q_callV (v := none) [] C hRO lk_RX9_385 vk_X9_keeps e35 rfl rfl rfl (Nat.le_of_ble_eq_true rfl) (by decide) (by decide) dX9_putIn_63 (k_X9_keeps X.1.2.1 hl X.2.2.1 l0 M32 _ e36) ?_
            refine q_aload_n 0 C dX9_putIn_66 rfl ?_
            obtain ⟨v39, e40, h⟩ := bindE h
            refine q_getP C fl_RX9_66 rfl e40 dX9_putIn_67 ?_
            refine q_bipush (v := (19 : Int32)) C dX9_putIn_70 (by decide) ?_
            refine q_iload_n 2 C dX9_putIn_72 rfl ?_
            refine q_iadd C dX9_putIn_73 ?_
            refine q_iload_n 1 C dX9_putIn_74 rfl ?_
            obtain ⟨M41, e42, h⟩ := bindE h
            refine q_iastore C e42 dX9_putIn_75 ?_
            refine q_aload_n 0 C dX9_putIn_76 rfl ?_
            refine q_iconst (v := (0 : Int32)) C dX9_putIn_77 (by decide) ?_
            refine q_iload_n 1 C dX9_putIn_78 rfl ?_
            refine q_iload_n 2 C dX9_putIn_79 rfl ?_
            obtain ⟨e43, h⟩ := ckOE h
            obtain ⟨v45, e44, h⟩ := bindE h
            refine q_callV (v := some (.int v45)) [.int (0 : Int32), .int l1, .int l2] C hRO lk_RX9_312 vk_X9_tightOf e43 rfl rfl rfl (Nat.le_of_ble_eq_true rfl) (by decide) (by decide) dX9_putIn_80 (k_X9_tightOf X.1.2.1 hl X.2.2.1 l0 (0 : Int32) l1 l2 M41 _ e44) ?_
            cases h
            exact q_iret C kf dX9_putIn_83
          · have h := ifT c34 h
            refine q_aload_n 0 C dX9_putIn_56 rfl ?_
            refine q_iconst (v := (1 : Int32)) C dX9_putIn_57 (by decide) ?_
            obtain ⟨e46, h⟩ := ckOE h
            obtain ⟨v49, M48, e47, h⟩ := bd2E h
            refine q_callV (v := some (.int v49)) [.int (1 : Int32)] C hRO lk_RX9_382 vk_X9_refuses e46 rfl rfl rfl (Nat.le_of_ble_eq_true rfl) (by decide) (by decide) dX9_putIn_58 (k_X9_refuses X.1.2.1 hl X.2.2.1 l0 (1 : Int32) M32 _ e47) ?_
            cases h
            exact q_iret C kf dX9_putIn_61
    · have h := ifT c12 h
      refine q_iconst (v := (0 : Int32)) C dX9_putIn_21 (by decide) ?_
      cases h
      exact q_iret C kf dX9_putIn_22
theorem k_X9_putIn (l : Launch) (hl : l.stackTraces = false) (G : GG) (l0 : Nat) (l1 : Int32) (l2 : Int32) (M : Mem) (x : Int32 × Mem) (h : F_X9_putIn l0 l1 l2 M = some x) : Ct l G yX9_putIn (.code yX9_putIn cX9_putIn 3 (some .int)) 12 256 [.ref l0, .int l1, .int l2] M (rs_mI x) (ms_mI x) := by
  refine Ct_of (by decide +kernel) (Nat.le_of_ble_eq_true rfl) fun X e1 e2 e3 C FN hnm => ?_
  subst e1; subst e2
  show wq X 3 0 [(0, .ref l0), (1, .int l1), (2, .int l2)] [] M
  exact w_X9_putIn C FN.2.2.2 hl l0 l1 l2 M h FN
/-! X9_restore -/
set_option maxRecDepth 100000 in
set_option maxHeartbeats 4000000 in
theorem w_X9_restore_s32 {X : CX} {y : (Int32 × Mem) ⊕ (Mem)} (C : CK X cX9_restore 2 RX9 8 163) (hRO : RO X.2.2.1 X.1.2.2.2.2.1 X.1.2.2.2.2.1.heap) (hl : X.1.2.1.stackTraces = false) (l0 : Nat) (l1 : Int32) (M : Mem) (h : F_X9_restore_s32 l0 l1 M = some y) (kc : ∀ s' : Int32 × Mem, y = .inl s' → wq X 2 32 [(0, .ref l0), (1, .int (s'.1))] [] s'.2) (kx : ∀ e' : Mem, y = (.inr e') → wq X 2 56 [(0, .ref l0)] [] e') : wq X 2 32 [(0, .ref l0), (1, .int l1)] [] M := by
  unfold F_X9_restore_s32 at h
  refine q_iload_n 1 C dX9_restore_32 rfl ?_
  refine q_bipush (v := (43 : Int32)) C dX9_restore_33 (by decide) ?_
  refine q_icmp_ge (tgt := 56) C dX9_restore_35 (by decide) (fun c14 => ?_) (fun c14 => ?_)
  · have h := ifT c14 h
    exact q_sub (lv' := [(0, .ref l0)]) [0] rfl (kx M (someI h))
  · have h := ifF c14 h
    refine q_aload_n 0 C dX9_restore_38 rfl ?_
    obtain ⟨v15, e16, h⟩ := bindE h
    refine q_getP C fl_RX9_66 rfl e16 dX9_restore_39 ?_
    refine q_iload_n 1 C dX9_restore_42 rfl ?_
    refine q_aload_n 0 C dX9_restore_43 rfl ?_
    obtain ⟨v17, e18, h⟩ := bindE h
    refine q_getP C fl_RX9_102 rfl e18 dX9_restore_44 ?_
    refine q_iload_n 1 C dX9_restore_47 rfl ?_
    obtain ⟨v19, e20, h⟩ := bindE h
    refine q_iaload C e20 dX9_restore_48 ?_
    obtain ⟨M21, e22, h⟩ := bindE h
    refine q_iastore C e22 dX9_restore_49 ?_
    refine q_iinc 1 (v := (l1 + (1 : Int32))) (lv' := [(1, .int (l1 + (1 : Int32))), (0, .ref l0)]) C dX9_restore_50 rfl rfl (by decide) rfl ?_
    refine q_goto (tgt := 32) C dX9_restore_53 (by decide) ?_
    exact q_sub (lv' := [(0, .ref l0), (1, .int (l1 + (1 : Int32)))]) [1, 0] rfl (kc ((l1 + (1 : Int32)), M21) (someI h))
theorem w_X9_restore_l32 {X : CX} {r : Mem} (C : CK X cX9_restore 2 RX9 8 163) (hRO : RO X.2.2.1 X.1.2.2.2.2.1 X.1.2.2.2.2.1.heap) (hl : X.1.2.1.stackTraces = false) (l0 : Nat) (l1 : Int32) (M : Mem) (h : loop (fun s => F_X9_restore_s32 l0 s.1 s.2) (l1, M) = some r) (kx : ∀ e' : Mem, r = e' → wq X 2 56 [(0, .ref l0)] [] e') : wq X 2 32 [(0, .ref l0), (1, .int l1)] [] M :=
  loop_ind (P := fun s => wq X 2 32 [(0, .ref l0), (1, .int s.1)] [] s.2) h (fun s y hy kc kr => w_X9_restore_s32 C hRO hl l0 s.1 s.2 hy kc (fun e' he => kx e' (kr _ he).symm))
set_option maxRecDepth 100000 in
set_option maxHeartbeats 4000000 in
theorem w_X9_restore {X : CX} {y : Int32 × Mem} (C : CK X cX9_restore 2 RX9 8 163) (hRO : RO X.2.2.1 X.1.2.2.2.2.1 X.1.2.2.2.2.1.heap) (hl : X.1.2.1.stackTraces = false) (l0 : Nat) (M : Mem) (h : F_X9_restore l0 M = some y) (kf : FIN X (some .boolean) (rs_mI y) (ms_mI y)) : wq X 2 0 [(0, .ref l0)] [] M := by
  unfold F_X9_restore at h
  refine q_aload_n 0 C dX9_restore_0 rfl ?_
  refine q_iconst (v := (0 : Int32)) C dX9_restore_1 (by decide) ?_
  obtain ⟨M1, e2, h⟩ := bindE h
  refine q_putI C fp_RX9_111 rfl e2 dX9_restore_2 ?_
  refine q_aload_n 0 C dX9_restore_5 rfl ?_
  obtain ⟨v3, e4, h⟩ := bindE h
  refine q_getI C fl_RX9_294 rfl e4 dX9_restore_6 ?_
  refine q_if_ne (tgt := 14) C dX9_restore_9 (by decide) (fun c5 => ?_) (fun c5 => ?_)
  · have h := ifF c5 h
    refine q_aload_n 0 C dX9_restore_14 rfl ?_
    refine q_aload_n 0 C dX9_restore_15 rfl ?_
    obtain ⟨v6, e7, h⟩ := bindE h
    refine q_getI C fl_RX9_447 rfl e7 dX9_restore_16 ?_
    obtain ⟨M8, e9, h⟩ := bindE h
    refine q_putI C fp_RX9_288 rfl e9 dX9_restore_19 ?_
    refine q_aload_n 0 C dX9_restore_22 rfl ?_
    refine q_aload_n 0 C dX9_restore_23 rfl ?_
    obtain ⟨v10, e11, h⟩ := bindE h
    refine q_getI C fl_RX9_450 rfl e11 dX9_restore_24 ?_
    obtain ⟨M12, e13, h⟩ := bindE h
    refine q_putI C fp_RX9_291 rfl e13 dX9_restore_27 ?_
    refine q_iconst (v := (0 : Int32)) C dX9_restore_30 (by decide) ?_
    refine q_istore_n (i := 1) (lv' := [(1, .int (0 : Int32)), (0, .ref l0)]) C dX9_restore_31 rfl (by decide) rfl ?_
    obtain ⟨M25, e24, h⟩ := bindE h
    refine q_sub (lv' := [(0, .ref l0), (1, .int (0 : Int32))]) [1, 0] rfl (w_X9_restore_l32 C hRO hl l0 (0 : Int32) M12 e24 (fun r23 he => ?_))
    subst he
    show wq X 2 56 [(0, .ref l0)] [] M25
    refine q_aload_n 0 C dX9_restore_56 rfl ?_
    refine q_aload_n 0 C dX9_restore_57 rfl ?_
    obtain ⟨v26, e27, h⟩ := bindE h
    refine q_getP C fl_RX9_105 rfl e27 dX9_restore_58 ?_
    refine q_aload_n 0 C dX9_restore_61 rfl ?_
    obtain ⟨v28, e29, h⟩ := bindE h
    refine q_getP C fl_RX9_69 rfl e29 dX9_restore_62 ?_
    obtain ⟨e30, h⟩ := ckOE h
    obtain ⟨M32, e31, h⟩ := bindE h
    refine q_callV (v := none) [.ref v26, .ref v28] C hRO lk_RX9_284 vk_X9_copies e30 rfl rfl rfl (Nat.le_of_ble_eq_true rfl) (by decide) (by decide) dX9_restore_65 (k_X9_copies X.1.2.1 hl X.2.2.1 l0 v26 v28 M25 _ e31) ?_
    refine q_aload_n 0 C dX9_restore_68 rfl ?_
    refine q_aload_n 0 C dX9_restore_69 rfl ?_
    obtain ⟨v34, e35, h⟩ := bindE h
    refine q_getP C fl_RX9_108 rfl e35 dX9_restore_70 ?_
    refine q_aload_n 0 C dX9_restore_73 rfl ?_
    obtain ⟨v36, e37, h⟩ := bindE h
    refine q_getP C fl_RX9_93 rfl e37 dX9_restore_74 ?_
    obtain ⟨e38, h⟩ := ckOE h
    obtain ⟨M40, e39, h⟩ := bindE h
    refine q_callV (v := none) [.ref v34, .ref v36] C hRO lk_RX9_284 vk_X9_copies e38 rfl rfl rfl (Nat.le_of_ble_eq_true rfl) (by decide) (by decide) dX9_restore_77 (k_X9_copies X.1.2.1 hl X.2.2.1 l0 v34 v36 M32 _ e39) ?_
    refine q_iconst (v := (1 : Int32)) C dX9_restore_80 (by decide) ?_
    cases h
    exact q_zretE (w := (1 : Int32)) (by decide) C kf dX9_restore_81
  · have h := ifT c5 h
    refine q_iconst (v := (0 : Int32)) C dX9_restore_12 (by decide) ?_
    cases h
    exact q_zretE (w := (0 : Int32)) (by decide) C kf dX9_restore_13
theorem k_X9_restore (l : Launch) (hl : l.stackTraces = false) (G : GG) (l0 : Nat) (M : Mem) (x : Int32 × Mem) (h : F_X9_restore l0 M = some x) : Ct l G yX9_restore (.code yX9_restore cX9_restore 2 (some .boolean)) 8 163 [.ref l0] M (rs_mI x) (ms_mI x) := by
  refine Ct_of (by decide +kernel) (Nat.le_of_ble_eq_true rfl) fun X e1 e2 e3 C FN hnm => ?_
  subst e1; subst e2
  show wq X 2 0 [(0, .ref l0)] [] M
  exact w_X9_restore C FN.2.2.2 hl l0 M h FN
/-! X9_ringOf -/
set_option maxRecDepth 100000 in
set_option maxHeartbeats 4000000 in
theorem w_X9_ringOf_s4 {X : CX} {y : (Int32 × Int32) ⊕ ((Unit) ⊕ (Int32))} (C : CK X cX9_ringOf 4 RX9 7 140) (hRO : RO X.2.2.1 X.1.2.2.2.2.1 X.1.2.2.2.2.1.heap) (hl : X.1.2.1.stackTraces = false) (l0 : Nat) (l1 : Int32) (M : Mem) (l2 : Int32) (l3 : Int32) (h : F_X9_ringOf_s4 l0 l1 M l2 l3 = some y) (kc : ∀ s' : Int32 × Int32, y = .inl s' → wq X 4 4 [(0, .ref l0), (1, .int l1), (2, .int (s'.1)), (3, .int (s'.2))] [] M) (kx : ∀ e' : Unit, y = (.inr (.inl e')) → wq X 4 38 [] [] M) (kf : ∀ f' : Int32, y = (.inr (.inr f')) → FIN X (some .int) (rs_pI f') M) : wq X 4 4 [(0, .ref l0), (1, .int l1), (2, .int l2), (3, .int l3)] [] M := by
  unfold F_X9_ringOf_s4 at h
  refine q_iload_n 3 C dX9_ringOf_4 rfl ?_
  refine q_bipush (v := (8 : Int32)) C dX9_ringOf_5 (by decide) ?_
  refine q_icmp_gt (tgt := 38) C dX9_ringOf_7 (by decide) (fun c1 => ?_) (fun c1 => ?_)
  · have h := ifT c1 h
    exact q_sub (lv' := []) [] rfl (kx () (someI h))
  · have h := ifF c1 h
    refine q_aload_n 0 C dX9_ringOf_10 rfl ?_
    obtain ⟨v2, e3, h⟩ := bindE h
    refine q_getP C fl_RX9_66 rfl e3 dX9_ringOf_11 ?_
    refine q_bipush (v := (19 : Int32)) C dX9_ringOf_14 (by decide) ?_
    refine q_aload_n 0 C dX9_ringOf_16 rfl ?_
    obtain ⟨v4, e5, h⟩ := bindE h
    refine q_getP C fl_RX9_84 rfl e5 dX9_ringOf_17 ?_
    refine q_iload_n 2 C dX9_ringOf_20 rfl ?_
    obtain ⟨v6, e7, h⟩ := bindE h
    refine q_iaload C e7 dX9_ringOf_21 ?_
    refine q_iadd C dX9_ringOf_22 ?_
    obtain ⟨v8, e9, h⟩ := bindE h
    refine q_iaload C e9 dX9_ringOf_23 ?_
    refine q_istore_n (i := 2) (lv' := [(2, .int v8), (0, .ref l0), (1, .int l1), (3, .int l3)]) C dX9_ringOf_24 rfl (by decide) rfl ?_
    refine q_iload_n 0 C dX9_ringOf_25 rfl ?_
    refine q_iload_n 2 C dX9_ringOf_26 rfl ?_
    refine q_icmp_ne (tgt := 32) C dX9_ringOf_27 (by decide) (fun c10 => ?_) (fun c10 => ?_)
    · have h := ifF c10 h
      refine q_iinc 3 (v := (l3 + (1 : Int32))) (lv' := [(3, .int (l3 + (1 : Int32))), (2, .int v8), (0, .ref l0), (1, .int l1)]) C dX9_ringOf_32 rfl rfl (by decide) rfl ?_
      refine q_goto (tgt := 4) C dX9_ringOf_35 (by decide) ?_
      exact q_sub (lv' := [(0, .ref l0), (1, .int l1), (2, .int v8), (3, .int (l3 + (1 : Int32)))]) [2, 3, 1, 0] rfl (kc (v8, (l3 + (1 : Int32))) (someI h))
    · have h := ifT c10 h
      refine q_iload_n 3 C dX9_ringOf_30 rfl ?_
      exact q_iret C (kf _ (someI h)) dX9_ringOf_31
theorem w_X9_ringOf_l4 {X : CX} {r : (Unit) ⊕ (Int32)} (C : CK X cX9_ringOf 4 RX9 7 140) (hRO : RO X.2.2.1 X.1.2.2.2.2.1 X.1.2.2.2.2.1.heap) (hl : X.1.2.1.stackTraces = false) (l0 : Nat) (l1 : Int32) (M : Mem) (l2 : Int32) (l3 : Int32) (h : loop (fun s => F_X9_ringOf_s4 l0 l1 M s.1 s.2) (l2, l3) = some r) (kx : ∀ e' : Unit, r = .inl e' → wq X 4 38 [] [] M) (kf : ∀ f' : Int32, r = .inr f' → FIN X (some .int) (rs_pI f') M) : wq X 4 4 [(0, .ref l0), (1, .int l1), (2, .int l2), (3, .int l3)] [] M :=
  loop_ind (P := fun s => wq X 4 4 [(0, .ref l0), (1, .int l1), (2, .int s.1), (3, .int s.2)] [] M) h (fun s y hy kc kr => w_X9_ringOf_s4 C hRO hl l0 l1 M s.1 s.2 hy kc (fun e' he => kx e' (kr _ he).symm) (fun f' he => kf f' (kr _ he).symm))
set_option maxRecDepth 100000 in
set_option maxHeartbeats 4000000 in
theorem w_X9_ringOf {X : CX} {y : Int32} (C : CK X cX9_ringOf 4 RX9 7 140) (hRO : RO X.2.2.1 X.1.2.2.2.2.1 X.1.2.2.2.2.1.heap) (hl : X.1.2.1.stackTraces = false) (l0 : Nat) (l1 : Int32) (M : Mem) (h : F_X9_ringOf l0 l1 M = some y) (kf : FIN X (some .int) (rs_pI y) M) : wq X 4 0 [(0, .ref l0), (1, .int l1)] [] M := by
  unfold F_X9_ringOf at h
  refine q_iload_n 1 C dX9_ringOf_0 rfl ?_
  refine q_istore_n (i := 2) (lv' := [(2, .int l1), (0, .ref l0), (1, .int l1)]) C dX9_ringOf_1 rfl (by decide) rfl ?_
  refine q_iconst (v := (1 : Int32)) C dX9_ringOf_2 (by decide) ?_
  refine q_istore_n (i := 3) (lv' := [(3, .int (1 : Int32)), (2, .int l1), (0, .ref l0), (1, .int l1)]) C dX9_ringOf_3 rfl (by decide) rfl ?_
  obtain ⟨r11, e12, h⟩ := bindE h
  refine q_sub (lv' := [(0, .ref l0), (1, .int l1), (2, .int l1), (3, .int (1 : Int32))]) [2, 3, 1, 0] rfl (w_X9_ringOf_l4 C hRO hl l0 l1 M l1 (1 : Int32) e12 (fun q13 he => ?_) (fun f14 he => ?_))
  · subst he
    have h := elimL h
    show wq X 4 38 [] [] M
    refine q_iconst (v := (0 : Int32)) C dX9_ringOf_38 (by decide) ?_
    cases h
    exact q_iret C kf dX9_ringOf_39
  · subst he
    have h := elimR h
    cases h
    exact kf
theorem k_X9_ringOf (l : Launch) (hl : l.stackTraces = false) (G : GG) (l0 : Nat) (l1 : Int32) (M : Mem) (x : Int32) (h : F_X9_ringOf l0 l1 M = some x) : Ct l G yX9_ringOf (.code yX9_ringOf cX9_ringOf 4 (some .int)) 7 140 [.ref l0, .int l1] M (rs_pI x) M := by
  refine Ct_of (by decide +kernel) (Nat.le_of_ble_eq_true rfl) fun X e1 e2 e3 C FN hnm => ?_
  subst e1; subst e2
  show wq X 4 0 [(0, .ref l0), (1, .int l1)] [] M
  exact w_X9_ringOf C FN.2.2.2 hl l0 l1 M h FN
/-! X9_wantOf -/
set_option maxRecDepth 100000 in
set_option maxHeartbeats 4000000 in
theorem w_X9_wantOf_s5 {X : CX} {y : (Int32 × Int32) ⊕ (Int32)} (C : CK X cX9_wantOf 5 RX9 8 161) (hRO : RO X.2.2.1 X.1.2.2.2.2.1 X.1.2.2.2.2.1.heap) (hl : X.1.2.1.stackTraces = false) (l0 : Nat) (l1 : Int32) (l2 : Int32) (M : Mem) (l3 : Int32) (l4 : Int32) (h : F_X9_wantOf_s5 l0 l1 l2 M l3 l4 = some y) (kc : ∀ s' : Int32 × Int32, y = .inl s' → wq X 5 5 [(0, .ref l0), (1, .int l1), (2, .int l2), (3, .int (s'.1)), (4, .int (s'.2))] [] M) (kx : ∀ e' : Int32, y = (.inr e') → wq X 5 84 [(3, .int (e'))] [] M) : wq X 5 5 [(0, .ref l0), (1, .int l1), (2, .int l2), (3, .int l3), (4, .int l4)] [] M := by
  unfold F_X9_wantOf_s5 at h
  refine q_iload 4 C dX9_wantOf_5 rfl ?_
  refine q_aload_n 0 C dX9_wantOf_7 rfl ?_
  obtain ⟨v1, e2, h⟩ := bindE h
  refine q_getI C fl_RX9_275 rfl e2 dX9_wantOf_8 ?_
  refine q_icmp_ge (tgt := 84) C dX9_wantOf_11 (by decide) (fun c3 => ?_) (fun c3 => ?_)
  · have h := ifT c3 h
    exact q_sub (lv' := [(3, .int l3)]) [3] rfl (kx l3 (someI h))
  · have h := ifF c3 h
    refine q_iload_n 2 C dX9_wantOf_14 rfl ?_
    refine q_iload 4 C dX9_wantOf_15 rfl ?_
    refine q_ishr C dX9_wantOf_17 ?_
    refine q_iconst (v := (1 : Int32)) C dX9_wantOf_18 (by decide) ?_
    refine q_iand C dX9_wantOf_19 ?_
    refine q_if_ne (tgt := 26) C dX9_wantOf_20 (by decide) (fun c4 => ?_) (fun c4 => ?_)
    · have h := ifF c4 h
      refine q_iload_n 3 C dX9_wantOf_26 rfl ?_
      refine q_iconst (v := (-1 : Int32)) C dX9_wantOf_27 (by decide) ?_
      refine q_icmp_eq (tgt := 75) C dX9_wantOf_28 (by decide) (fun c5 => ?_) (fun c5 => ?_)
      · have h := ifT c5 h
        refine q_iload 4 C dX9_wantOf_75 rfl ?_
        refine q_istore_n (i := 3) (lv' := [(3, .int l4), (0, .ref l0), (1, .int l1), (2, .int l2), (4, .int l4)]) C dX9_wantOf_77 rfl (by decide) rfl ?_
        refine q_iinc 4 (v := (l4 + (1 : Int32))) (lv' := [(4, .int (l4 + (1 : Int32))), (3, .int l4), (0, .ref l0), (1, .int l1), (2, .int l2)]) C dX9_wantOf_78 rfl rfl (by decide) rfl ?_
        refine q_goto (tgt := 5) C dX9_wantOf_81 (by decide) ?_
        exact q_sub (lv' := [(0, .ref l0), (1, .int l1), (2, .int l2), (3, .int l4), (4, .int (l4 + (1 : Int32)))]) [2, 3, 4, 1, 0] rfl (kc (l4, (l4 + (1 : Int32))) (someI h))
      · have h := ifF c5 h
        refine q_aload_n 0 C dX9_wantOf_31 rfl ?_
        obtain ⟨v6, e7, h⟩ := bindE h
        refine q_getP C fl_RX9_66 rfl e7 dX9_wantOf_32 ?_
        refine q_iconst (v := (3 : Int32)) C dX9_wantOf_35 (by decide) ?_
        refine q_iload 4 C dX9_wantOf_36 rfl ?_
        refine q_iadd C dX9_wantOf_38 ?_
        obtain ⟨v8, e9, h⟩ := bindE h
        refine q_iaload C e9 dX9_wantOf_39 ?_
        refine q_aload_n 0 C dX9_wantOf_40 rfl ?_
        obtain ⟨v10, e11, h⟩ := bindE h
        refine q_getP C fl_RX9_66 rfl e11 dX9_wantOf_41 ?_
        refine q_bipush (v := (27 : Int32)) C dX9_wantOf_44 (by decide) ?_
        refine q_iload_n 1 C dX9_wantOf_46 rfl ?_
        refine q_iadd C dX9_wantOf_47 ?_
        obtain ⟨v12, e13, h⟩ := bindE h
        refine q_iaload C e13 dX9_wantOf_48 ?_
        obtain ⟨v15, e14, h⟩ := bindE h
        refine q_callS (v := some (.int v15)) [.int v8, .int v12] C hRO lk_RX9_364 sk_X9_off rfl rfl (Nat.le_of_ble_eq_true rfl) (by decide) (by decide) dX9_wantOf_49 (k_X9_off X.1.2.1 hl X.2.2.1 v8 v12 M _ e14) ?_
        refine q_aload_n 0 C dX9_wantOf_52 rfl ?_
        obtain ⟨v16, e17, h⟩ := bindE h
        refine q_getP C fl_RX9_66 rfl e17 dX9_wantOf_53 ?_
        refine q_iconst (v := (3 : Int32)) C dX9_wantOf_56 (by decide) ?_
        refine q_iload_n 3 C dX9_wantOf_57 rfl ?_
        refine q_iadd C dX9_wantOf_58 ?_
        obtain ⟨v18, e19, h⟩ := bindE h
        refine q_iaload C e19 dX9_wantOf_59 ?_
        refine q_aload_n 0 C dX9_wantOf_60 rfl ?_
        obtain ⟨v20, e21, h⟩ := bindE h
        refine q_getP C fl_RX9_66 rfl e21 dX9_wantOf_61 ?_
        refine q_bipush (v := (27 : Int32)) C dX9_wantOf_64 (by decide) ?_
        refine q_iload_n 1 C dX9_wantOf_66 rfl ?_
        refine q_iadd C dX9_wantOf_67 ?_
        obtain ⟨v22, e23, h⟩ := bindE h
        refine q_iaload C e23 dX9_wantOf_68 ?_
        obtain ⟨v25, e24, h⟩ := bindE h
        refine q_callS (v := some (.int v25)) [.int v18, .int v22] C hRO lk_RX9_364 sk_X9_off rfl rfl (Nat.le_of_ble_eq_true rfl) (by decide) (by decide) dX9_wantOf_69 (k_X9_off X.1.2.1 hl X.2.2.1 v18 v22 M _ e24) ?_
        refine q_icmp_ge (tgt := 78) C dX9_wantOf_72 (by decide) (fun c26 => ?_) (fun c26 => ?_)
        · have h := ifT c26 h
          refine q_iinc 4 (v := (l4 + (1 : Int32))) (lv' := [(4, .int (l4 + (1 : Int32))), (0, .ref l0), (1, .int l1), (2, .int l2), (3, .int l3)]) C dX9_wantOf_78 rfl rfl (by decide) rfl ?_
          refine q_goto (tgt := 5) C dX9_wantOf_81 (by decide) ?_
          exact q_sub (lv' := [(0, .ref l0), (1, .int l1), (2, .int l2), (3, .int l3), (4, .int (l4 + (1 : Int32)))]) [1, 2, 3, 4, 0] rfl (kc (l3, (l4 + (1 : Int32))) (someI h))
        · have h := ifF c26 h
          refine q_iload 4 C dX9_wantOf_75 rfl ?_
          refine q_istore_n (i := 3) (lv' := [(3, .int l4), (0, .ref l0), (1, .int l1), (2, .int l2), (4, .int l4)]) C dX9_wantOf_77 rfl (by decide) rfl ?_
          refine q_iinc 4 (v := (l4 + (1 : Int32))) (lv' := [(4, .int (l4 + (1 : Int32))), (3, .int l4), (0, .ref l0), (1, .int l1), (2, .int l2)]) C dX9_wantOf_78 rfl rfl (by decide) rfl ?_
          refine q_goto (tgt := 5) C dX9_wantOf_81 (by decide) ?_
          exact q_sub (lv' := [(0, .ref l0), (1, .int l1), (2, .int l2), (3, .int l4), (4, .int (l4 + (1 : Int32)))]) [2, 3, 4, 1, 0] rfl (kc (l4, (l4 + (1 : Int32))) (someI h))
    · have h := ifT c4 h
      refine q_goto (tgt := 78) C dX9_wantOf_23 (by decide) ?_
      refine q_iinc 4 (v := (l4 + (1 : Int32))) (lv' := [(4, .int (l4 + (1 : Int32))), (0, .ref l0), (1, .int l1), (2, .int l2), (3, .int l3)]) C dX9_wantOf_78 rfl rfl (by decide) rfl ?_
      refine q_goto (tgt := 5) C dX9_wantOf_81 (by decide) ?_
      exact q_sub (lv' := [(0, .ref l0), (1, .int l1), (2, .int l2), (3, .int l3), (4, .int (l4 + (1 : Int32)))]) [1, 2, 3, 4, 0] rfl (kc (l3, (l4 + (1 : Int32))) (someI h))
theorem w_X9_wantOf_l5 {X : CX} {r : Int32} (C : CK X cX9_wantOf 5 RX9 8 161) (hRO : RO X.2.2.1 X.1.2.2.2.2.1 X.1.2.2.2.2.1.heap) (hl : X.1.2.1.stackTraces = false) (l0 : Nat) (l1 : Int32) (l2 : Int32) (M : Mem) (l3 : Int32) (l4 : Int32) (h : loop (fun s => F_X9_wantOf_s5 l0 l1 l2 M s.1 s.2) (l3, l4) = some r) (kx : ∀ e' : Int32, r = e' → wq X 5 84 [(3, .int (e'))] [] M) : wq X 5 5 [(0, .ref l0), (1, .int l1), (2, .int l2), (3, .int l3), (4, .int l4)] [] M :=
  loop_ind (P := fun s => wq X 5 5 [(0, .ref l0), (1, .int l1), (2, .int l2), (3, .int s.1), (4, .int s.2)] [] M) h (fun s y hy kc kr => w_X9_wantOf_s5 C hRO hl l0 l1 l2 M s.1 s.2 hy kc (fun e' he => kx e' (kr _ he).symm))
set_option maxRecDepth 100000 in
set_option maxHeartbeats 4000000 in
theorem w_X9_wantOf {X : CX} {y : Int32} (C : CK X cX9_wantOf 5 RX9 8 161) (hRO : RO X.2.2.1 X.1.2.2.2.2.1 X.1.2.2.2.2.1.heap) (hl : X.1.2.1.stackTraces = false) (l0 : Nat) (l1 : Int32) (l2 : Int32) (M : Mem) (h : F_X9_wantOf l0 l1 l2 M = some y) (kf : FIN X (some .int) (rs_pI y) M) : wq X 5 0 [(0, .ref l0), (1, .int l1), (2, .int l2)] [] M := by
  unfold F_X9_wantOf at h
  refine q_iconst (v := (-1 : Int32)) C dX9_wantOf_0 (by decide) ?_
  refine q_istore_n (i := 3) (lv' := [(3, .int (-1 : Int32)), (0, .ref l0), (1, .int l1), (2, .int l2)]) C dX9_wantOf_1 rfl (by decide) rfl ?_
  refine q_iconst (v := (0 : Int32)) C dX9_wantOf_2 (by decide) ?_
  refine q_istore (i := 4) (lv' := [(4, .int (0 : Int32)), (3, .int (-1 : Int32)), (0, .ref l0), (1, .int l1), (2, .int l2)]) C dX9_wantOf_3 (by decide) rfl ?_
  obtain ⟨x29, e28, h⟩ := bindE h
  refine q_sub (lv' := [(0, .ref l0), (1, .int l1), (2, .int l2), (3, .int (-1 : Int32)), (4, .int (0 : Int32))]) [2, 3, 4, 1, 0] rfl (w_X9_wantOf_l5 C hRO hl l0 l1 l2 M (-1 : Int32) (0 : Int32) e28 (fun r27 he => ?_))
  subst he
  show wq X 5 84 [(3, .int x29)] [] M
  refine q_iload_n 0 C dX9_wantOf_84 rfl ?_
  cases h
  exact q_iret C kf dX9_wantOf_85
theorem k_X9_wantOf (l : Launch) (hl : l.stackTraces = false) (G : GG) (l0 : Nat) (l1 : Int32) (l2 : Int32) (M : Mem) (x : Int32) (h : F_X9_wantOf l0 l1 l2 M = some x) : Ct l G yX9_wantOf (.code yX9_wantOf cX9_wantOf 5 (some .int)) 8 161 [.ref l0, .int l1, .int l2] M (rs_pI x) M := by
  refine Ct_of (by decide +kernel) (Nat.le_of_ble_eq_true rfl) fun X e1 e2 e3 C FN hnm => ?_
  subst e1; subst e2
  show wq X 5 0 [(0, .ref l0), (1, .int l1), (2, .int l2)] [] M
  exact w_X9_wantOf C FN.2.2.2 hl l0 l1 l2 M h FN
/-! X9_trades -/
set_option maxRecDepth 100000 in
set_option maxHeartbeats 4000000 in
theorem w_X9_trades_s2 {X : CX} {y : (Int32 × Mem) ⊕ (Mem)} (C : CK X cX9_trades 5 RX9 9 185) (hRO : RO X.2.2.1 X.1.2.2.2.2.1 X.1.2.2.2.2.1.heap) (hl : X.1.2.1.stackTraces = false) (l0 : Nat) (l1 : Int32) (M : Mem) (h : F_X9_trades_s2 l0 l1 M = some y) (kc : ∀ s' : Int32 × Mem, y = .inl s' → wq X 5 2 [(0, .ref l0), (1, .int (s'.1))] [] s'.2) (kx : ∀ e' : Mem, y = (.inr e') → wq X 5 28 [(0, .ref l0)] [] e') : wq X 5 2 [(0, .ref l0), (1, .int l1)] [] M := by
  unfold F_X9_trades_s2 at h
  refine q_iload_n 1 C dX9_trades_2 rfl ?_
  refine q_bipush (v := (8 : Int32)) C dX9_trades_3 (by decide) ?_
  refine q_icmp_ge (tgt := 28) C dX9_trades_5 (by decide) (fun c1 => ?_) (fun c1 => ?_)
  · have h := ifT c1 h
    exact q_sub (lv' := [(0, .ref l0)]) [0] rfl (kx M (someI h))
  · have h := ifF c1 h
    refine q_aload_n 0 C dX9_trades_8 rfl ?_
    obtain ⟨v2, e3, h⟩ := bindE h
    refine q_getP C fl_RX9_87 rfl e3 dX9_trades_9 ?_
    refine q_iload_n 1 C dX9_trades_12 rfl ?_
    refine q_iconst (v := (-1 : Int32)) C dX9_trades_13 (by decide) ?_
    obtain ⟨M4, e5, h⟩ := bindE h
    refine q_iastore C e5 dX9_trades_14 ?_
    refine q_aload_n 0 C dX9_trades_15 rfl ?_
    obtain ⟨v6, e7, h⟩ := bindE h
    refine q_getP C fl_RX9_90 rfl e7 dX9_trades_16 ?_
    refine q_iload_n 1 C dX9_trades_19 rfl ?_
    refine q_iconst (v := (0 : Int32)) C dX9_trades_20 (by decide) ?_
    obtain ⟨M8, e9, h⟩ := bindE h
    refine q_iastore C e9 dX9_trades_21 ?_
    refine q_iinc 1 (v := (l1 + (1 : Int32))) (lv' := [(1, .int (l1 + (1 : Int32))), (0, .ref l0)]) C dX9_trades_22 rfl rfl (by decide) rfl ?_
    refine q_goto (tgt := 2) C dX9_trades_25 (by decide) ?_
    exact q_sub (lv' := [(0, .ref l0), (1, .int (l1 + (1 : Int32)))]) [1, 0] rfl (kc ((l1 + (1 : Int32)), M8) (someI h))
theorem w_X9_trades_l2 {X : CX} {r : Mem} (C : CK X cX9_trades 5 RX9 9 185) (hRO : RO X.2.2.1 X.1.2.2.2.2.1 X.1.2.2.2.2.1.heap) (hl : X.1.2.1.stackTraces = false) (l0 : Nat) (l1 : Int32) (M : Mem) (h : loop (fun s => F_X9_trades_s2 l0 s.1 s.2) (l1, M) = some r) (kx : ∀ e' : Mem, r = e' → wq X 5 28 [(0, .ref l0)] [] e') : wq X 5 2 [(0, .ref l0), (1, .int l1)] [] M :=
  loop_ind (P := fun s => wq X 5 2 [(0, .ref l0), (1, .int s.1)] [] s.2) h (fun s y hy kc kr => w_X9_trades_s2 C hRO hl l0 s.1 s.2 hy kc (fun e' he => kx e' (kr _ he).symm))
set_option maxRecDepth 100000 in
set_option maxHeartbeats 4000000 in
theorem w_X9_trades_s41 {X : CX} {y : (Int32 × Mem) ⊕ (Mem)} (C : CK X cX9_trades 5 RX9 9 185) (hRO : RO X.2.2.1 X.1.2.2.2.2.1 X.1.2.2.2.2.1.heap) (hl : X.1.2.1.stackTraces = false) (l0 : Nat) (l1 : Int32) (l2 : Int32) (l3 : Int32) (M : Mem) (h : F_X9_trades_s41 l0 l1 l3 M = some y) (kc : ∀ s' : Int32 × Mem, y = .inl s' → wq X 5 41 [(0, .ref l0), (1, .int l1), (2, .int l2), (3, .int (s'.1))] [] s'.2) (kx : ∀ e' : Mem, y = (.inr e') → wq X 5 67 [(0, .ref l0), (1, .int l1), (2, .int l2)] [] e') : wq X 5 41 [(0, .ref l0), (1, .int l1), (2, .int l2), (3, .int l3)] [] M := by
  unfold F_X9_trades_s41 at h
  refine q_iload_n 3 C dX9_trades_41 rfl ?_
  refine q_aload_n 0 C dX9_trades_42 rfl ?_
  obtain ⟨v17, e18, h⟩ := bindE h
  refine q_getI C fl_RX9_278 rfl e18 dX9_trades_43 ?_
  refine q_icmp_ge (tgt := 67) C dX9_trades_46 (by decide) (fun c19 => ?_) (fun c19 => ?_)
  · have h := ifT c19 h
    exact q_sub (lv' := [(0, .ref l0), (1, .int l1), (2, .int l2)]) [0, 1, 2] rfl (kx M (someI h))
  · have h := ifF c19 h
    refine q_aload_n 0 C dX9_trades_49 rfl ?_
    obtain ⟨v20, e21, h⟩ := bindE h
    refine q_getP C fl_RX9_84 rfl e21 dX9_trades_50 ?_
    refine q_iload_n 3 C dX9_trades_53 rfl ?_
    refine q_aload_n 0 C dX9_trades_54 rfl ?_
    refine q_iload_n 3 C dX9_trades_55 rfl ?_
    refine q_iload_n 1 C dX9_trades_56 rfl ?_
    obtain ⟨e22, h⟩ := ckOE h
    obtain ⟨v24, e23, h⟩ := bindE h
    refine q_callV (v := some (.int v24)) [.int l3, .int l1] C hRO lk_RX9_415 vk_X9_wantOf e22 rfl rfl rfl (Nat.le_of_ble_eq_true rfl) (by decide) (by decide) dX9_trades_57 (k_X9_wantOf X.1.2.1 hl X.2.2.1 l0 l3 l1 M _ e23) ?_
    obtain ⟨M25, e26, h⟩ := bindE h
    refine q_iastore C e26 dX9_trades_60 ?_
    refine q_iinc 3 (v := (l3 + (1 : Int32))) (lv' := [(3, .int (l3 + (1 : Int32))), (0, .ref l0), (1, .int l1), (2, .int l2)]) C dX9_trades_61 rfl rfl (by decide) rfl ?_
    refine q_goto (tgt := 41) C dX9_trades_64 (by decide) ?_
    exact q_sub (lv' := [(0, .ref l0), (1, .int l1), (2, .int l2), (3, .int (l3 + (1 : Int32)))]) [1, 2, 3, 0] rfl (kc ((l3 + (1 : Int32)), M25) (someI h))
theorem w_X9_trades_l41 {X : CX} {r : Mem} (C : CK X cX9_trades 5 RX9 9 185) (hRO : RO X.2.2.1 X.1.2.2.2.2.1 X.1.2.2.2.2.1.heap) (hl : X.1.2.1.stackTraces = false) (l0 : Nat) (l1 : Int32) (l2 : Int32) (l3 : Int32) (M : Mem) (h : loop (fun s => F_X9_trades_s41 l0 l1 s.1 s.2) (l3, M) = some r) (kx : ∀ e' : Mem, r = e' → wq X 5 67 [(0, .ref l0), (1, .int l1), (2, .int l2)] [] e') : wq X 5 41 [(0, .ref l0), (1, .int l1), (2, .int l2), (3, .int l3)] [] M :=
  loop_ind (P := fun s => wq X 5 41 [(0, .ref l0), (1, .int l1), (2, .int l2), (3, .int s.1)] [] s.2) h (fun s y hy kc kr => w_X9_trades_s41 C hRO hl l0 l1 l2 s.1 s.2 hy kc (fun e' he => kx e' (kr _ he).symm))
set_option maxRecDepth 100000 in
set_option maxHeartbeats 4000000 in
theorem w_X9_trades_s69 {X : CX} {y : (Int32 × Int32 × Mem) ⊕ (Int32 × Mem)} (C : CK X cX9_trades 5 RX9 9 185) (hRO : RO X.2.2.1 X.1.2.2.2.2.1 X.1.2.2.2.2.1.heap) (hl : X.1.2.1.stackTraces = false) (l0 : Nat) (l1 : Int32) (l2 : Int32) (l3 : Int32) (M : Mem) (h : F_X9_trades_s69 l0 l1 l2 l3 M = some y) (kc : ∀ s' : Int32 × Int32 × Mem, y = .inl s' → wq X 5 69 [(0, .ref l0), (1, .int l1), (2, .int (s'.1)), (3, .int (s'.2.1))] [] s'.2.2) (kx : ∀ e' : Int32 × Mem, y = (.inr e') → wq X 5 147 [(0, .ref l0), (1, .int l1), (2, .int (e'.1))] [] e'.2) : wq X 5 69 [(0, .ref l0), (1, .int l1), (2, .int l2), (3, .int l3)] [] M := by
  unfold F_X9_trades_s69 at h
  refine q_iload_n 3 C dX9_trades_69 rfl ?_
  refine q_aload_n 0 C dX9_trades_70 rfl ?_
  obtain ⟨v30, e31, h⟩ := bindE h
  refine q_getI C fl_RX9_275 rfl e31 dX9_trades_71 ?_
  refine q_icmp_ge (tgt := 147) C dX9_trades_74 (by decide) (fun c32 => ?_) (fun c32 => ?_)
  · have h := ifT c32 h
    exact q_sub (lv' := [(0, .ref l0), (1, .int l1), (2, .int l2)]) [0, 1, 2] rfl (kx (l2, M) (someI h))
  · have h := ifF c32 h
    refine q_aload_n 0 C dX9_trades_77 rfl ?_
    obtain ⟨v33, e34, h⟩ := bindE h
    refine q_getP C fl_RX9_66 rfl e34 dX9_trades_78 ?_
    refine q_bipush (v := (19 : Int32)) C dX9_trades_81 (by decide) ?_
    refine q_iload_n 3 C dX9_trades_83 rfl ?_
    refine q_iadd C dX9_trades_84 ?_
    obtain ⟨v35, e36, h⟩ := bindE h
    refine q_iaload C e36 dX9_trades_85 ?_
    refine q_istore (i := 4) (lv' := [(4, .int v35), (0, .ref l0), (1, .int l1), (2, .int l2), (3, .int l3)]) C dX9_trades_86 (by decide) rfl ?_
    refine q_iload_n 2 C dX9_trades_88 rfl ?_
    refine q_iload_n 4 C dX9_trades_89 rfl ?_
    refine q_ishr C dX9_trades_90 ?_
    refine q_iconst (v := (1 : Int32)) C dX9_trades_91 (by decide) ?_
    refine q_iand C dX9_trades_92 ?_
    refine q_if_eq (tgt := 141) C dX9_trades_93 (by decide) (fun c37 => ?_) (fun c37 => ?_)
    · have h := ifT c37 h
      refine q_iinc 4 (v := (l3 + (1 : Int32))) (lv' := [(3, .int (l3 + (1 : Int32))), (4, .int v35), (0, .ref l0), (1, .int l1), (2, .int l2)]) C dX9_trades_141 rfl rfl (by decide) rfl ?_
      refine q_goto (tgt := 69) C dX9_trades_144 (by decide) ?_
      exact q_sub (lv' := [(0, .ref l0), (1, .int l1), (2, .int l2), (3, .int (l3 + (1 : Int32)))]) [2, 3, 4, 0] rfl (kc (l2, (l3 + (1 : Int32)), M) (someI h))
    · have h := ifF c37 h
      refine q_aload_n 1 C dX9_trades_96 rfl ?_
      refine q_iload 0 C dX9_trades_97 rfl ?_
      obtain ⟨e38, h⟩ := ckOE h
      obtain ⟨v40, e39, h⟩ := bindE h
      refine q_callV (v := some (.int v40)) [.int v35] C hRO lk_RX9_418 vk_X9_ringOf e38 rfl rfl rfl (Nat.le_of_ble_eq_true rfl) (by decide) (by decide) dX9_trades_99 (k_X9_ringOf X.1.2.1 hl X.2.2.1 l0 v35 M _ e39) ?_
      refine q_if_ne (tgt := 108) C dX9_trades_102 (by decide) (fun c41 => ?_) (fun c41 => ?_)
      · have h := ifF c41 h
        refine q_aload_n 1 C dX9_trades_108 rfl ?_
        obtain ⟨v42, e43, h⟩ := bindE h
        refine q_getP C fl_RX9_87 rfl e43 dX9_trades_109 ?_
        refine q_iload 0 C dX9_trades_112 rfl ?_
        refine q_aload_n 1 C dX9_trades_114 rfl ?_
        obtain ⟨v44, e45, h⟩ := bindE h
        refine q_getP C fl_RX9_84 rfl e45 dX9_trades_115 ?_
        refine q_iload 0 C dX9_trades_118 rfl ?_
        obtain ⟨v46, e47, h⟩ := bindE h
        refine q_iaload C e47 dX9_trades_120 ?_
        obtain ⟨M48, e49, h⟩ := bindE h
        refine q_iastore C e49 dX9_trades_121 ?_
        refine q_aload_n 1 C dX9_trades_122 rfl ?_
        obtain ⟨v50, e51, h⟩ := bindE h
        refine q_getP C fl_RX9_90 rfl e51 dX9_trades_123 ?_
        refine q_iload 0 C dX9_trades_126 rfl ?_
        refine q_aload_n 1 C dX9_trades_128 rfl ?_
        refine q_iload 0 C dX9_trades_129 rfl ?_
        obtain ⟨e52, h⟩ := ckOE h
        obtain ⟨v54, e53, h⟩ := bindE h
        refine q_callV (v := some (.int v54)) [.int v35] C hRO lk_RX9_418 vk_X9_ringOf e52 rfl rfl rfl (Nat.le_of_ble_eq_true rfl) (by decide) (by decide) dX9_trades_131 (k_X9_ringOf X.1.2.1 hl X.2.2.1 l0 v35 M48 _ e53) ?_
        obtain ⟨M55, e56, h⟩ := bindE h
        refine q_iastore C e56 dX9_trades_134 ?_
        refine q_iload_n 3 C dX9_trades_135 rfl ?_
        refine q_iconst (v := (1 : Int32)) C dX9_trades_136 (by decide) ?_
        refine q_iload_n 4 C dX9_trades_137 rfl ?_
        refine q_ishl C dX9_trades_138 ?_
        refine q_ior C dX9_trades_139 ?_
        obtain ⟨n57, e58, h⟩ := nmE h
        refine q_topI e58 ?_
        refine q_istore_n (i := 2) (lv' := [(2, .int n57), (4, .int v35), (0, .ref l0), (1, .int l1), (3, .int l3)]) C dX9_trades_140 rfl (by decide) rfl ?_
        refine q_iinc 4 (v := (l3 + (1 : Int32))) (lv' := [(3, .int (l3 + (1 : Int32))), (2, .int n57), (4, .int v35), (0, .ref l0), (1, .int l1)]) C dX9_trades_141 rfl rfl (by decide) rfl ?_
        refine q_goto (tgt := 69) C dX9_trades_144 (by decide) ?_
        exact q_sub (lv' := [(0, .ref l0), (1, .int l1), (2, .int n57), (3, .int (l3 + (1 : Int32)))]) [3, 4, 1, 0] rfl (kc (n57, (l3 + (1 : Int32)), M55) (someI h))
      · have h := ifT c41 h
        refine q_goto (tgt := 141) C dX9_trades_105 (by decide) ?_
        refine q_iinc 4 (v := (l3 + (1 : Int32))) (lv' := [(3, .int (l3 + (1 : Int32))), (4, .int v35), (0, .ref l0), (1, .int l1), (2, .int l2)]) C dX9_trades_141 rfl rfl (by decide) rfl ?_
        refine q_goto (tgt := 69) C dX9_trades_144 (by decide) ?_
        exact q_sub (lv' := [(0, .ref l0), (1, .int l1), (2, .int l2), (3, .int (l3 + (1 : Int32)))]) [2, 3, 4, 0] rfl (kc (l2, (l3 + (1 : Int32)), M) (someI h))
theorem w_X9_trades_l69 {X : CX} {r : Int32 × Mem} (C : CK X cX9_trades 5 RX9 9 185) (hRO : RO X.2.2.1 X.1.2.2.2.2.1 X.1.2.2.2.2.1.heap) (hl : X.1.2.1.stackTraces = false) (l0 : Nat) (l1 : Int32) (l2 : Int32) (l3 : Int32) (M : Mem) (h : loop (fun s => F_X9_trades_s69 l0 l1 s.1 s.2.1 s.2.2) (l2, l3, M) = some r) (kx : ∀ e' : Int32 × Mem, r = e' → wq X 5 147 [(0, .ref l0), (1, .int l1), (2, .int (e'.1))] [] e'.2) : wq X 5 69 [(0, .ref l0), (1, .int l1), (2, .int l2), (3, .int l3)] [] M :=
  loop_ind (P := fun s => wq X 5 69 [(0, .ref l0), (1, .int l1), (2, .int s.1), (3, .int s.2.1)] [] s.2.2) h (fun s y hy kc kr => w_X9_trades_s69 C hRO hl l0 l1 s.1 s.2.1 s.2.2 hy kc (fun e' he => kx e' (kr _ he).symm))
set_option maxRecDepth 100000 in
set_option maxHeartbeats 4000000 in
theorem w_X9_trades_s33 {X : CX} {y : (Int32 × Mem) ⊕ (Mem)} (C : CK X cX9_trades 5 RX9 9 185) (hRO : RO X.2.2.1 X.1.2.2.2.2.1 X.1.2.2.2.2.1.heap) (hl : X.1.2.1.stackTraces = false) (l0 : Nat) (l1 : Int32) (M : Mem) (h : F_X9_trades_s33 l0 l1 M = some y) (kc : ∀ s' : Int32 × Mem, y = .inl s' → wq X 5 33 [(0, .ref l0), (1, .int (s'.1))] [] s'.2) (kx : ∀ e' : Mem, y = (.inr e') → wq X 5 156 [] [] e') : wq X 5 33 [(0, .ref l0), (1, .int l1)] [] M := by
  unfold F_X9_trades_s33 at h
  refine q_iload_n 1 C dX9_trades_33 rfl ?_
  refine q_if_eq (tgt := 156) C dX9_trades_34 (by decide) (fun c16 => ?_) (fun c16 => ?_)
  · have h := ifT c16 h
    exact q_sub (lv' := []) [] rfl (kx M (someI h))
  · have h := ifF c16 h
    refine q_iconst (v := (0 : Int32)) C dX9_trades_37 (by decide) ?_
    refine q_istore_n (i := 2) (lv' := [(2, .int (0 : Int32)), (0, .ref l0), (1, .int l1)]) C dX9_trades_38 rfl (by decide) rfl ?_
    refine q_iconst (v := (0 : Int32)) C dX9_trades_39 (by decide) ?_
    refine q_istore_n (i := 3) (lv' := [(3, .int (0 : Int32)), (2, .int (0 : Int32)), (0, .ref l0), (1, .int l1)]) C dX9_trades_40 rfl (by decide) rfl ?_
    obtain ⟨M29, e28, h⟩ := bindE h
    refine q_sub (lv' := [(0, .ref l0), (1, .int l1), (2, .int (0 : Int32)), (3, .int (0 : Int32))]) [2, 3, 1, 0] rfl (w_X9_trades_l41 C hRO hl l0 l1 (0 : Int32) (0 : Int32) M e28 (fun r27 he => ?_))
    subst he
    show wq X 5 67 [(0, .ref l0), (1, .int l1), (2, .int (0 : Int32))] [] M29
    refine q_iconst (v := (0 : Int32)) C dX9_trades_67 (by decide) ?_
    refine q_istore_n (i := 3) (lv' := [(3, .int (0 : Int32)), (0, .ref l0), (1, .int l1), (2, .int (0 : Int32))]) C dX9_trades_68 rfl (by decide) rfl ?_
    obtain ⟨⟨x61, M62⟩, e60, h⟩ := bindE h
    refine q_sub (lv' := [(0, .ref l0), (1, .int l1), (2, .int (0 : Int32)), (3, .int (0 : Int32))]) [1, 2, 3, 0] rfl (w_X9_trades_l69 C hRO hl l0 l1 (0 : Int32) (0 : Int32) M29 e60 (fun r59 he => ?_))
    subst he
    have h := u2E h
    show wq X 5 147 [(0, .ref l0), (1, .int l1), (2, .int x61)] [] M62
    refine q_iload_n 1 C dX9_trades_147 rfl ?_
    refine q_iload_n 2 C dX9_trades_148 rfl ?_
    refine q_iconst (v := (-1 : Int32)) C dX9_trades_149 (by decide) ?_
    refine q_ixor C dX9_trades_150 ?_
    refine q_iand C dX9_trades_151 ?_
    obtain ⟨n63, e64, h⟩ := nmE h
    refine q_topI e64 ?_
    refine q_istore_n (i := 1) (lv' := [(1, .int n63), (0, .ref l0), (2, .int x61)]) C dX9_trades_152 rfl (by decide) rfl ?_
    refine q_goto (tgt := 33) C dX9_trades_153 (by decide) ?_
    exact q_sub (lv' := [(0, .ref l0), (1, .int n63)]) [1, 0] rfl (kc (n63, M62) (someI h))
theorem w_X9_trades_l33 {X : CX} {r : Mem} (C : CK X cX9_trades 5 RX9 9 185) (hRO : RO X.2.2.1 X.1.2.2.2.2.1 X.1.2.2.2.2.1.heap) (hl : X.1.2.1.stackTraces = false) (l0 : Nat) (l1 : Int32) (M : Mem) (h : loop (fun s => F_X9_trades_s33 l0 s.1 s.2) (l1, M) = some r) (kx : ∀ e' : Mem, r = e' → wq X 5 156 [] [] e') : wq X 5 33 [(0, .ref l0), (1, .int l1)] [] M :=
  loop_ind (P := fun s => wq X 5 33 [(0, .ref l0), (1, .int s.1)] [] s.2) h (fun s y hy kc kr => w_X9_trades_s33 C hRO hl l0 s.1 s.2 hy kc (fun e' he => kx e' (kr _ he).symm))
set_option maxRecDepth 100000 in
set_option maxHeartbeats 4000000 in
theorem w_X9_trades {X : CX} {y : Mem} (C : CK X cX9_trades 5 RX9 9 185) (hRO : RO X.2.2.1 X.1.2.2.2.2.1 X.1.2.2.2.2.1.heap) (hl : X.1.2.1.stackTraces = false) (l0 : Nat) (M : Mem) (h : F_X9_trades l0 M = some y) (kf : FIN X none (rs_mV y) (ms_mV y)) : wq X 5 0 [(0, .ref l0)] [] M := by
  unfold F_X9_trades at h
  refine q_iconst (v := (0 : Int32)) C dX9_trades_0 (by decide) ?_
  refine q_istore_n (i := 1) (lv' := [(1, .int (0 : Int32)), (0, .ref l0)]) C dX9_trades_1 rfl (by decide) rfl ?_
  obtain ⟨M12, e11, h⟩ := bindE h
  refine q_sub (lv' := [(0, .ref l0), (1, .int (0 : Int32))]) [1, 0] rfl (w_X9_trades_l2 C hRO hl l0 (0 : Int32) M e11 (fun r10 he => ?_))
  subst he
  show wq X 5 28 [(0, .ref l0)] [] M12
  refine q_aload_n 0 C dX9_trades_28 rfl ?_
  obtain ⟨e13, h⟩ := ckOE h
  obtain ⟨v15, e14, h⟩ := bindE h
  refine q_callV (v := some (.int v15)) [] C hRO lk_RX9_349 vk_X9_taken e13 rfl rfl rfl (Nat.le_of_ble_eq_true rfl) (by decide) (by decide) dX9_trades_29 (k_X9_taken X.1.2.1 hl X.2.2.1 l0 M12 _ e14) ?_
  refine q_istore_n (i := 1) (lv' := [(1, .int v15), (0, .ref l0)]) C dX9_trades_32 rfl (by decide) rfl ?_
  obtain ⟨M69, e68, h⟩ := bindE h
  refine q_sub (lv' := [(0, .ref l0), (1, .int v15)]) [1, 0] rfl (w_X9_trades_l33 C hRO hl l0 v15 M12 e68 (fun r67 he => ?_))
  subst he
  show wq X 5 156 [] [] M69
  cases h
  exact q_vret C kf dX9_trades_156
theorem k_X9_trades (l : Launch) (hl : l.stackTraces = false) (G : GG) (l0 : Nat) (M : Mem) (x : Mem) (h : F_X9_trades l0 M = some x) : Ct l G yX9_trades (.code yX9_trades cX9_trades 5 none) 9 185 [.ref l0] M (rs_mV x) (ms_mV x) := by
  refine Ct_of (by decide +kernel) (Nat.le_of_ble_eq_true rfl) fun X e1 e2 e3 C FN hnm => ?_
  subst e1; subst e2
  show wq X 5 0 [(0, .ref l0)] [] M
  exact w_X9_trades C FN.2.2.2 hl l0 M h FN
/-! X9_ringed -/
set_option maxRecDepth 100000 in
set_option maxHeartbeats 4000000 in
theorem w_X9_ringed {X : CX} {y : Int32 × Mem} (C : CK X cX9_ringed 2 RX9 10 209) (hRO : RO X.2.2.1 X.1.2.2.2.2.1 X.1.2.2.2.2.1.heap) (hl : X.1.2.1.stackTraces = false) (l0 : Nat) (l1 : Int32) (M : Mem) (h : F_X9_ringed l0 l1 M = some y) (kf : FIN X (some .int) (rs_mI y) (ms_mI y)) : wq X 2 0 [(0, .ref l0), (1, .int l1)] [] M := by
  unfold F_X9_ringed at h
  refine q_aload_n 0 C dX9_ringed_0 rfl ?_
  refine q_iconst (v := (0 : Int32)) C dX9_ringed_1 (by decide) ?_
  obtain ⟨M1, e2, h⟩ := bindE h
  refine q_putI C fp_RX9_111 rfl e2 dX9_ringed_2 ?_
  refine q_aload_n 0 C dX9_ringed_5 rfl ?_
  refine q_iload_n 1 C dX9_ringed_6 rfl ?_
  obtain ⟨e3, h⟩ := ckOE h
  obtain ⟨v6, M5, e4, h⟩ := bd2E h
  refine q_callV (v := some (.int v6)) [.int l1] C hRO lk_RX9_379 vk_X9_isPerson e3 rfl rfl rfl (Nat.le_of_ble_eq_true rfl) (by decide) (by decide) dX9_ringed_7 (k_X9_isPerson X.1.2.1 hl X.2.2.1 l0 l1 M1 _ e4) ?_
  refine q_if_ne (tgt := 15) C dX9_ringed_10 (by decide) (fun c7 => ?_) (fun c7 => ?_)
  · have h := ifF c7 h
    refine q_aload_n 0 C dX9_ringed_15 rfl ?_
    obtain ⟨e8, h⟩ := ckOE h
    obtain ⟨M10, e9, h⟩ := bindE h
    refine q_callV (v := none) [] C hRO lk_RX9_421 vk_X9_trades e8 rfl rfl rfl (Nat.le_of_ble_eq_true rfl) (by decide) (by decide) dX9_ringed_16 (k_X9_trades X.1.2.1 hl X.2.2.1 l0 M5 _ e9) ?_
    refine q_aload_n 0 C dX9_ringed_19 rfl ?_
    obtain ⟨v12, e13, h⟩ := bindE h
    refine q_getP C fl_RX9_90 rfl e13 dX9_ringed_20 ?_
    refine q_iload_n 1 C dX9_ringed_23 rfl ?_
    obtain ⟨v14, e15, h⟩ := bindE h
    refine q_iaload C e15 dX9_ringed_24 ?_
    cases h
    exact q_iret C kf dX9_ringed_25
  · have h := ifT c7 h
    refine q_iconst (v := (0 : Int32)) C dX9_ringed_13 (by decide) ?_
    cases h
    exact q_iret C kf dX9_ringed_14
theorem k_X9_ringed (l : Launch) (hl : l.stackTraces = false) (G : GG) (l0 : Nat) (l1 : Int32) (M : Mem) (x : Int32 × Mem) (h : F_X9_ringed l0 l1 M = some x) : Ct l G yX9_ringed (.code yX9_ringed cX9_ringed 2 (some .int)) 10 209 [.ref l0, .int l1] M (rs_mI x) (ms_mI x) := by
  refine Ct_of (by decide +kernel) (Nat.le_of_ble_eq_true rfl) fun X e1 e2 e3 C FN hnm => ?_
  subst e1; subst e2
  show wq X 2 0 [(0, .ref l0), (1, .int l1)] [] M
  exact w_X9_ringed C FN.2.2.2 hl l0 l1 M h FN
/-! X9_round -/
set_option maxRecDepth 100000 in
set_option maxHeartbeats 4000000 in
theorem w_X9_round_s31 {X : CX} {y : (Int32 × Int32 × Int32) ⊕ (Int32 × Int32)} (C : CK X cX9_round 6 RX9 9 185) (hRO : RO X.2.2.1 X.1.2.2.2.2.1 X.1.2.2.2.2.1.heap) (hl : X.1.2.1.stackTraces = false) (l0 : Nat) (l1 : Int32) (M : Mem) (l2 : Int32) (l3 : Int32) (l4 : Int32) (h : F_X9_round_s31 l0 M l2 l3 l4 = some y) (kc : ∀ s' : Int32 × Int32 × Int32, y = .inl s' → wq X 6 31 [(0, .ref l0), (1, .int l1), (2, .int (s'.1)), (3, .int (s'.2.1)), (4, .int (s'.2.2))] [] M) (kx : ∀ e' : Int32 × Int32, y = (.inr e') → wq X 6 114 [(1, .int l1), (2, .int (e'.1)), (3, .int (e'.2))] [] M) : wq X 6 31 [(0, .ref l0), (1, .int l1), (2, .int l2), (3, .int l3), (4, .int l4)] [] M := by
  unfold F_X9_round_s31 at h
  refine q_iload 4 C dX9_round_31 rfl ?_
  refine q_aload_n 0 C dX9_round_33 rfl ?_
  obtain ⟨v10, e11, h⟩ := bindE h
  refine q_getI C fl_RX9_275 rfl e11 dX9_round_34 ?_
  refine q_icmp_ge (tgt := 114) C dX9_round_37 (by decide) (fun c12 => ?_) (fun c12 => ?_)
  · have h := ifT c12 h
    exact q_sub (lv' := [(1, .int l1), (2, .int l2), (3, .int l3)]) [1, 2, 3] rfl (kx (l2, l3) (someI h))
  · have h := ifF c12 h
    refine q_aload_n 0 C dX9_round_40 rfl ?_
    obtain ⟨v13, e14, h⟩ := bindE h
    refine q_getP C fl_RX9_66 rfl e14 dX9_round_41 ?_
    refine q_bipush (v := (19 : Int32)) C dX9_round_44 (by decide) ?_
    refine q_iload 4 C dX9_round_46 rfl ?_
    refine q_iadd C dX9_round_48 ?_
    obtain ⟨v15, e16, h⟩ := bindE h
    refine q_iaload C e16 dX9_round_49 ?_
    refine q_istore (i := 5) (lv' := [(5, .int v15), (0, .ref l0), (1, .int l1), (2, .int l2), (3, .int l3), (4, .int l4)]) C dX9_round_50 (by decide) rfl ?_
    refine q_iload 0 C dX9_round_52 rfl ?_
    refine q_iconst (v := (-1 : Int32)) C dX9_round_54 (by decide) ?_
    refine q_icmp_eq (tgt := 108) C dX9_round_55 (by decide) (fun c17 => ?_) (fun c17 => ?_)
    · have h := ifT c17 h
      refine q_iinc 5 (v := (l4 + (1 : Int32))) (lv' := [(4, .int (l4 + (1 : Int32))), (5, .int v15), (0, .ref l0), (1, .int l1), (2, .int l2), (3, .int l3)]) C dX9_round_108 rfl rfl (by decide) rfl ?_
      refine q_goto (tgt := 31) C dX9_round_111 (by decide) ?_
      exact q_sub (lv' := [(0, .ref l0), (1, .int l1), (2, .int l2), (3, .int l3), (4, .int (l4 + (1 : Int32)))]) [2, 3, 4, 5, 0] rfl (kc (l2, l3, (l4 + (1 : Int32))) (someI h))
    · have h := ifF c17 h
      refine q_aload_n 1 C dX9_round_58 rfl ?_
      refine q_iconst (v := (0 : Int32)) C dX9_round_59 (by decide) ?_
      refine q_iload 0 C dX9_round_60 rfl ?_
      refine q_iload 5 C dX9_round_62 rfl ?_
      obtain ⟨e18, h⟩ := ckOE h
      obtain ⟨v20, e19, h⟩ := bindE h
      refine q_callV (v := some (.int v20)) [.int (0 : Int32), .int v15, .int l4] C hRO lk_RX9_312 vk_X9_tightOf e18 rfl rfl rfl (Nat.le_of_ble_eq_true rfl) (by decide) (by decide) dX9_round_64 (k_X9_tightOf X.1.2.1 hl X.2.2.1 l0 (0 : Int32) v15 l4 M _ e19) ?_
      refine q_if_ne (tgt := 73) C dX9_round_67 (by decide) (fun c21 => ?_) (fun c21 => ?_)
      · have h := ifF c21 h
        refine q_iload_n 3 C dX9_round_73 rfl ?_
        refine q_aload_n 1 C dX9_round_74 rfl ?_
        obtain ⟨v22, e23, h⟩ := bindE h
        refine q_getP C fl_RX9_20 rfl e23 dX9_round_75 ?_
        refine q_iload 5 C dX9_round_78 rfl ?_
        obtain ⟨v24, e25, h⟩ := bindE h
        refine q_iaload C e25 dX9_round_80 ?_
        obtain ⟨v27, e26, h⟩ := bindE h
        refine q_callS (v := some (.int v27)) [.int l2, .int v24] C hRO lk_RX9_329 sk_X9_lesser rfl rfl (Nat.le_of_ble_eq_true rfl) (by decide) (by decide) dX9_round_81 (k_X9_lesser X.1.2.1 hl X.2.2.1 l2 v24 M _ e26) ?_
        refine q_istore_n (i := 2) (lv' := [(2, .int v27), (5, .int v15), (0, .ref l0), (1, .int l1), (3, .int l3), (4, .int l4)]) C dX9_round_84 rfl (by decide) rfl ?_
        refine q_aload_n 2 C dX9_round_85 rfl ?_
        obtain ⟨v28, e29, h⟩ := bindE h
        refine q_getP C fl_RX9_20 rfl e29 dX9_round_86 ?_
        refine q_iload 5 C dX9_round_89 rfl ?_
        obtain ⟨v30, e31, h⟩ := bindE h
        refine q_iaload C e31 dX9_round_91 ?_
        refine q_iload_n 4 C dX9_round_92 rfl ?_
        refine q_icmp_le (tgt := 106) C dX9_round_93 (by decide) (fun c32 => ?_) (fun c32 => ?_)
        · have h := ifT c32 h
          refine q_iload_n 4 C dX9_round_106 rfl ?_
          refine q_istore_n (i := 3) (lv' := [(3, .int l3), (2, .int v27), (5, .int v15), (0, .ref l0), (1, .int l1), (4, .int l4)]) C dX9_round_107 rfl (by decide) rfl ?_
          refine q_iinc 5 (v := (l4 + (1 : Int32))) (lv' := [(4, .int (l4 + (1 : Int32))), (3, .int l3), (2, .int v27), (5, .int v15), (0, .ref l0), (1, .int l1)]) C dX9_round_108 rfl rfl (by decide) rfl ?_
          refine q_goto (tgt := 31) C dX9_round_111 (by decide) ?_
          exact q_sub (lv' := [(0, .ref l0), (1, .int l1), (2, .int v27), (3, .int l3), (4, .int (l4 + (1 : Int32)))]) [4, 5, 2, 1, 0] rfl (kc (v27, l3, (l4 + (1 : Int32))) (someI h))
        · have h := ifF c32 h
          refine q_aload_n 2 C dX9_round_96 rfl ?_
          obtain ⟨v33, e34, h⟩ := bindE h
          refine q_getP C fl_RX9_20 rfl e34 dX9_round_97 ?_
          refine q_iload 5 C dX9_round_100 rfl ?_
          obtain ⟨v35, e36, h⟩ := bindE h
          refine q_iaload C e36 dX9_round_102 ?_
          refine q_goto (tgt := 107) C dX9_round_103 (by decide) ?_
          refine q_istore_n (i := 3) (lv' := [(3, .int v35), (2, .int v27), (5, .int v15), (0, .ref l0), (1, .int l1), (4, .int l4)]) C dX9_round_107 rfl (by decide) rfl ?_
          refine q_iinc 5 (v := (l4 + (1 : Int32))) (lv' := [(4, .int (l4 + (1 : Int32))), (3, .int v35), (2, .int v27), (5, .int v15), (0, .ref l0), (1, .int l1)]) C dX9_round_108 rfl rfl (by decide) rfl ?_
          refine q_goto (tgt := 31) C dX9_round_111 (by decide) ?_
          exact q_sub (lv' := [(0, .ref l0), (1, .int l1), (2, .int v27), (3, .int v35), (4, .int (l4 + (1 : Int32)))]) [4, 5, 2, 1, 0] rfl (kc (v27, v35, (l4 + (1 : Int32))) (someI h))
      · have h := ifT c21 h
        refine q_goto (tgt := 108) C dX9_round_70 (by decide) ?_
        refine q_iinc 5 (v := (l4 + (1 : Int32))) (lv' := [(4, .int (l4 + (1 : Int32))), (5, .int v15), (0, .ref l0), (1, .int l1), (2, .int l2), (3, .int l3)]) C dX9_round_108 rfl rfl (by decide) rfl ?_
        refine q_goto (tgt := 31) C dX9_round_111 (by decide) ?_
        exact q_sub (lv' := [(0, .ref l0), (1, .int l1), (2, .int l2), (3, .int l3), (4, .int (l4 + (1 : Int32)))]) [2, 3, 4, 5, 0] rfl (kc (l2, l3, (l4 + (1 : Int32))) (someI h))
theorem w_X9_round_l31 {X : CX} {r : Int32 × Int32} (C : CK X cX9_round 6 RX9 9 185) (hRO : RO X.2.2.1 X.1.2.2.2.2.1 X.1.2.2.2.2.1.heap) (hl : X.1.2.1.stackTraces = false) (l0 : Nat) (l1 : Int32) (M : Mem) (l2 : Int32) (l3 : Int32) (l4 : Int32) (h : loop (fun s => F_X9_round_s31 l0 M s.1 s.2.1 s.2.2) (l2, l3, l4) = some r) (kx : ∀ e' : Int32 × Int32, r = e' → wq X 6 114 [(1, .int l1), (2, .int (e'.1)), (3, .int (e'.2))] [] M) : wq X 6 31 [(0, .ref l0), (1, .int l1), (2, .int l2), (3, .int l3), (4, .int l4)] [] M :=
  loop_ind (P := fun s => wq X 6 31 [(0, .ref l0), (1, .int l1), (2, .int s.1), (3, .int s.2.1), (4, .int s.2.2)] [] M) h (fun s y hy kc kr => w_X9_round_s31 C hRO hl l0 l1 M s.1 s.2.1 s.2.2 hy kc (fun e' he => kx e' (kr _ he).symm))
set_option maxRecDepth 100000 in
set_option maxHeartbeats 4000000 in
theorem w_X9_round {X : CX} {y : Int32 × Mem} (C : CK X cX9_round 6 RX9 9 185) (hRO : RO X.2.2.1 X.1.2.2.2.2.1 X.1.2.2.2.2.1.heap) (hl : X.1.2.1.stackTraces = false) (l0 : Nat) (l1 : Int32) (M : Mem) (h : F_X9_round l0 l1 M = some y) (kf : FIN X (some .int) (rs_mI y) (ms_mI y)) : wq X 6 0 [(0, .ref l0), (1, .int l1)] [] M := by
  unfold F_X9_round at h
  refine q_aload_n 0 C dX9_round_0 rfl ?_
  refine q_iconst (v := (0 : Int32)) C dX9_round_1 (by decide) ?_
  obtain ⟨M1, e2, h⟩ := bindE h
  refine q_putI C fp_RX9_111 rfl e2 dX9_round_2 ?_
  refine q_aload_n 0 C dX9_round_5 rfl ?_
  refine q_iload_n 1 C dX9_round_6 rfl ?_
  refine q_iconst (v := (0 : Int32)) C dX9_round_7 (by decide) ?_
  refine q_bipush (v := (30 : Int32)) C dX9_round_8 (by decide) ?_
  obtain ⟨v4, e3, h⟩ := bindE h
  refine q_callS (v := some (.int v4)) [.int l1, .int (0 : Int32), .int (30 : Int32)] C hRO lk_RX9_345 sk_X9_within rfl rfl (Nat.le_of_ble_eq_true rfl) (by decide) (by decide) dX9_round_10 (k_X9_within X.1.2.1 hl X.2.2.1 l1 (0 : Int32) (30 : Int32) M1 _ e3) ?_
  refine q_iconst (v := (1 : Int32)) C dX9_round_13 (by decide) ?_
  obtain ⟨e5, h⟩ := ckOE h
  obtain ⟨v8, M7, e6, h⟩ := bd2E h
  refine q_callV (v := some (.int v8)) [.int v4, .int (1 : Int32)] C hRO lk_RX9_268 vk_X9_right e5 rfl rfl rfl (Nat.le_of_ble_eq_true rfl) (by decide) (by decide) dX9_round_14 (k_X9_right X.1.2.1 hl X.2.2.1 l0 v4 (1 : Int32) M1 _ e6) ?_
  refine q_if_ne (tgt := 22) C dX9_round_17 (by decide) (fun c9 => ?_) (fun c9 => ?_)
  · have h := ifF c9 h
    refine q_ldcw (v := (99999 : Int32)) C cn_RX9_305 dX9_round_22 ?_
    refine q_istore_n (i := 2) (lv' := [(2, .int (99999 : Int32)), (0, .ref l0), (1, .int l1)]) C dX9_round_25 rfl (by decide) rfl ?_
    refine q_iconst (v := (-1 : Int32)) C dX9_round_26 (by decide) ?_
    refine q_istore_n (i := 3) (lv' := [(3, .int (-1 : Int32)), (2, .int (99999 : Int32)), (0, .ref l0), (1, .int l1)]) C dX9_round_27 rfl (by decide) rfl ?_
    refine q_iconst (v := (0 : Int32)) C dX9_round_28 (by decide) ?_
    refine q_istore (i := 4) (lv' := [(4, .int (0 : Int32)), (3, .int (-1 : Int32)), (2, .int (99999 : Int32)), (0, .ref l0), (1, .int l1)]) C dX9_round_29 (by decide) rfl ?_
    obtain ⟨⟨x39, x40⟩, e38, h⟩ := bindE h
    refine q_sub (lv' := [(0, .ref l0), (1, .int l1), (2, .int (99999 : Int32)), (3, .int (-1 : Int32)), (4, .int (0 : Int32))]) [3, 4, 2, 1, 0] rfl (w_X9_round_l31 C hRO hl l0 l1 M7 (99999 : Int32) (-1 : Int32) (0 : Int32) e38 (fun r37 he => ?_))
    subst he
    have h := u2E h
    show wq X 6 114 [(1, .int l1), (2, .int x39), (3, .int x40)] [] M7
    refine q_iload_n 2 C dX9_round_114 rfl ?_
    refine q_iconst (v := (-1 : Int32)) C dX9_round_115 (by decide) ?_
    refine q_icmp_ne (tgt := 123) C dX9_round_116 (by decide) (fun c41 => ?_) (fun c41 => ?_)
    · have h := ifF c41 h
      refine q_iload_n 2 C dX9_round_123 rfl ?_
      refine q_iload_n 1 C dX9_round_124 rfl ?_
      refine q_isub C dX9_round_125 ?_
      refine q_iload_n 0 C dX9_round_126 rfl ?_
      refine q_iload_n 1 C dX9_round_127 rfl ?_
      obtain ⟨v43, e42, h⟩ := bindE h
      refine q_callS (v := some (.int v43)) [.int l1, .int x39] C hRO lk_RX9_364 sk_X9_off rfl rfl (Nat.le_of_ble_eq_true rfl) (by decide) (by decide) dX9_round_128 (k_X9_off X.1.2.1 hl X.2.2.1 l1 x39 M7 _ e42) ?_
      refine q_iload_n 0 C dX9_round_131 rfl ?_
      refine q_iload_n 2 C dX9_round_132 rfl ?_
      obtain ⟨v45, e44, h⟩ := bindE h
      refine q_callS (v := some (.int v45)) [.int l1, .int x40] C hRO lk_RX9_364 sk_X9_off rfl rfl (Nat.le_of_ble_eq_true rfl) (by decide) (by decide) dX9_round_133 (k_X9_off X.1.2.1 hl X.2.2.1 l1 x40 M7 _ e44) ?_
      obtain ⟨v47, e46, h⟩ := bindE h
      refine q_callS (v := some (.int v47)) [.int v43, .int v45] C hRO lk_RX9_329 sk_X9_lesser rfl rfl (Nat.le_of_ble_eq_true rfl) (by decide) (by decide) dX9_round_136 (k_X9_lesser X.1.2.1 hl X.2.2.1 v43 v45 M7 _ e46) ?_
      refine q_iadd C dX9_round_139 ?_
      cases h
      exact q_iret C kf dX9_round_140
    · have h := ifT c41 h
      refine q_iconst (v := (0 : Int32)) C dX9_round_119 (by decide) ?_
      refine q_goto (tgt := 140) C dX9_round_120 (by decide) ?_
      cases h
      exact q_iret C kf dX9_round_140
  · have h := ifT c9 h
    refine q_iconst (v := (0 : Int32)) C dX9_round_20 (by decide) ?_
    cases h
    exact q_iret C kf dX9_round_21
theorem k_X9_round (l : Launch) (hl : l.stackTraces = false) (G : GG) (l0 : Nat) (l1 : Int32) (M : Mem) (x : Int32 × Mem) (h : F_X9_round l0 l1 M = some x) : Ct l G yX9_round (.code yX9_round cX9_round 6 (some .int)) 9 185 [.ref l0, .int l1] M (rs_mI x) (ms_mI x) := by
  refine Ct_of (by decide +kernel) (Nat.le_of_ble_eq_true rfl) fun X e1 e2 e3 C FN hnm => ?_
  subst e1; subst e2
  show wq X 6 0 [(0, .ref l0), (1, .int l1)] [] M
  exact w_X9_round C FN.2.2.2 hl l0 l1 M h FN
/-! X9_see -/
set_option maxRecDepth 100000 in
set_option maxHeartbeats 4000000 in
theorem w_X9_see {X : CX} {y : Int32 × Mem} (C : CK X cX9_see 4 RX9 9 183) (hRO : RO X.2.2.1 X.1.2.2.2.2.1 X.1.2.2.2.2.1.heap) (hl : X.1.2.1.stackTraces = false) (l0 : Nat) (l1 : Int32) (l2 : Int32) (l3 : Int32) (M : Mem) (h : F_X9_see l0 l1 l2 l3 M = some y) (kf : FIN X (some .int) (rs_mI y) (ms_mI y)) : wq X 4 0 [(0, .ref l0), (1, .int l1), (2, .int l2), (3, .int l3)] [] M := by
  unfold F_X9_see at h
  refine q_aload_n 0 C dX9_see_0 rfl ?_
  refine q_iconst (v := (0 : Int32)) C dX9_see_1 (by decide) ?_
  obtain ⟨M1, e2, h⟩ := bindE h
  refine q_putI C fp_RX9_111 rfl e2 dX9_see_2 ?_
  refine q_aload_n 0 C dX9_see_5 rfl ?_
  refine q_iload_n 1 C dX9_see_6 rfl ?_
  obtain ⟨e3, h⟩ := ckOE h
  obtain ⟨v6, M5, e4, h⟩ := bd2E h
  refine q_callV (v := some (.int v6)) [.int l1] C hRO lk_RX9_367 vk_X9_isHouse e3 rfl rfl rfl (Nat.le_of_ble_eq_true rfl) (by decide) (by decide) dX9_see_7 (k_X9_isHouse X.1.2.1 hl X.2.2.1 l0 l1 M1 _ e4) ?_
  refine q_if_ne (tgt := 15) C dX9_see_10 (by decide) (fun c7 => ?_) (fun c7 => ?_)
  · have h := ifF c7 h
    refine q_aload_n 0 C dX9_see_15 rfl ?_
    obtain ⟨v8, e9, h⟩ := bindE h
    refine q_getI C fl_RX9_291 rfl e9 dX9_see_16 ?_
    refine q_bipush (v := (8 : Int32)) C dX9_see_19 (by decide) ?_
    refine q_icmp_eq (tgt := 44) C dX9_see_21 (by decide) (fun c10 => ?_) (fun c10 => ?_)
    · have h := ifT c10 h
      refine q_aload_n 0 C dX9_see_44 rfl ?_
      refine q_iconst (v := (2 : Int32)) C dX9_see_45 (by decide) ?_
      obtain ⟨e11, h⟩ := ckOE h
      obtain ⟨v14, M13, e12, h⟩ := bd2E h
      refine q_callV (v := some (.int v14)) [.int (2 : Int32)] C hRO lk_RX9_382 vk_X9_refuses e11 rfl rfl rfl (Nat.le_of_ble_eq_true rfl) (by decide) (by decide) dX9_see_46 (k_X9_refuses X.1.2.1 hl X.2.2.1 l0 (2 : Int32) M5 _ e12) ?_
      cases h
      exact q_iret C kf dX9_see_49
    · have h := ifF c10 h
      refine q_iload_n 2 C dX9_see_24 rfl ?_
      refine q_iconst (v := (0 : Int32)) C dX9_see_25 (by decide) ?_
      refine q_bipush (v := (20 : Int32)) C dX9_see_26 (by decide) ?_
      obtain ⟨v16, e15, h⟩ := bindE h
      refine q_callS (v := some (.int v16)) [.int l2, .int (0 : Int32), .int (20 : Int32)] C hRO lk_RX9_345 sk_X9_within rfl rfl (Nat.le_of_ble_eq_true rfl) (by decide) (by decide) dX9_see_28 (k_X9_within X.1.2.1 hl X.2.2.1 l2 (0 : Int32) (20 : Int32) M5 _ e15) ?_
      refine q_if_eq (tgt := 44) C dX9_see_31 (by decide) (fun c17 => ?_) (fun c17 => ?_)
      · have h := ifT c17 h
        refine q_aload_n 0 C dX9_see_44 rfl ?_
        refine q_iconst (v := (2 : Int32)) C dX9_see_45 (by decide) ?_
        obtain ⟨e18, h⟩ := ckOE h
        obtain ⟨v21, M20, e19, h⟩ := bd2E h
        refine q_callV (v := some (.int v21)) [.int (2 : Int32)] C hRO lk_RX9_382 vk_X9_refuses e18 rfl rfl rfl (Nat.le_of_ble_eq_true rfl) (by decide) (by decide) dX9_see_46 (k_X9_refuses X.1.2.1 hl X.2.2.1 l0 (2 : Int32) M5 _ e19) ?_
        cases h
        exact q_iret C kf dX9_see_49
      · have h := ifF c17 h
        refine q_iload_n 3 C dX9_see_34 rfl ?_
        refine q_iconst (v := (0 : Int32)) C dX9_see_35 (by decide) ?_
        refine q_bipush (v := (99 : Int32)) C dX9_see_36 (by decide) ?_
        obtain ⟨v23, e22, h⟩ := bindE h
        refine q_callS (v := some (.int v23)) [.int l3, .int (0 : Int32), .int (99 : Int32)] C hRO lk_RX9_345 sk_X9_within rfl rfl (Nat.le_of_ble_eq_true rfl) (by decide) (by decide) dX9_see_38 (k_X9_within X.1.2.1 hl X.2.2.1 l3 (0 : Int32) (99 : Int32) M5 _ e22) ?_
        refine q_if_ne (tgt := 50) C dX9_see_41 (by decide) (fun c24 => ?_) (fun c24 => ?_)
        · have h := ifF c24 h
          refine q_aload_n 0 C dX9_see_50 rfl ?_
          obtain ⟨v25, e26, h⟩ := bindE h
          refine q_getP C fl_RX9_93 rfl e26 dX9_see_51 ?_
          refine q_iconst (v := (3 : Int32)) C dX9_see_54 (by decide) ?_
          refine q_aload_n 0 C dX9_see_55 rfl ?_
          obtain ⟨v27, e28, h⟩ := bindE h
          refine q_getI C fl_RX9_291 rfl e28 dX9_see_56 ?_
          refine q_imul C dX9_see_59 ?_
          refine q_iload_n 1 C dX9_see_60 rfl ?_
          obtain ⟨M29, e30, h⟩ := bindE h
          refine q_iastore C e30 dX9_see_61 ?_
          refine q_aload_n 0 C dX9_see_62 rfl ?_
          obtain ⟨v31, e32, h⟩ := bindE h
          refine q_getP C fl_RX9_93 rfl e32 dX9_see_63 ?_
          refine q_iconst (v := (3 : Int32)) C dX9_see_66 (by decide) ?_
          refine q_aload_n 0 C dX9_see_67 rfl ?_
          obtain ⟨v33, e34, h⟩ := bindE h
          refine q_getI C fl_RX9_291 rfl e34 dX9_see_68 ?_
          refine q_imul C dX9_see_71 ?_
          refine q_iconst (v := (1 : Int32)) C dX9_see_72 (by decide) ?_
          refine q_iadd C dX9_see_73 ?_
          refine q_iload_n 2 C dX9_see_74 rfl ?_
          obtain ⟨M35, e36, h⟩ := bindE h
          refine q_iastore C e36 dX9_see_75 ?_
          refine q_aload_n 0 C dX9_see_76 rfl ?_
          obtain ⟨v37, e38, h⟩ := bindE h
          refine q_getP C fl_RX9_93 rfl e38 dX9_see_77 ?_
          refine q_iconst (v := (3 : Int32)) C dX9_see_80 (by decide) ?_
          refine q_aload_n 0 C dX9_see_81 rfl ?_
          obtain ⟨v39, e40, h⟩ := bindE h
          refine q_getI C fl_RX9_291 rfl e40 dX9_see_82 ?_
          refine q_imul C dX9_see_85 ?_
          refine q_iconst (v := (2 : Int32)) C dX9_see_86 (by decide) ?_
          refine q_iadd C dX9_see_87 ?_
          refine q_iload_n 3 C dX9_see_88 rfl ?_
          obtain ⟨M41, e42, h⟩ := bindE h
          refine q_iastore C e42 dX9_see_89 ?_
          refine q_aload_n 0 C dX9_see_90 rfl ?_
          refine q_dup C dX9_see_91 rfl ?_
          obtain ⟨v43, e44, h⟩ := bindE h
          refine q_getI C fl_RX9_291 rfl e44 dX9_see_92 ?_
          refine q_iconst (v := (1 : Int32)) C dX9_see_95 (by decide) ?_
          refine q_iadd C dX9_see_96 ?_
          obtain ⟨M45, e46, h⟩ := bindE h
          refine q_putI C fp_RX9_291 rfl e46 dX9_see_97 ?_
          refine q_aload_n 0 C dX9_see_100 rfl ?_
          obtain ⟨v47, e48, h⟩ := bindE h
          refine q_getI C fl_RX9_291 rfl e48 dX9_see_101 ?_
          cases h
          exact q_iret C kf dX9_see_104
        · have h := ifT c24 h
          refine q_aload_n 0 C dX9_see_44 rfl ?_
          refine q_iconst (v := (2 : Int32)) C dX9_see_45 (by decide) ?_
          obtain ⟨e49, h⟩ := ckOE h
          obtain ⟨v52, M51, e50, h⟩ := bd2E h
          refine q_callV (v := some (.int v52)) [.int (2 : Int32)] C hRO lk_RX9_382 vk_X9_refuses e49 rfl rfl rfl (Nat.le_of_ble_eq_true rfl) (by decide) (by decide) dX9_see_46 (k_X9_refuses X.1.2.1 hl X.2.2.1 l0 (2 : Int32) M5 _ e50) ?_
          cases h
          exact q_iret C kf dX9_see_49
  · have h := ifT c7 h
    refine q_iconst (v := (0 : Int32)) C dX9_see_13 (by decide) ?_
    cases h
    exact q_iret C kf dX9_see_14
theorem k_X9_see (l : Launch) (hl : l.stackTraces = false) (G : GG) (l0 : Nat) (l1 : Int32) (l2 : Int32) (l3 : Int32) (M : Mem) (x : Int32 × Mem) (h : F_X9_see l0 l1 l2 l3 M = some x) : Ct l G yX9_see (.code yX9_see cX9_see 4 (some .int)) 9 183 [.ref l0, .int l1, .int l2, .int l3] M (rs_mI x) (ms_mI x) := by
  refine Ct_of (by decide +kernel) (Nat.le_of_ble_eq_true rfl) fun X e1 e2 e3 C FN hnm => ?_
  subst e1; subst e2
  show wq X 4 0 [(0, .ref l0), (1, .int l1), (2, .int l2), (3, .int l3)] [] M
  exact w_X9_see C FN.2.2.2 hl l0 l1 l2 l3 M h FN
/-! X9_sorest -/
set_option maxRecDepth 100000 in
set_option maxHeartbeats 4000000 in
theorem w_X9_sorest_s26 {X : CX} {y : (Int32 × Int32) ⊕ (Int32)} (C : CK X cX9_sorest 4 RX9 14 300) (hRO : RO X.2.2.1 X.1.2.2.2.2.1 X.1.2.2.2.2.1.heap) (hl : X.1.2.1.stackTraces = false) (l0 : Nat) (M : Mem) (l2 : Int32) (l3 : Int32) (h : F_X9_sorest_s26 l0 M l2 l3 = some y) (kc : ∀ s' : Int32 × Int32, y = .inl s' → wq X 4 26 [(0, .ref l0), (2, .int (s'.1)), (3, .int (s'.2))] [] M) (kx : ∀ e' : Int32, y = (.inr e') → wq X 4 68 [(2, .int (e'))] [] M) : wq X 4 26 [(0, .ref l0), (2, .int l2), (3, .int l3)] [] M := by
  unfold F_X9_sorest_s26 at h
  refine q_iload_n 2 C dX9_sorest_26 rfl ?_
  refine q_aload_n 0 C dX9_sorest_27 rfl ?_
  obtain ⟨v12, e13, h⟩ := bindE h
  refine q_getI C fl_RX9_278 rfl e13 dX9_sorest_28 ?_
  refine q_icmp_ge (tgt := 68) C dX9_sorest_31 (by decide) (fun c14 => ?_) (fun c14 => ?_)
  · have h := ifT c14 h
    exact q_sub (lv' := [(2, .int l2)]) [1] rfl (kx l2 (someI h))
  · have h := ifF c14 h
    refine q_iload_n 1 C dX9_sorest_34 rfl ?_
    refine q_iconst (v := (-1 : Int32)) C dX9_sorest_35 (by decide) ?_
    refine q_icmp_eq (tgt := 60) C dX9_sorest_36 (by decide) (fun c15 => ?_) (fun c15 => ?_)
    · have h := ifT c15 h
      refine q_iload_n 2 C dX9_sorest_60 rfl ?_
      refine q_istore_n (i := 2) (lv' := [(2, .int l3), (0, .ref l0), (3, .int l3)]) C dX9_sorest_61 rfl (by decide) rfl ?_
      refine q_iinc 2 (v := (l3 + (1 : Int32))) (lv' := [(3, .int (l3 + (1 : Int32))), (2, .int l3), (0, .ref l0)]) C dX9_sorest_62 rfl rfl (by decide) rfl ?_
      refine q_goto (tgt := 26) C dX9_sorest_65 (by decide) ?_
      exact q_sub (lv' := [(0, .ref l0), (2, .int l3), (3, .int (l3 + (1 : Int32)))]) [2, 1, 0] rfl (kc (l3, (l3 + (1 : Int32))) (someI h))
    · have h := ifF c15 h
      refine q_aload_n 0 C dX9_sorest_39 rfl ?_
      obtain ⟨v16, e17, h⟩ := bindE h
      refine q_getP C fl_RX9_66 rfl e17 dX9_sorest_40 ?_
      refine q_bipush (v := (78 : Int32)) C dX9_sorest_43 (by decide) ?_
      refine q_iload_n 2 C dX9_sorest_45 rfl ?_
      refine q_iadd C dX9_sorest_46 ?_
      obtain ⟨v18, e19, h⟩ := bindE h
      refine q_iaload C e19 dX9_sorest_47 ?_
      refine q_aload_n 0 C dX9_sorest_48 rfl ?_
      obtain ⟨v20, e21, h⟩ := bindE h
      refine q_getP C fl_RX9_66 rfl e21 dX9_sorest_49 ?_
      refine q_bipush (v := (78 : Int32)) C dX9_sorest_52 (by decide) ?_
      refine q_iload_n 1 C dX9_sorest_54 rfl ?_
      refine q_iadd C dX9_sorest_55 ?_
      obtain ⟨v22, e23, h⟩ := bindE h
      refine q_iaload C e23 dX9_sorest_56 ?_
      refine q_icmp_le (tgt := 62) C dX9_sorest_57 (by decide) (fun c24 => ?_) (fun c24 => ?_)
      · have h := ifT c24 h
        refine q_iinc 2 (v := (l3 + (1 : Int32))) (lv' := [(3, .int (l3 + (1 : Int32))), (0, .ref l0), (2, .int l2)]) C dX9_sorest_62 rfl rfl (by decide) rfl ?_
        refine q_goto (tgt := 26) C dX9_sorest_65 (by decide) ?_
        exact q_sub (lv' := [(0, .ref l0), (2, .int l2), (3, .int (l3 + (1 : Int32)))]) [1, 2, 0] rfl (kc (l2, (l3 + (1 : Int32))) (someI h))
      · have h := ifF c24 h
        refine q_iload_n 2 C dX9_sorest_60 rfl ?_
        refine q_istore_n (i := 2) (lv' := [(2, .int l3), (0, .ref l0), (3, .int l3)]) C dX9_sorest_61 rfl (by decide) rfl ?_
        refine q_iinc 2 (v := (l3 + (1 : Int32))) (lv' := [(3, .int (l3 + (1 : Int32))), (2, .int l3), (0, .ref l0)]) C dX9_sorest_62 rfl rfl (by decide) rfl ?_
        refine q_goto (tgt := 26) C dX9_sorest_65 (by decide) ?_
        exact q_sub (lv' := [(0, .ref l0), (2, .int l3), (3, .int (l3 + (1 : Int32)))]) [2, 1, 0] rfl (kc (l3, (l3 + (1 : Int32))) (someI h))
theorem w_X9_sorest_l26 {X : CX} {r : Int32} (C : CK X cX9_sorest 4 RX9 14 300) (hRO : RO X.2.2.1 X.1.2.2.2.2.1 X.1.2.2.2.2.1.heap) (hl : X.1.2.1.stackTraces = false) (l0 : Nat) (M : Mem) (l2 : Int32) (l3 : Int32) (h : loop (fun s => F_X9_sorest_s26 l0 M s.1 s.2) (l2, l3) = some r) (kx : ∀ e' : Int32, r = e' → wq X 4 68 [(2, .int (e'))] [] M) : wq X 4 26 [(0, .ref l0), (2, .int l2), (3, .int l3)] [] M :=
  loop_ind (P := fun s => wq X 4 26 [(0, .ref l0), (2, .int s.1), (3, .int s.2)] [] M) h (fun s y hy kc kr => w_X9_sorest_s26 C hRO hl l0 M s.1 s.2 hy kc (fun e' he => kx e' (kr _ he).symm))
set_option maxRecDepth 100000 in
set_option maxHeartbeats 4000000 in
theorem w_X9_sorest {X : CX} {y : Int32 × Mem} (C : CK X cX9_sorest 4 RX9 14 300) (hRO : RO X.2.2.1 X.1.2.2.2.2.1 X.1.2.2.2.2.1.heap) (hl : X.1.2.1.stackTraces = false) (l0 : Nat) (l1 : Int32) (M : Mem) (h : F_X9_sorest l0 l1 M = some y) (kf : FIN X (some .int) (rs_mI y) (ms_mI y)) : wq X 4 0 [(0, .ref l0), (1, .int l1)] [] M := by
  unfold F_X9_sorest at h
  refine q_aload_n 0 C dX9_sorest_0 rfl ?_
  refine q_iconst (v := (0 : Int32)) C dX9_sorest_1 (by decide) ?_
  obtain ⟨M1, e2, h⟩ := bindE h
  refine q_putI C fp_RX9_111 rfl e2 dX9_sorest_2 ?_
  refine q_aload_n 0 C dX9_sorest_5 rfl ?_
  refine q_iload_n 1 C dX9_sorest_6 rfl ?_
  refine q_iconst (v := (0 : Int32)) C dX9_sorest_7 (by decide) ?_
  refine q_iconst (v := (1 : Int32)) C dX9_sorest_8 (by decide) ?_
  obtain ⟨e3, h⟩ := ckOE h
  obtain ⟨v6, M5, e4, h⟩ := bd2E h
  refine q_callV (v := some (.int v6)) [.int l1, .int (0 : Int32), .int (1 : Int32)] C hRO lk_RX9_397 vk_X9_isDays e3 rfl rfl rfl (Nat.le_of_ble_eq_true rfl) (by decide) (by decide) dX9_sorest_9 (k_X9_isDays X.1.2.1 hl X.2.2.1 l0 l1 (0 : Int32) (1 : Int32) M1 _ e4) ?_
  refine q_if_ne (tgt := 17) C dX9_sorest_12 (by decide) (fun c7 => ?_) (fun c7 => ?_)
  · have h := ifF c7 h
    refine q_aload_n 0 C dX9_sorest_17 rfl ?_
    refine q_iload_n 1 C dX9_sorest_18 rfl ?_
    obtain ⟨e8, h⟩ := ckOE h
    obtain ⟨M10, e9, h⟩ := bindE h
    refine q_callV (v := none) [.int l1] C hRO lk_RX9_400 vk_X9_goesTo e8 rfl rfl rfl (Nat.le_of_ble_eq_true rfl) (by decide) (by decide) dX9_sorest_19 (k_X9_goesTo X.1.2.1 hl X.2.2.1 l0 l1 M5 _ e9) ?_
    refine q_iconst (v := (-1 : Int32)) C dX9_sorest_22 (by decide) ?_
    refine q_istore_n (i := 2) (lv' := [(2, .int (-1 : Int32)), (0, .ref l0), (1, .int l1)]) C dX9_sorest_23 rfl (by decide) rfl ?_
    refine q_iconst (v := (0 : Int32)) C dX9_sorest_24 (by decide) ?_
    refine q_istore_n (i := 3) (lv' := [(3, .int (0 : Int32)), (2, .int (-1 : Int32)), (0, .ref l0), (1, .int l1)]) C dX9_sorest_25 rfl (by decide) rfl ?_
    obtain ⟨x27, e26, h⟩ := bindE h
    refine q_sub (lv' := [(0, .ref l0), (2, .int (-1 : Int32)), (3, .int (0 : Int32))]) [2, 1, 0] rfl (w_X9_sorest_l26 C hRO hl l0 M10 (-1 : Int32) (0 : Int32) e26 (fun r25 he => ?_))
    subst he
    show wq X 4 68 [(2, .int x27)] [] M10
    refine q_iload_n 0 C dX9_sorest_68 rfl ?_
    cases h
    exact q_iret C kf dX9_sorest_69
  · have h := ifT c7 h
    refine q_iconst (v := (0 : Int32)) C dX9_sorest_15 (by decide) ?_
    cases h
    exact q_iret C kf dX9_sorest_16
theorem k_X9_sorest (l : Launch) (hl : l.stackTraces = false) (G : GG) (l0 : Nat) (l1 : Int32) (M : Mem) (x : Int32 × Mem) (h : F_X9_sorest l0 l1 M = some x) : Ct l G yX9_sorest (.code yX9_sorest cX9_sorest 4 (some .int)) 14 300 [.ref l0, .int l1] M (rs_mI x) (ms_mI x) := by
  refine Ct_of (by decide +kernel) (Nat.le_of_ble_eq_true rfl) fun X e1 e2 e3 C FN hnm => ?_
  subst e1; subst e2
  show wq X 4 0 [(0, .ref l0), (1, .int l1)] [] M
  exact w_X9_sorest C FN.2.2.2 hl l0 l1 M h FN
/-! X9_stuff -/
set_option maxRecDepth 100000 in
set_option maxHeartbeats 4000000 in
theorem w_X9_stuff {X : CX} {y : Int32 × Mem} (C : CK X cX9_stuff 3 RX9 9 183) (hRO : RO X.2.2.1 X.1.2.2.2.2.1 X.1.2.2.2.2.1.heap) (hl : X.1.2.1.stackTraces = false) (l0 : Nat) (l1 : Int32) (l2 : Int32) (M : Mem) (h : F_X9_stuff l0 l1 l2 M = some y) (kf : FIN X (some .int) (rs_mI y) (ms_mI y)) : wq X 3 0 [(0, .ref l0), (1, .int l1), (2, .int l2)] [] M := by
  unfold F_X9_stuff at h
  refine q_aload_n 0 C dX9_stuff_0 rfl ?_
  refine q_iconst (v := (0 : Int32)) C dX9_stuff_1 (by decide) ?_
  obtain ⟨M1, e2, h⟩ := bindE h
  refine q_putI C fp_RX9_111 rfl e2 dX9_stuff_2 ?_
  refine q_aload_n 0 C dX9_stuff_5 rfl ?_
  refine q_iload_n 1 C dX9_stuff_6 rfl ?_
  obtain ⟨e3, h⟩ := ckOE h
  obtain ⟨v6, M5, e4, h⟩ := bd2E h
  refine q_callV (v := some (.int v6)) [.int l1] C hRO lk_RX9_367 vk_X9_isHouse e3 rfl rfl rfl (Nat.le_of_ble_eq_true rfl) (by decide) (by decide) dX9_stuff_7 (k_X9_isHouse X.1.2.1 hl X.2.2.1 l0 l1 M1 _ e4) ?_
  refine q_if_ne (tgt := 15) C dX9_stuff_10 (by decide) (fun c7 => ?_) (fun c7 => ?_)
  · have h := ifF c7 h
    refine q_aload_n 0 C dX9_stuff_15 rfl ?_
    obtain ⟨v8, e9, h⟩ := bindE h
    refine q_getP C fl_RX9_66 rfl e9 dX9_stuff_16 ?_
    refine q_bipush (v := (19 : Int32)) C dX9_stuff_19 (by decide) ?_
    refine q_iload_n 1 C dX9_stuff_21 rfl ?_
    refine q_iadd C dX9_stuff_22 ?_
    obtain ⟨v10, e11, h⟩ := bindE h
    refine q_iaload C e11 dX9_stuff_23 ?_
    refine q_iconst (v := (-1 : Int32)) C dX9_stuff_24 (by decide) ?_
    refine q_icmp_ne (tgt := 38) C dX9_stuff_25 (by decide) (fun c12 => ?_) (fun c12 => ?_)
    · have h := ifF c12 h
      refine q_aload_n 0 C dX9_stuff_38 rfl ?_
      refine q_iconst (v := (1 : Int32)) C dX9_stuff_39 (by decide) ?_
      obtain ⟨e13, h⟩ := ckOE h
      obtain ⟨v16, M15, e14, h⟩ := bd2E h
      refine q_callV (v := some (.int v16)) [.int (1 : Int32)] C hRO lk_RX9_382 vk_X9_refuses e13 rfl rfl rfl (Nat.le_of_ble_eq_true rfl) (by decide) (by decide) dX9_stuff_40 (k_X9_refuses X.1.2.1 hl X.2.2.1 l0 (1 : Int32) M5 _ e14) ?_
      cases h
      exact q_iret C kf dX9_stuff_43
    · have h := ifT c12 h
      refine q_iload_n 2 C dX9_stuff_28 rfl ?_
      refine q_iconst (v := (1 : Int32)) C dX9_stuff_29 (by decide) ?_
      refine q_bipush (v := (20 : Int32)) C dX9_stuff_30 (by decide) ?_
      obtain ⟨v18, e17, h⟩ := bindE h
      refine q_callS (v := some (.int v18)) [.int l2, .int (1 : Int32), .int (20 : Int32)] C hRO lk_RX9_345 sk_X9_within rfl rfl (Nat.le_of_ble_eq_true rfl) (by decide) (by decide) dX9_stuff_32 (k_X9_within X.1.2.1 hl X.2.2.1 l2 (1 : Int32) (20 : Int32) M5 _ e17) ?_
      refine q_if_ne (tgt := 44) C dX9_stuff_35 (by decide) (fun c19 => ?_) (fun c19 => ?_)
      · have h := ifF c19 h
        refine q_aload_n 0 C dX9_stuff_44 rfl ?_
        obtain ⟨e20, h⟩ := ckOE h
        obtain ⟨M22, e21, h⟩ := bindE h
        refine q_callV (v := none) [] C hRO lk_RX9_385 vk_X9_keeps e20 rfl rfl rfl (Nat.le_of_ble_eq_true rfl) (by decide) (by decide) dX9_stuff_45 (k_X9_keeps X.1.2.1 hl X.2.2.1 l0 M5 _ e21) ?_
        refine q_aload_n 0 C dX9_stuff_48 rfl ?_
        obtain ⟨v24, e25, h⟩ := bindE h
        refine q_getP C fl_RX9_66 rfl e25 dX9_stuff_49 ?_
        refine q_iconst (v := (3 : Int32)) C dX9_stuff_52 (by decide) ?_
        refine q_iload_n 1 C dX9_stuff_53 rfl ?_
        refine q_iadd C dX9_stuff_54 ?_
        refine q_aload_n 0 C dX9_stuff_55 rfl ?_
        obtain ⟨v26, e27, h⟩ := bindE h
        refine q_getP C fl_RX9_66 rfl e27 dX9_stuff_56 ?_
        refine q_iconst (v := (3 : Int32)) C dX9_stuff_59 (by decide) ?_
        refine q_iload_n 1 C dX9_stuff_60 rfl ?_
        refine q_iadd C dX9_stuff_61 ?_
        obtain ⟨v28, e29, h⟩ := bindE h
        refine q_iaload C e29 dX9_stuff_62 ?_
        refine q_iload_n 2 C dX9_stuff_63 rfl ?_
        refine q_isub C dX9_stuff_64 ?_
        refine q_iconst (v := (1 : Int32)) C dX9_stuff_65 (by decide) ?_
        refine q_ldcw (v := (99999 : Int32)) C cn_RX9_305 dX9_stuff_66 ?_
        obtain ⟨v31, e30, h⟩ := bindE h
        refine q_callS (v := some (.int v31)) [.int (v28 - l2), .int (1 : Int32), .int (99999 : Int32)] C hRO lk_RX9_306 sk_X9_bounded rfl rfl (Nat.le_of_ble_eq_true rfl) (by decide) (by decide) dX9_stuff_69 (k_X9_bounded X.1.2.1 hl X.2.2.1 (v28 - l2) (1 : Int32) (99999 : Int32) M22 _ e30) ?_
        obtain ⟨M32, e33, h⟩ := bindE h
        refine q_iastore C e33 dX9_stuff_72 ?_
        refine q_aload_n 0 C dX9_stuff_73 rfl ?_
        obtain ⟨v34, e35, h⟩ := bindE h
        refine q_getP C fl_RX9_66 rfl e35 dX9_stuff_74 ?_
        refine q_iconst (v := (3 : Int32)) C dX9_stuff_77 (by decide) ?_
        refine q_iload_n 1 C dX9_stuff_78 rfl ?_
        refine q_iadd C dX9_stuff_79 ?_
        obtain ⟨v36, e37, h⟩ := bindE h
        refine q_iaload C e37 dX9_stuff_80 ?_
        cases h
        exact q_iret C kf dX9_stuff_81
      · have h := ifT c19 h
        refine q_aload_n 0 C dX9_stuff_38 rfl ?_
        refine q_iconst (v := (1 : Int32)) C dX9_stuff_39 (by decide) ?_
        obtain ⟨e38, h⟩ := ckOE h
        obtain ⟨v41, M40, e39, h⟩ := bd2E h
        refine q_callV (v := some (.int v41)) [.int (1 : Int32)] C hRO lk_RX9_382 vk_X9_refuses e38 rfl rfl rfl (Nat.le_of_ble_eq_true rfl) (by decide) (by decide) dX9_stuff_40 (k_X9_refuses X.1.2.1 hl X.2.2.1 l0 (1 : Int32) M5 _ e39) ?_
        cases h
        exact q_iret C kf dX9_stuff_43
  · have h := ifT c7 h
    refine q_iconst (v := (0 : Int32)) C dX9_stuff_13 (by decide) ?_
    cases h
    exact q_iret C kf dX9_stuff_14
theorem k_X9_stuff (l : Launch) (hl : l.stackTraces = false) (G : GG) (l0 : Nat) (l1 : Int32) (l2 : Int32) (M : Mem) (x : Int32 × Mem) (h : F_X9_stuff l0 l1 l2 M = some x) : Ct l G yX9_stuff (.code yX9_stuff cX9_stuff 3 (some .int)) 9 183 [.ref l0, .int l1, .int l2] M (rs_mI x) (ms_mI x) := by
  refine Ct_of (by decide +kernel) (Nat.le_of_ble_eq_true rfl) fun X e1 e2 e3 C FN hnm => ?_
  subst e1; subst e2
  show wq X 3 0 [(0, .ref l0), (1, .int l1), (2, .int l2)] [] M
  exact w_X9_stuff C FN.2.2.2 hl l0 l1 l2 M h FN
/-! X9_then -/
set_option maxRecDepth 100000 in
set_option maxHeartbeats 4000000 in
theorem w_X9_then {X : CX} {y : Int32 × Mem} (C : CK X cX9_then 4 RX9 14 300) (hRO : RO X.2.2.1 X.1.2.2.2.2.1 X.1.2.2.2.2.1.heap) (hl : X.1.2.1.stackTraces = false) (l0 : Nat) (l1 : Int32) (l2 : Int32) (l3 : Int32) (M : Mem) (h : F_X9_then l0 l1 l2 l3 M = some y) (kf : FIN X (some .int) (rs_mI y) (ms_mI y)) : wq X 4 0 [(0, .ref l0), (1, .int l1), (2, .int l2), (3, .int l3)] [] M := by
  unfold F_X9_then at h
  refine q_aload_n 0 C dX9_then_0 rfl ?_
  refine q_iconst (v := (0 : Int32)) C dX9_then_1 (by decide) ?_
  obtain ⟨M1, e2, h⟩ := bindE h
  refine q_putI C fp_RX9_111 rfl e2 dX9_then_2 ?_
  refine q_aload_n 0 C dX9_then_5 rfl ?_
  refine q_iload_n 1 C dX9_then_6 rfl ?_
  obtain ⟨e3, h⟩ := ckOE h
  obtain ⟨v6, M5, e4, h⟩ := bd2E h
  refine q_callV (v := some (.int v6)) [.int l1] C hRO lk_RX9_379 vk_X9_isPerson e3 rfl rfl rfl (Nat.le_of_ble_eq_true rfl) (by decide) (by decide) dX9_then_7 (k_X9_isPerson X.1.2.1 hl X.2.2.1 l0 l1 M1 _ e4) ?_
  refine q_if_eq (tgt := 32) C dX9_then_10 (by decide) (fun c7 => ?_) (fun c7 => ?_)
  · have h := ifT c7 h
    refine q_iconst (v := (0 : Int32)) C dX9_then_32 (by decide) ?_
    cases h
    exact q_iret C kf dX9_then_33
  · have h := ifF c7 h
    refine q_aload_n 0 C dX9_then_13 rfl ?_
    refine q_iload_n 3 C dX9_then_14 rfl ?_
    refine q_iconst (v := (2 : Int32)) C dX9_then_15 (by decide) ?_
    obtain ⟨e8, h⟩ := ckOE h
    obtain ⟨v11, M10, e9, h⟩ := bd2E h
    refine q_callV (v := some (.int v11)) [.int l3, .int (2 : Int32)] C hRO lk_RX9_370 vk_X9_isWhat e8 rfl rfl rfl (Nat.le_of_ble_eq_true rfl) (by decide) (by decide) dX9_then_16 (k_X9_isWhat X.1.2.1 hl X.2.2.1 l0 l3 (2 : Int32) M5 _ e9) ?_
    refine q_if_eq (tgt := 32) C dX9_then_19 (by decide) (fun c12 => ?_) (fun c12 => ?_)
    · have h := ifT c12 h
      refine q_iconst (v := (0 : Int32)) C dX9_then_32 (by decide) ?_
      cases h
      exact q_iret C kf dX9_then_33
    · have h := ifF c12 h
      refine q_aload_n 0 C dX9_then_22 rfl ?_
      refine q_iload_n 2 C dX9_then_23 rfl ?_
      refine q_iconst (v := (0 : Int32)) C dX9_then_24 (by decide) ?_
      refine q_iconst (v := (2 : Int32)) C dX9_then_25 (by decide) ?_
      obtain ⟨e13, h⟩ := ckOE h
      obtain ⟨v16, M15, e14, h⟩ := bd2E h
      refine q_callV (v := some (.int v16)) [.int l2, .int (0 : Int32), .int (2 : Int32)] C hRO lk_RX9_397 vk_X9_isDays e13 rfl rfl rfl (Nat.le_of_ble_eq_true rfl) (by decide) (by decide) dX9_then_26 (k_X9_isDays X.1.2.1 hl X.2.2.1 l0 l2 (0 : Int32) (2 : Int32) M10 _ e14) ?_
      refine q_if_ne (tgt := 34) C dX9_then_29 (by decide) (fun c17 => ?_) (fun c17 => ?_)
      · have h := ifF c17 h
        refine q_aload_n 0 C dX9_then_34 rfl ?_
        refine q_iload_n 2 C dX9_then_35 rfl ?_
        obtain ⟨e18, h⟩ := ckOE h
        obtain ⟨M20, e19, h⟩ := bindE h
        refine q_callV (v := none) [.int l2] C hRO lk_RX9_400 vk_X9_goesTo e18 rfl rfl rfl (Nat.le_of_ble_eq_true rfl) (by decide) (by decide) dX9_then_36 (k_X9_goesTo X.1.2.1 hl X.2.2.1 l0 l2 M15 _ e19) ?_
        refine q_iload_n 3 C dX9_then_39 rfl ?_
        refine q_if_ne (tgt := 55) C dX9_then_40 (by decide) (fun c22 => ?_) (fun c22 => ?_)
        · have h := ifF c22 h
          refine q_iload_n 3 C dX9_then_55 rfl ?_
          refine q_iconst (v := (1 : Int32)) C dX9_then_56 (by decide) ?_
          refine q_icmp_ne (tgt := 70) C dX9_then_57 (by decide) (fun c23 => ?_) (fun c23 => ?_)
          · have h := ifF c23 h
            refine q_aload_n 0 C dX9_then_70 rfl ?_
            obtain ⟨v24, e25, h⟩ := bindE h
            refine q_getP C fl_RX9_66 rfl e25 dX9_then_71 ?_
            refine q_bipush (v := (78 : Int32)) C dX9_then_74 (by decide) ?_
            refine q_iload_n 1 C dX9_then_76 rfl ?_
            refine q_iadd C dX9_then_77 ?_
            obtain ⟨v26, e27, h⟩ := bindE h
            refine q_iaload C e27 dX9_then_78 ?_
            cases h
            exact q_iret C kf dX9_then_79
          · have h := ifT c23 h
            refine q_aload_n 0 C dX9_then_60 rfl ?_
            refine q_bipush (v := (43 : Int32)) C dX9_then_61 (by decide) ?_
            refine q_iload_n 1 C dX9_then_63 rfl ?_
            obtain ⟨e28, h⟩ := ckOE h
            obtain ⟨v30, e29, h⟩ := bindE h
            refine q_callV (v := some (.int v30)) [.int (43 : Int32), .int l1] C hRO lk_RX9_339 vk_X9_houseOf e28 rfl rfl rfl (Nat.le_of_ble_eq_true rfl) (by decide) (by decide) dX9_then_64 (k_X9_houseOf X.1.2.1 hl X.2.2.1 l0 (43 : Int32) l1 M20 _ e29) ?_
            refine q_goto (tgt := 79) C dX9_then_67 (by decide) ?_
            cases h
            exact q_iret C kf dX9_then_79
        · have h := ifT c22 h
          refine q_aload_n 0 C dX9_then_43 rfl ?_
          obtain ⟨v31, e32, h⟩ := bindE h
          refine q_getP C fl_RX9_66 rfl e32 dX9_then_44 ?_
          refine q_bipush (v := (70 : Int32)) C dX9_then_47 (by decide) ?_
          refine q_iload_n 1 C dX9_then_49 rfl ?_
          refine q_iadd C dX9_then_50 ?_
          obtain ⟨v33, e34, h⟩ := bindE h
          refine q_iaload C e34 dX9_then_51 ?_
          refine q_goto (tgt := 79) C dX9_then_52 (by decide) ?_
          cases h
          exact q_iret C kf dX9_then_79
      · have h := ifT c17 h
        refine q_iconst (v := (0 : Int32)) C dX9_then_32 (by decide) ?_
        cases h
        exact q_iret C kf dX9_then_33
theorem k_X9_then (l : Launch) (hl : l.stackTraces = false) (G : GG) (l0 : Nat) (l1 : Int32) (l2 : Int32) (l3 : Int32) (M : Mem) (x : Int32 × Mem) (h : F_X9_then l0 l1 l2 l3 M = some x) : Ct l G yX9_then (.code yX9_then cX9_then 4 (some .int)) 14 300 [.ref l0, .int l1, .int l2, .int l3] M (rs_mI x) (ms_mI x) := by
  refine Ct_of (by decide +kernel) (Nat.le_of_ble_eq_true rfl) fun X e1 e2 e3 C FN hnm => ?_
  subst e1; subst e2
  show wq X 4 0 [(0, .ref l0), (1, .int l1), (2, .int l2), (3, .int l3)] [] M
  exact w_X9_then C FN.2.2.2 hl l0 l1 l2 l3 M h FN
/-! X9_thrown -/
set_option maxRecDepth 100000 in
set_option maxHeartbeats 4000000 in
theorem w_X9_thrown {X : CX} {y : Int32} (C : CK X cX9_thrown 1 RX9 7 140) (hRO : RO X.2.2.1 X.1.2.2.2.2.1 X.1.2.2.2.2.1.heap) (hl : X.1.2.1.stackTraces = false) (l0 : Nat) (M : Mem) (h : F_X9_thrown l0 M = some y) (kf : FIN X (some .int) (rs_pI y) M) : wq X 1 0 [(0, .ref l0)] [] M := by
  unfold F_X9_thrown at h
  refine q_aload_n 0 C dX9_thrown_0 rfl ?_
  obtain ⟨v1, e2, h⟩ := bindE h
  refine q_getI C fl_RX9_111 rfl e2 dX9_thrown_1 ?_
  cases h
  exact q_iret C kf dX9_thrown_4
theorem k_X9_thrown (l : Launch) (hl : l.stackTraces = false) (G : GG) (l0 : Nat) (M : Mem) (x : Int32) (h : F_X9_thrown l0 M = some x) : Ct l G yX9_thrown (.code yX9_thrown cX9_thrown 1 (some .int)) 7 140 [.ref l0] M (rs_pI x) M := by
  refine Ct_of (by decide +kernel) (Nat.le_of_ble_eq_true rfl) fun X e1 e2 e3 C FN hnm => ?_
  subst e1; subst e2
  show wq X 1 0 [(0, .ref l0)] [] M
  exact w_X9_thrown C FN.2.2.2 hl l0 M h FN
/-! X9_toGrow -/
set_option maxRecDepth 100000 in
set_option maxHeartbeats 4000000 in
theorem w_X9_toGrow_s29 {X : CX} {y : (Int32 × Mem) ⊕ ((Mem) ⊕ (Int32 × Mem))} (C : CK X cX9_toGrow 4 RX9 12 257) (hRO : RO X.2.2.1 X.1.2.2.2.2.1 X.1.2.2.2.2.1.heap) (hl : X.1.2.1.stackTraces = false) (l0 : Nat) (l1 : Int32) (l2 : Int32) (l3 : Int32) (M : Mem) (h : F_X9_toGrow_s29 l0 l1 l2 l3 M = some y) (kc : ∀ s' : Int32 × Mem, y = .inl s' → wq X 4 29 [(0, .ref l0), (1, .int l1), (2, .int l2), (3, .int (s'.1))] [] s'.2) (kx : ∀ e' : Mem, y = (.inr (.inl e')) → wq X 4 69 [] [] e') (kf : ∀ f' : Int32 × Mem, y = (.inr (.inr f')) → FIN X (some .int) (rs_mI f') (ms_mI f')) : wq X 4 29 [(0, .ref l0), (1, .int l1), (2, .int l2), (3, .int l3)] [] M := by
  unfold F_X9_toGrow_s29 at h
  refine q_iload_n 3 C dX9_toGrow_29 rfl ?_
  refine q_bipush (v := (40 : Int32)) C dX9_toGrow_30 (by decide) ?_
  refine q_icmp_gt (tgt := 69) C dX9_toGrow_32 (by decide) (fun c17 => ?_) (fun c17 => ?_)
  · have h := ifT c17 h
    exact q_sub (lv' := []) [] rfl (kx M (someI h))
  · have h := ifF c17 h
    refine q_aload_n 0 C dX9_toGrow_35 rfl ?_
    obtain ⟨v18, e19, h⟩ := bindE h
    refine q_getP C fl_RX9_66 rfl e19 dX9_toGrow_36 ?_
    refine q_bipush (v := (70 : Int32)) C dX9_toGrow_39 (by decide) ?_
    refine q_iload_n 1 C dX9_toGrow_41 rfl ?_
    refine q_iadd C dX9_toGrow_42 ?_
    obtain ⟨v20, e21, h⟩ := bindE h
    refine q_iaload C e21 dX9_toGrow_43 ?_
    refine q_aload_n 0 C dX9_toGrow_44 rfl ?_
    obtain ⟨v22, e23, h⟩ := bindE h
    refine q_getP C fl_RX9_66 rfl e23 dX9_toGrow_45 ?_
    refine q_iconst (v := (3 : Int32)) C dX9_toGrow_48 (by decide) ?_
    refine q_iload_n 2 C dX9_toGrow_49 rfl ?_
    refine q_iadd C dX9_toGrow_50 ?_
    obtain ⟨v24, e25, h⟩ := bindE h
    refine q_iaload C e25 dX9_toGrow_51 ?_
    refine q_icmp_lt (tgt := 57) C dX9_toGrow_52 (by decide) (fun c26 => ?_) (fun c26 => ?_)
    · have h := ifT c26 h
      refine q_aload_n 0 C dX9_toGrow_57 rfl ?_
      refine q_bipush (v := (43 : Int32)) C dX9_toGrow_58 (by decide) ?_
      obtain ⟨e27, h⟩ := ckOE h
      obtain ⟨M29, e28, h⟩ := bindE h
      refine q_callV (v := none) [.int (43 : Int32)] C hRO lk_RX9_336 vk_X9_dayGoes e27 rfl rfl rfl (Nat.le_of_ble_eq_true rfl) (by decide) (by decide) dX9_toGrow_60 (k_X9_dayGoes X.1.2.1 hl X.2.2.1 l0 (43 : Int32) M _ e28) ?_
      refine q_iinc 3 (v := (l3 + (1 : Int32))) (lv' := [(3, .int (l3 + (1 : Int32))), (0, .ref l0), (1, .int l1), (2, .int l2)]) C dX9_toGrow_63 rfl rfl (by decide) rfl ?_
      refine q_goto (tgt := 29) C dX9_toGrow_66 (by decide) ?_
      exact q_sub (lv' := [(0, .ref l0), (1, .int l1), (2, .int l2), (3, .int (l3 + (1 : Int32)))]) [1, 2, 3, 0] rfl (kc ((l3 + (1 : Int32)), M29) (someI h))
    · have h := ifF c26 h
      refine q_iload_n 3 C dX9_toGrow_55 rfl ?_
      exact q_iret C (kf _ (someI h)) dX9_toGrow_56
theorem w_X9_toGrow_l29 {X : CX} {r : (Mem) ⊕ (Int32 × Mem)} (C : CK X cX9_toGrow 4 RX9 12 257) (hRO : RO X.2.2.1 X.1.2.2.2.2.1 X.1.2.2.2.2.1.heap) (hl : X.1.2.1.stackTraces = false) (l0 : Nat) (l1 : Int32) (l2 : Int32) (l3 : Int32) (M : Mem) (h : loop (fun s => F_X9_toGrow_s29 l0 l1 l2 s.1 s.2) (l3, M) = some r) (kx : ∀ e' : Mem, r = .inl e' → wq X 4 69 [] [] e') (kf : ∀ f' : Int32 × Mem, r = .inr f' → FIN X (some .int) (rs_mI f') (ms_mI f')) : wq X 4 29 [(0, .ref l0), (1, .int l1), (2, .int l2), (3, .int l3)] [] M :=
  loop_ind (P := fun s => wq X 4 29 [(0, .ref l0), (1, .int l1), (2, .int l2), (3, .int s.1)] [] s.2) h (fun s y hy kc kr => w_X9_toGrow_s29 C hRO hl l0 l1 l2 s.1 s.2 hy kc (fun e' he => kx e' (kr _ he).symm) (fun f' he => kf f' (kr _ he).symm))
set_option maxRecDepth 100000 in
set_option maxHeartbeats 4000000 in
theorem w_X9_toGrow {X : CX} {y : Int32 × Mem} (C : CK X cX9_toGrow 4 RX9 12 257) (hRO : RO X.2.2.1 X.1.2.2.2.2.1 X.1.2.2.2.2.1.heap) (hl : X.1.2.1.stackTraces = false) (l0 : Nat) (l1 : Int32) (l2 : Int32) (M : Mem) (h : F_X9_toGrow l0 l1 l2 M = some y) (kf : FIN X (some .int) (rs_mI y) (ms_mI y)) : wq X 4 0 [(0, .ref l0), (1, .int l1), (2, .int l2)] [] M := by
  unfold F_X9_toGrow at h
  refine q_aload_n 0 C dX9_toGrow_0 rfl ?_
  refine q_iconst (v := (0 : Int32)) C dX9_toGrow_1 (by decide) ?_
  obtain ⟨M1, e2, h⟩ := bindE h
  refine q_putI C fp_RX9_111 rfl e2 dX9_toGrow_2 ?_
  refine q_aload_n 0 C dX9_toGrow_5 rfl ?_
  refine q_iload_n 1 C dX9_toGrow_6 rfl ?_
  obtain ⟨e3, h⟩ := ckOE h
  obtain ⟨v6, M5, e4, h⟩ := bd2E h
  refine q_callV (v := some (.int v6)) [.int l1] C hRO lk_RX9_379 vk_X9_isPerson e3 rfl rfl rfl (Nat.le_of_ble_eq_true rfl) (by decide) (by decide) dX9_toGrow_7 (k_X9_isPerson X.1.2.1 hl X.2.2.1 l0 l1 M1 _ e4) ?_
  refine q_if_eq (tgt := 21) C dX9_toGrow_10 (by decide) (fun c7 => ?_) (fun c7 => ?_)
  · have h := ifT c7 h
    refine q_iconst (v := (0 : Int32)) C dX9_toGrow_21 (by decide) ?_
    cases h
    exact q_iret C kf dX9_toGrow_22
  · have h := ifF c7 h
    refine q_aload_n 0 C dX9_toGrow_13 rfl ?_
    refine q_iload_n 2 C dX9_toGrow_14 rfl ?_
    obtain ⟨e8, h⟩ := ckOE h
    obtain ⟨v11, M10, e9, h⟩ := bd2E h
    refine q_callV (v := some (.int v11)) [.int l2] C hRO lk_RX9_367 vk_X9_isHouse e8 rfl rfl rfl (Nat.le_of_ble_eq_true rfl) (by decide) (by decide) dX9_toGrow_15 (k_X9_isHouse X.1.2.1 hl X.2.2.1 l0 l2 M5 _ e9) ?_
    refine q_if_ne (tgt := 23) C dX9_toGrow_18 (by decide) (fun c12 => ?_) (fun c12 => ?_)
    · have h := ifF c12 h
      refine q_aload_n 0 C dX9_toGrow_23 rfl ?_
      obtain ⟨e13, h⟩ := ckOE h
      obtain ⟨M15, e14, h⟩ := bindE h
      refine q_callV (v := none) [] C hRO lk_RX9_391 vk_X9_tries e13 rfl rfl rfl (Nat.le_of_ble_eq_true rfl) (by decide) (by decide) dX9_toGrow_24 (k_X9_tries X.1.2.1 hl X.2.2.1 l0 M10 _ e14) ?_
      refine q_iconst (v := (0 : Int32)) C dX9_toGrow_27 (by decide) ?_
      refine q_istore_n (i := 3) (lv' := [(3, .int (0 : Int32)), (0, .ref l0), (1, .int l1), (2, .int l2)]) C dX9_toGrow_28 rfl (by decide) rfl ?_
      obtain ⟨r31, e32, h⟩ := bindE h
      refine q_sub (lv' := [(0, .ref l0), (1, .int l1), (2, .int l2), (3, .int (0 : Int32))]) [1, 2, 3, 0] rfl (w_X9_toGrow_l29 C hRO hl l0 l1 l2 (0 : Int32) M15 e32 (fun M33 he => ?_) (fun f35 he => ?_))
      · subst he
        have h := elimL h
        show wq X 4 69 [] [] M33
        refine q_iconst (v := (-1 : Int32)) C dX9_toGrow_69 (by decide) ?_
        cases h
        exact q_iret C kf dX9_toGrow_70
      · subst he
        have h := elimR h
        cases h
        exact kf
    · have h := ifT c12 h
      refine q_iconst (v := (0 : Int32)) C dX9_toGrow_21 (by decide) ?_
      cases h
      exact q_iret C kf dX9_toGrow_22
theorem k_X9_toGrow (l : Launch) (hl : l.stackTraces = false) (G : GG) (l0 : Nat) (l1 : Int32) (l2 : Int32) (M : Mem) (x : Int32 × Mem) (h : F_X9_toGrow l0 l1 l2 M = some x) : Ct l G yX9_toGrow (.code yX9_toGrow cX9_toGrow 4 (some .int)) 12 257 [.ref l0, .int l1, .int l2] M (rs_mI x) (ms_mI x) := by
  refine Ct_of (by decide +kernel) (Nat.le_of_ble_eq_true rfl) fun X e1 e2 e3 C FN hnm => ?_
  subst e1; subst e2
  show wq X 4 0 [(0, .ref l0), (1, .int l1), (2, .int l2)] [] M
  exact w_X9_toGrow C FN.2.2.2 hl l0 l1 l2 M h FN
/-! X9_toStuff -/
set_option maxRecDepth 100000 in
set_option maxHeartbeats 4000000 in
theorem w_X9_toStuff {X : CX} {y : Int32 × Mem} (C : CK X cX9_toStuff 4 RX9 9 183) (hRO : RO X.2.2.1 X.1.2.2.2.2.1 X.1.2.2.2.2.1.heap) (hl : X.1.2.1.stackTraces = false) (l0 : Nat) (l1 : Int32) (l2 : Int32) (M : Mem) (h : F_X9_toStuff l0 l1 l2 M = some y) (kf : FIN X (some .int) (rs_mI y) (ms_mI y)) : wq X 4 0 [(0, .ref l0), (1, .int l1), (2, .int l2)] [] M := by
  unfold F_X9_toStuff at h
  refine q_aload_n 0 C dX9_toStuff_0 rfl ?_
  refine q_iconst (v := (0 : Int32)) C dX9_toStuff_1 (by decide) ?_
  obtain ⟨M1, e2, h⟩ := bindE h
  refine q_putI C fp_RX9_111 rfl e2 dX9_toStuff_2 ?_
  refine q_aload_n 0 C dX9_toStuff_5 rfl ?_
  refine q_iload_n 1 C dX9_toStuff_6 rfl ?_
  obtain ⟨e3, h⟩ := ckOE h
  obtain ⟨v6, M5, e4, h⟩ := bd2E h
  refine q_callV (v := some (.int v6)) [.int l1] C hRO lk_RX9_379 vk_X9_isPerson e3 rfl rfl rfl (Nat.le_of_ble_eq_true rfl) (by decide) (by decide) dX9_toStuff_7 (k_X9_isPerson X.1.2.1 hl X.2.2.1 l0 l1 M1 _ e4) ?_
  refine q_if_eq (tgt := 21) C dX9_toStuff_10 (by decide) (fun c7 => ?_) (fun c7 => ?_)
  · have h := ifT c7 h
    refine q_iconst (v := (0 : Int32)) C dX9_toStuff_21 (by decide) ?_
    cases h
    exact q_iret C kf dX9_toStuff_22
  · have h := ifF c7 h
    refine q_aload_n 0 C dX9_toStuff_13 rfl ?_
    refine q_iload_n 2 C dX9_toStuff_14 rfl ?_
    obtain ⟨e8, h⟩ := ckOE h
    obtain ⟨v11, M10, e9, h⟩ := bd2E h
    refine q_callV (v := some (.int v11)) [.int l2] C hRO lk_RX9_367 vk_X9_isHouse e8 rfl rfl rfl (Nat.le_of_ble_eq_true rfl) (by decide) (by decide) dX9_toStuff_15 (k_X9_isHouse X.1.2.1 hl X.2.2.1 l0 l2 M5 _ e9) ?_
    refine q_if_ne (tgt := 23) C dX9_toStuff_18 (by decide) (fun c12 => ?_) (fun c12 => ?_)
    · have h := ifF c12 h
      refine q_aload_n 0 C dX9_toStuff_23 rfl ?_
      obtain ⟨v13, e14, h⟩ := bindE h
      refine q_getP C fl_RX9_66 rfl e14 dX9_toStuff_24 ?_
      refine q_iconst (v := (3 : Int32)) C dX9_toStuff_27 (by decide) ?_
      refine q_iload_n 2 C dX9_toStuff_28 rfl ?_
      refine q_iadd C dX9_toStuff_29 ?_
      obtain ⟨v15, e16, h⟩ := bindE h
      refine q_iaload C e16 dX9_toStuff_30 ?_
      refine q_aload_n 0 C dX9_toStuff_31 rfl ?_
      obtain ⟨v17, e18, h⟩ := bindE h
      refine q_getP C fl_RX9_66 rfl e18 dX9_toStuff_32 ?_
      refine q_bipush (v := (27 : Int32)) C dX9_toStuff_35 (by decide) ?_
      refine q_iload_n 1 C dX9_toStuff_37 rfl ?_
      refine q_iadd C dX9_toStuff_38 ?_
      obtain ⟨v19, e20, h⟩ := bindE h
      refine q_iaload C e20 dX9_toStuff_39 ?_
      refine q_isub C dX9_toStuff_40 ?_
      refine q_iconst (v := (0 : Int32)) C dX9_toStuff_41 (by decide) ?_
      refine q_ldcw (v := (99999 : Int32)) C cn_RX9_305 dX9_toStuff_42 ?_
      obtain ⟨v22, e21, h⟩ := bindE h
      refine q_callS (v := some (.int v22)) [.int (v15 - v19), .int (0 : Int32), .int (99999 : Int32)] C hRO lk_RX9_306 sk_X9_bounded rfl rfl (Nat.le_of_ble_eq_true rfl) (by decide) (by decide) dX9_toStuff_45 (k_X9_bounded X.1.2.1 hl X.2.2.1 (v15 - v19) (0 : Int32) (99999 : Int32) M10 _ e21) ?_
      refine q_istore_n (i := 3) (lv' := [(3, .int v22), (0, .ref l0), (1, .int l1), (2, .int l2)]) C dX9_toStuff_48 rfl (by decide) rfl ?_
      refine q_iload_n 0 C dX9_toStuff_49 rfl ?_
      refine q_bipush (v := (20 : Int32)) C dX9_toStuff_50 (by decide) ?_
      refine q_icmp_le (tgt := 59) C dX9_toStuff_52 (by decide) (fun c23 => ?_) (fun c23 => ?_)
      · have h := ifT c23 h
        refine q_iload_n 0 C dX9_toStuff_59 rfl ?_
        cases h
        exact q_iret C kf dX9_toStuff_60
      · have h := ifF c23 h
        refine q_iconst (v := (-1 : Int32)) C dX9_toStuff_55 (by decide) ?_
        refine q_goto (tgt := 60) C dX9_toStuff_56 (by decide) ?_
        cases h
        exact q_iret C kf dX9_toStuff_60
    · have h := ifT c12 h
      refine q_iconst (v := (0 : Int32)) C dX9_toStuff_21 (by decide) ?_
      cases h
      exact q_iret C kf dX9_toStuff_22
theorem k_X9_toStuff (l : Launch) (hl : l.stackTraces = false) (G : GG) (l0 : Nat) (l1 : Int32) (l2 : Int32) (M : Mem) (x : Int32 × Mem) (h : F_X9_toStuff l0 l1 l2 M = some x) : Ct l G yX9_toStuff (.code yX9_toStuff cX9_toStuff 4 (some .int)) 9 183 [.ref l0, .int l1, .int l2] M (rs_mI x) (ms_mI x) := by
  refine Ct_of (by decide +kernel) (Nat.le_of_ble_eq_true rfl) fun X e1 e2 e3 C FN hnm => ?_
  subst e1; subst e2
  show wq X 4 0 [(0, .ref l0), (1, .int l1), (2, .int l2)] [] M
  exact w_X9_toStuff C FN.2.2.2 hl l0 l1 l2 M h FN
/-! X9_toWait -/
set_option maxRecDepth 100000 in
set_option maxHeartbeats 4000000 in
theorem w_X9_toWait_s29 {X : CX} {y : (Int32 × Mem) ⊕ ((Mem) ⊕ (Int32 × Mem))} (C : CK X cX9_toWait 4 RX9 12 257) (hRO : RO X.2.2.1 X.1.2.2.2.2.1 X.1.2.2.2.2.1.heap) (hl : X.1.2.1.stackTraces = false) (l0 : Nat) (l1 : Int32) (l2 : Int32) (l3 : Int32) (M : Mem) (h : F_X9_toWait_s29 l0 l1 l2 l3 M = some y) (kc : ∀ s' : Int32 × Mem, y = .inl s' → wq X 4 29 [(0, .ref l0), (1, .int l1), (2, .int l2), (3, .int (s'.1))] [] s'.2) (kx : ∀ e' : Mem, y = (.inr (.inl e')) → wq X 4 60 [] [] e') (kf : ∀ f' : Int32 × Mem, y = (.inr (.inr f')) → FIN X (some .int) (rs_mI f') (ms_mI f')) : wq X 4 29 [(0, .ref l0), (1, .int l1), (2, .int l2), (3, .int l3)] [] M := by
  unfold F_X9_toWait_s29 at h
  refine q_iload_n 3 C dX9_toWait_29 rfl ?_
  refine q_bipush (v := (40 : Int32)) C dX9_toWait_30 (by decide) ?_
  refine q_icmp_gt (tgt := 60) C dX9_toWait_32 (by decide) (fun c17 => ?_) (fun c17 => ?_)
  · have h := ifT c17 h
    exact q_sub (lv' := []) [] rfl (kx M (someI h))
  · have h := ifF c17 h
    refine q_aload_n 0 C dX9_toWait_35 rfl ?_
    refine q_bipush (v := (43 : Int32)) C dX9_toWait_36 (by decide) ?_
    refine q_iload_n 1 C dX9_toWait_38 rfl ?_
    refine q_iload_n 2 C dX9_toWait_39 rfl ?_
    obtain ⟨e18, h⟩ := ckOE h
    obtain ⟨v21, M20, e19, h⟩ := bd2E h
    refine q_callV (v := some (.int v21)) [.int (43 : Int32), .int l1, .int l2] C hRO lk_RX9_388 vk_X9_wouldGo e18 rfl rfl rfl (Nat.le_of_ble_eq_true rfl) (by decide) (by decide) dX9_toWait_40 (k_X9_wouldGo X.1.2.1 hl X.2.2.1 l0 (43 : Int32) l1 l2 M _ e19) ?_
    refine q_if_eq (tgt := 48) C dX9_toWait_43 (by decide) (fun c22 => ?_) (fun c22 => ?_)
    · have h := ifT c22 h
      refine q_aload_n 0 C dX9_toWait_48 rfl ?_
      refine q_bipush (v := (43 : Int32)) C dX9_toWait_49 (by decide) ?_
      obtain ⟨e23, h⟩ := ckOE h
      obtain ⟨M25, e24, h⟩ := bindE h
      refine q_callV (v := none) [.int (43 : Int32)] C hRO lk_RX9_336 vk_X9_dayGoes e23 rfl rfl rfl (Nat.le_of_ble_eq_true rfl) (by decide) (by decide) dX9_toWait_51 (k_X9_dayGoes X.1.2.1 hl X.2.2.1 l0 (43 : Int32) M20 _ e24) ?_
      refine q_iinc 3 (v := (l3 + (1 : Int32))) (lv' := [(3, .int (l3 + (1 : Int32))), (0, .ref l0), (1, .int l1), (2, .int l2)]) C dX9_toWait_54 rfl rfl (by decide) rfl ?_
      refine q_goto (tgt := 29) C dX9_toWait_57 (by decide) ?_
      exact q_sub (lv' := [(0, .ref l0), (1, .int l1), (2, .int l2), (3, .int (l3 + (1 : Int32)))]) [1, 2, 3, 0] rfl (kc ((l3 + (1 : Int32)), M25) (someI h))
    · have h := ifF c22 h
      refine q_iload_n 3 C dX9_toWait_46 rfl ?_
      exact q_iret C (kf _ (someI h)) dX9_toWait_47
theorem w_X9_toWait_l29 {X : CX} {r : (Mem) ⊕ (Int32 × Mem)} (C : CK X cX9_toWait 4 RX9 12 257) (hRO : RO X.2.2.1 X.1.2.2.2.2.1 X.1.2.2.2.2.1.heap) (hl : X.1.2.1.stackTraces = false) (l0 : Nat) (l1 : Int32) (l2 : Int32) (l3 : Int32) (M : Mem) (h : loop (fun s => F_X9_toWait_s29 l0 l1 l2 s.1 s.2) (l3, M) = some r) (kx : ∀ e' : Mem, r = .inl e' → wq X 4 60 [] [] e') (kf : ∀ f' : Int32 × Mem, r = .inr f' → FIN X (some .int) (rs_mI f') (ms_mI f')) : wq X 4 29 [(0, .ref l0), (1, .int l1), (2, .int l2), (3, .int l3)] [] M :=
  loop_ind (P := fun s => wq X 4 29 [(0, .ref l0), (1, .int l1), (2, .int l2), (3, .int s.1)] [] s.2) h (fun s y hy kc kr => w_X9_toWait_s29 C hRO hl l0 l1 l2 s.1 s.2 hy kc (fun e' he => kx e' (kr _ he).symm) (fun f' he => kf f' (kr _ he).symm))
set_option maxRecDepth 100000 in
set_option maxHeartbeats 4000000 in
theorem w_X9_toWait {X : CX} {y : Int32 × Mem} (C : CK X cX9_toWait 4 RX9 12 257) (hRO : RO X.2.2.1 X.1.2.2.2.2.1 X.1.2.2.2.2.1.heap) (hl : X.1.2.1.stackTraces = false) (l0 : Nat) (l1 : Int32) (l2 : Int32) (M : Mem) (h : F_X9_toWait l0 l1 l2 M = some y) (kf : FIN X (some .int) (rs_mI y) (ms_mI y)) : wq X 4 0 [(0, .ref l0), (1, .int l1), (2, .int l2)] [] M := by
  unfold F_X9_toWait at h
  refine q_aload_n 0 C dX9_toWait_0 rfl ?_
  refine q_iconst (v := (0 : Int32)) C dX9_toWait_1 (by decide) ?_
  obtain ⟨M1, e2, h⟩ := bindE h
  refine q_putI C fp_RX9_111 rfl e2 dX9_toWait_2 ?_
  refine q_aload_n 0 C dX9_toWait_5 rfl ?_
  refine q_iload_n 1 C dX9_toWait_6 rfl ?_
  obtain ⟨e3, h⟩ := ckOE h
  obtain ⟨v6, M5, e4, h⟩ := bd2E h
  refine q_callV (v := some (.int v6)) [.int l1] C hRO lk_RX9_379 vk_X9_isPerson e3 rfl rfl rfl (Nat.le_of_ble_eq_true rfl) (by decide) (by decide) dX9_toWait_7 (k_X9_isPerson X.1.2.1 hl X.2.2.1 l0 l1 M1 _ e4) ?_
  refine q_if_eq (tgt := 21) C dX9_toWait_10 (by decide) (fun c7 => ?_) (fun c7 => ?_)
  · have h := ifT c7 h
    refine q_iconst (v := (0 : Int32)) C dX9_toWait_21 (by decide) ?_
    cases h
    exact q_iret C kf dX9_toWait_22
  · have h := ifF c7 h
    refine q_aload_n 0 C dX9_toWait_13 rfl ?_
    refine q_iload_n 2 C dX9_toWait_14 rfl ?_
    obtain ⟨e8, h⟩ := ckOE h
    obtain ⟨v11, M10, e9, h⟩ := bd2E h
    refine q_callV (v := some (.int v11)) [.int l2] C hRO lk_RX9_367 vk_X9_isHouse e8 rfl rfl rfl (Nat.le_of_ble_eq_true rfl) (by decide) (by decide) dX9_toWait_15 (k_X9_isHouse X.1.2.1 hl X.2.2.1 l0 l2 M5 _ e9) ?_
    refine q_if_ne (tgt := 23) C dX9_toWait_18 (by decide) (fun c12 => ?_) (fun c12 => ?_)
    · have h := ifF c12 h
      refine q_aload_n 0 C dX9_toWait_23 rfl ?_
      obtain ⟨e13, h⟩ := ckOE h
      obtain ⟨M15, e14, h⟩ := bindE h
      refine q_callV (v := none) [] C hRO lk_RX9_391 vk_X9_tries e13 rfl rfl rfl (Nat.le_of_ble_eq_true rfl) (by decide) (by decide) dX9_toWait_24 (k_X9_tries X.1.2.1 hl X.2.2.1 l0 M10 _ e14) ?_
      refine q_iconst (v := (0 : Int32)) C dX9_toWait_27 (by decide) ?_
      refine q_istore_n (i := 3) (lv' := [(3, .int (0 : Int32)), (0, .ref l0), (1, .int l1), (2, .int l2)]) C dX9_toWait_28 rfl (by decide) rfl ?_
      obtain ⟨r27, e28, h⟩ := bindE h
      refine q_sub (lv' := [(0, .ref l0), (1, .int l1), (2, .int l2), (3, .int (0 : Int32))]) [1, 2, 3, 0] rfl (w_X9_toWait_l29 C hRO hl l0 l1 l2 (0 : Int32) M15 e28 (fun M29 he => ?_) (fun f31 he => ?_))
      · subst he
        have h := elimL h
        show wq X 4 60 [] [] M29
        refine q_iconst (v := (-1 : Int32)) C dX9_toWait_60 (by decide) ?_
        cases h
        exact q_iret C kf dX9_toWait_61
      · subst he
        have h := elimR h
        cases h
        exact kf
    · have h := ifT c12 h
      refine q_iconst (v := (0 : Int32)) C dX9_toWait_21 (by decide) ?_
      cases h
      exact q_iret C kf dX9_toWait_22
theorem k_X9_toWait (l : Launch) (hl : l.stackTraces = false) (G : GG) (l0 : Nat) (l1 : Int32) (l2 : Int32) (M : Mem) (x : Int32 × Mem) (h : F_X9_toWait l0 l1 l2 M = some x) : Ct l G yX9_toWait (.code yX9_toWait cX9_toWait 4 (some .int)) 12 257 [.ref l0, .int l1, .int l2] M (rs_mI x) (ms_mI x) := by
  refine Ct_of (by decide +kernel) (Nat.le_of_ble_eq_true rfl) fun X e1 e2 e3 C FN hnm => ?_
  subst e1; subst e2
  show wq X 4 0 [(0, .ref l0), (1, .int l1), (2, .int l2)] [] M
  exact w_X9_toWait C FN.2.2.2 hl l0 l1 l2 M h FN
/-! X9_town -/
set_option maxRecDepth 100000 in
set_option maxHeartbeats 4000000 in
theorem w_X9_town_s84 {X : CX} {y : (Int32 × Mem) ⊕ (Mem)} (C : CK X cX9_town 3 RX9 14 297) (hRO : RO X.2.2.1 X.1.2.2.2.2.1 X.1.2.2.2.2.1.heap) (hl : X.1.2.1.stackTraces = false) (l0 : Nat) (l2 : Int32) (M : Mem) (h : F_X9_town_s84 l0 l2 M = some y) (kc : ∀ s' : Int32 × Mem, y = .inl s' → wq X 3 84 [(0, .ref l0), (2, .int (s'.1))] [] s'.2) (kx : ∀ e' : Mem, y = (.inr e') → wq X 3 103 [(0, .ref l0)] [] e') : wq X 3 84 [(0, .ref l0), (2, .int l2)] [] M := by
  unfold F_X9_town_s84 at h
  refine q_iload_n 1 C dX9_town_84 rfl ?_
  refine q_bipush (v := (43 : Int32)) C dX9_town_85 (by decide) ?_
  refine q_icmp_ge (tgt := 103) C dX9_town_87 (by decide) (fun c29 => ?_) (fun c29 => ?_)
  · have h := ifT c29 h
    exact q_sub (lv' := [(0, .ref l0)]) [0] rfl (kx M (someI h))
  · have h := ifF c29 h
    refine q_aload_n 0 C dX9_town_90 rfl ?_
    obtain ⟨v30, e31, h⟩ := bindE h
    refine q_getP C fl_RX9_53 rfl e31 dX9_town_91 ?_
    refine q_iload_n 1 C dX9_town_94 rfl ?_
    refine q_iconst (v := (0 : Int32)) C dX9_town_95 (by decide) ?_
    obtain ⟨M32, e33, h⟩ := bindE h
    refine q_iastore C e33 dX9_town_96 ?_
    refine q_iinc 1 (v := (l2 + (1 : Int32))) (lv' := [(2, .int (l2 + (1 : Int32))), (0, .ref l0)]) C dX9_town_97 rfl rfl (by decide) rfl ?_
    refine q_goto (tgt := 84) C dX9_town_100 (by decide) ?_
    exact q_sub (lv' := [(0, .ref l0), (2, .int (l2 + (1 : Int32)))]) [1, 0] rfl (kc ((l2 + (1 : Int32)), M32) (someI h))
theorem w_X9_town_l84 {X : CX} {r : Mem} (C : CK X cX9_town 3 RX9 14 297) (hRO : RO X.2.2.1 X.1.2.2.2.2.1 X.1.2.2.2.2.1.heap) (hl : X.1.2.1.stackTraces = false) (l0 : Nat) (l2 : Int32) (M : Mem) (h : loop (fun s => F_X9_town_s84 l0 s.1 s.2) (l2, M) = some r) (kx : ∀ e' : Mem, r = e' → wq X 3 103 [(0, .ref l0)] [] e') : wq X 3 84 [(0, .ref l0), (2, .int l2)] [] M :=
  loop_ind (P := fun s => wq X 3 84 [(0, .ref l0), (2, .int s.1)] [] s.2) h (fun s y hy kc kr => w_X9_town_s84 C hRO hl l0 s.1 s.2 hy kc (fun e' he => kx e' (kr _ he).symm))
set_option maxRecDepth 100000 in
set_option maxHeartbeats 4000000 in
theorem w_X9_town_s112 {X : CX} {y : (Mem) ⊕ (Mem)} (C : CK X cX9_town 3 RX9 14 297) (hRO : RO X.2.2.1 X.1.2.2.2.2.1 X.1.2.2.2.2.1.heap) (hl : X.1.2.1.stackTraces = false) (l0 : Nat)  (M : Mem) (h : F_X9_town_s112 l0  M = some y) (kc : ∀ s' : Mem, y = .inl s' → wq X 3 112 [(0, .ref l0)] [] s') (kx : ∀ e' : Mem, y = (.inr e') → wq X 3 133 [(0, .ref l0)] [] e') : wq X 3 112 [(0, .ref l0)] [] M := by
  unfold F_X9_town_s112 at h
  refine q_aload_n 0 C dX9_town_112 rfl ?_
  obtain ⟨e43, h⟩ := ckOE h
  obtain ⟨v45, e44, h⟩ := bindE h
  refine q_callV (v := some (.int v45)) [] C hRO lk_RX9_170 vk_X9_isGood e43 rfl rfl rfl (Nat.le_of_ble_eq_true rfl) (by decide) (by decide) dX9_town_113 (k_X9_isGood X.1.2.1 hl X.2.2.1 l0 M _ e44) ?_
  refine q_if_eq (tgt := 133) C dX9_town_116 (by decide) (fun c46 => ?_) (fun c46 => ?_)
  · have h := ifT c46 h
    exact q_sub (lv' := [(0, .ref l0)]) [0] rfl (kx M (someI h))
  · have h := ifF c46 h
    refine q_aload_n 0 C dX9_town_119 rfl ?_
    obtain ⟨v47, e48, h⟩ := bindE h
    refine q_getI C fl_RX9_144 rfl e48 dX9_town_120 ?_
    refine q_if_eq (tgt := 133) C dX9_town_123 (by decide) (fun c49 => ?_) (fun c49 => ?_)
    · have h := ifT c49 h
      exact q_sub (lv' := [(0, .ref l0)]) [0] rfl (kx M (someI h))
    · have h := ifF c49 h
      refine q_aload_n 0 C dX9_town_126 rfl ?_
      obtain ⟨e50, h⟩ := ckOE h
      obtain ⟨M52, e51, h⟩ := bindE h
      refine q_callV (v := none) [] C hRO lk_RX9_272 vk_X9_line e50 rfl rfl rfl (Nat.le_of_ble_eq_true rfl) (by decide) (by decide) dX9_town_127 (k_X9_line X.1.2.1 hl X.2.2.1 l0 M _ e51) ?_
      refine q_goto (tgt := 112) C dX9_town_130 (by decide) ?_
      exact q_sub (lv' := [(0, .ref l0)]) [0] rfl (kc M52 (someI h))
theorem w_X9_town_l112 {X : CX} {r : Mem} (C : CK X cX9_town 3 RX9 14 297) (hRO : RO X.2.2.1 X.1.2.2.2.2.1 X.1.2.2.2.2.1.heap) (hl : X.1.2.1.stackTraces = false) (l0 : Nat)  (M : Mem) (h : loop (fun s => F_X9_town_s112 l0 s) M = some r) (kx : ∀ e' : Mem, r = e' → wq X 3 133 [(0, .ref l0)] [] e') : wq X 3 112 [(0, .ref l0)] [] M :=
  loop_ind (P := fun s => wq X 3 112 [(0, .ref l0)] [] s) h (fun s y hy kc kr => w_X9_town_s112 C hRO hl l0 s hy kc (fun e' he => kx e' (kr _ he).symm))
set_option maxRecDepth 100000 in
set_option maxHeartbeats 4000000 in
theorem w_X9_town_s257 {X : CX} {y : (Int32 × Mem) ⊕ (Mem)} (C : CK X cX9_town 3 RX9 14 297) (hRO : RO X.2.2.1 X.1.2.2.2.2.1 X.1.2.2.2.2.1.heap) (hl : X.1.2.1.stackTraces = false) (l0 : Nat) (l2 : Int32) (M : Mem) (h : F_X9_town_s257 l0 l2 M = some y) (kc : ∀ s' : Int32 × Mem, y = .inl s' → wq X 3 257 [(0, .ref l0), (2, .int (s'.1))] [] s'.2) (kx : ∀ e' : Mem, y = (.inr e') → wq X 3 281 [(0, .ref l0)] [] e') : wq X 3 257 [(0, .ref l0), (2, .int l2)] [] M := by
  unfold F_X9_town_s257 at h
  refine q_iload_n 1 C dX9_town_257 rfl ?_
  refine q_bipush (v := (43 : Int32)) C dX9_town_258 (by decide) ?_
  refine q_icmp_ge (tgt := 281) C dX9_town_260 (by decide) (fun c121 => ?_) (fun c121 => ?_)
  · have h := ifT c121 h
    exact q_sub (lv' := [(0, .ref l0)]) [0] rfl (kx M (someI h))
  · have h := ifF c121 h
    refine q_aload_n 0 C dX9_town_263 rfl ?_
    obtain ⟨v122, e123, h⟩ := bindE h
    refine q_getP C fl_RX9_66 rfl e123 dX9_town_264 ?_
    refine q_iload_n 1 C dX9_town_267 rfl ?_
    refine q_aload_n 0 C dX9_town_268 rfl ?_
    obtain ⟨v124, e125, h⟩ := bindE h
    refine q_getP C fl_RX9_53 rfl e125 dX9_town_269 ?_
    refine q_iload_n 1 C dX9_town_272 rfl ?_
    obtain ⟨v126, e127, h⟩ := bindE h
    refine q_iaload C e127 dX9_town_273 ?_
    obtain ⟨M128, e129, h⟩ := bindE h
    refine q_iastore C e129 dX9_town_274 ?_
    refine q_iinc 1 (v := (l2 + (1 : Int32))) (lv' := [(2, .int (l2 + (1 : Int32))), (0, .ref l0)]) C dX9_town_275 rfl rfl (by decide) rfl ?_
    refine q_goto (tgt := 257) C dX9_town_278 (by decide) ?_
    exact q_sub (lv' := [(0, .ref l0), (2, .int (l2 + (1 : Int32)))]) [1, 0] rfl (kc ((l2 + (1 : Int32)), M128) (someI h))
theorem w_X9_town_l257 {X : CX} {r : Mem} (C : CK X cX9_town 3 RX9 14 297) (hRO : RO X.2.2.1 X.1.2.2.2.2.1 X.1.2.2.2.2.1.heap) (hl : X.1.2.1.stackTraces = false) (l0 : Nat) (l2 : Int32) (M : Mem) (h : loop (fun s => F_X9_town_s257 l0 s.1 s.2) (l2, M) = some r) (kx : ∀ e' : Mem, r = e' → wq X 3 281 [(0, .ref l0)] [] e') : wq X 3 257 [(0, .ref l0), (2, .int l2)] [] M :=
  loop_ind (P := fun s => wq X 3 257 [(0, .ref l0), (2, .int s.1)] [] s.2) h (fun s y hy kc kr => w_X9_town_s257 C hRO hl l0 s.1 s.2 hy kc (fun e' he => kx e' (kr _ he).symm))
set_option maxRecDepth 100000 in
set_option maxHeartbeats 4000000 in
theorem w_X9_town_j133 {X : CX} {y : Int32 × Mem} (C : CK X cX9_town 3 RX9 14 297) (hRO : RO X.2.2.1 X.1.2.2.2.2.1 X.1.2.2.2.2.1.heap) (hl : X.1.2.1.stackTraces = false) (l0 : Nat) (M : Mem) (h : F_X9_town_j133 l0 M = some y) (kf : FIN X (some .int) (rs_mI y) (ms_mI y)) : wq X 3 133 [(0, .ref l0)] [] M := by
  unfold F_X9_town_j133 at h
  refine q_aload_n 0 C dX9_town_133 rfl ?_
  obtain ⟨e57, h⟩ := ckOE h
  obtain ⟨v59, e58, h⟩ := bindE h
  refine q_callV (v := some (.int v59)) [] C hRO lk_RX9_170 vk_X9_isGood e57 rfl rfl rfl (Nat.le_of_ble_eq_true rfl) (by decide) (by decide) dX9_town_134 (k_X9_isGood X.1.2.1 hl X.2.2.1 l0 M _ e58) ?_
  refine q_if_ne (tgt := 155) C dX9_town_137 (by decide) (fun c60 => ?_) (fun c60 => ?_)
  · have h := ifF c60 h
    refine q_aload_n 0 C dX9_town_155 rfl ?_
    refine q_aload_n 0 C dX9_town_156 rfl ?_
    obtain ⟨v61, e62, h⟩ := bindE h
    refine q_getI C fl_RX9_230 rfl e62 dX9_town_157 ?_
    obtain ⟨M63, e64, h⟩ := bindE h
    refine q_putI C fp_RX9_275 rfl e64 dX9_town_160 ?_
    refine q_aload_n 0 C dX9_town_163 rfl ?_
    refine q_aload_n 0 C dX9_town_164 rfl ?_
    obtain ⟨v65, e66, h⟩ := bindE h
    refine q_getI C fl_RX9_237 rfl e66 dX9_town_165 ?_
    obtain ⟨M67, e68, h⟩ := bindE h
    refine q_putI C fp_RX9_278 rfl e68 dX9_town_168 ?_
    refine q_aload_n 0 C dX9_town_171 rfl ?_
    refine q_aload_n 0 C dX9_town_172 rfl ?_
    obtain ⟨v69, e70, h⟩ := bindE h
    refine q_getI C fl_RX9_240 rfl e70 dX9_town_173 ?_
    obtain ⟨M71, e72, h⟩ := bindE h
    refine q_putI C fp_RX9_281 rfl e72 dX9_town_176 ?_
    refine q_aload_n 0 C dX9_town_179 rfl ?_
    refine q_aload_n 0 C dX9_town_180 rfl ?_
    obtain ⟨v73, e74, h⟩ := bindE h
    refine q_getI C fl_RX9_256 rfl e74 dX9_town_181 ?_
    obtain ⟨M75, e76, h⟩ := bindE h
    refine q_putI C fp_RX9_9 rfl e76 dX9_town_184 ?_
    refine q_aload_n 0 C dX9_town_187 rfl ?_
    refine q_aload_n 0 C dX9_town_188 rfl ?_
    obtain ⟨v77, e78, h⟩ := bindE h
    refine q_getI C fl_RX9_262 rfl e78 dX9_town_189 ?_
    obtain ⟨M79, e80, h⟩ := bindE h
    refine q_putI C fp_RX9_13 rfl e80 dX9_town_192 ?_
    refine q_aload_n 0 C dX9_town_195 rfl ?_
    refine q_aload_n 0 C dX9_town_196 rfl ?_
    obtain ⟨v81, e82, h⟩ := bindE h
    refine q_getP C fl_RX9_41 rfl e82 dX9_town_197 ?_
    refine q_aload_n 0 C dX9_town_200 rfl ?_
    obtain ⟨v83, e84, h⟩ := bindE h
    refine q_getP C fl_RX9_16 rfl e84 dX9_town_201 ?_
    obtain ⟨e85, h⟩ := ckOE h
    obtain ⟨M87, e86, h⟩ := bindE h
    refine q_callV (v := none) [.ref v81, .ref v83] C hRO lk_RX9_284 vk_X9_copies e85 rfl rfl rfl (Nat.le_of_ble_eq_true rfl) (by decide) (by decide) dX9_town_204 (k_X9_copies X.1.2.1 hl X.2.2.1 l0 v81 v83 M79 _ e86) ?_
    refine q_aload_n 0 C dX9_town_207 rfl ?_
    refine q_aload_n 0 C dX9_town_208 rfl ?_
    obtain ⟨v89, e90, h⟩ := bindE h
    refine q_getP C fl_RX9_44 rfl e90 dX9_town_209 ?_
    refine q_aload_n 0 C dX9_town_212 rfl ?_
    obtain ⟨v91, e92, h⟩ := bindE h
    refine q_getP C fl_RX9_20 rfl e92 dX9_town_213 ?_
    obtain ⟨e93, h⟩ := ckOE h
    obtain ⟨M95, e94, h⟩ := bindE h
    refine q_callV (v := none) [.ref v89, .ref v91] C hRO lk_RX9_284 vk_X9_copies e93 rfl rfl rfl (Nat.le_of_ble_eq_true rfl) (by decide) (by decide) dX9_town_216 (k_X9_copies X.1.2.1 hl X.2.2.1 l0 v89 v91 M87 _ e94) ?_
    refine q_aload_n 0 C dX9_town_219 rfl ?_
    refine q_aload_n 0 C dX9_town_220 rfl ?_
    obtain ⟨v97, e98, h⟩ := bindE h
    refine q_getP C fl_RX9_47 rfl e98 dX9_town_221 ?_
    refine q_aload_n 0 C dX9_town_224 rfl ?_
    obtain ⟨v99, e100, h⟩ := bindE h
    refine q_getP C fl_RX9_23 rfl e100 dX9_town_225 ?_
    obtain ⟨e101, h⟩ := ckOE h
    obtain ⟨M103, e102, h⟩ := bindE h
    refine q_callV (v := none) [.ref v97, .ref v99] C hRO lk_RX9_284 vk_X9_copies e101 rfl rfl rfl (Nat.le_of_ble_eq_true rfl) (by decide) (by decide) dX9_town_228 (k_X9_copies X.1.2.1 hl X.2.2.1 l0 v97 v99 M95 _ e102) ?_
    refine q_aload_n 0 C dX9_town_231 rfl ?_
    refine q_aload_n 0 C dX9_town_232 rfl ?_
    obtain ⟨v105, e106, h⟩ := bindE h
    refine q_getP C fl_RX9_50 rfl e106 dX9_town_233 ?_
    refine q_aload_n 0 C dX9_town_236 rfl ?_
    obtain ⟨v107, e108, h⟩ := bindE h
    refine q_getP C fl_RX9_26 rfl e108 dX9_town_237 ?_
    obtain ⟨e109, h⟩ := ckOE h
    obtain ⟨M111, e110, h⟩ := bindE h
    refine q_callV (v := none) [.ref v105, .ref v107] C hRO lk_RX9_284 vk_X9_copies e109 rfl rfl rfl (Nat.le_of_ble_eq_true rfl) (by decide) (by decide) dX9_town_240 (k_X9_copies X.1.2.1 hl X.2.2.1 l0 v105 v107 M103 _ e110) ?_
    refine q_aload_n 0 C dX9_town_243 rfl ?_
    refine q_aload_n 0 C dX9_town_244 rfl ?_
    obtain ⟨v113, e114, h⟩ := bindE h
    refine q_getP C fl_RX9_56 rfl e114 dX9_town_245 ?_
    refine q_aload_n 0 C dX9_town_248 rfl ?_
    obtain ⟨v115, e116, h⟩ := bindE h
    refine q_getP C fl_RX9_29 rfl e116 dX9_town_249 ?_
    obtain ⟨e117, h⟩ := ckOE h
    obtain ⟨M119, e118, h⟩ := bindE h
    refine q_callV (v := none) [.ref v113, .ref v115] C hRO lk_RX9_284 vk_X9_copies e117 rfl rfl rfl (Nat.le_of_ble_eq_true rfl) (by decide) (by decide) dX9_town_252 (k_X9_copies X.1.2.1 hl X.2.2.1 l0 v113 v115 M111 _ e118) ?_
    refine q_iconst (v := (0 : Int32)) C dX9_town_255 (by decide) ?_
    refine q_istore_n (i := 2) (lv' := [(2, .int (0 : Int32)), (0, .ref l0)]) C dX9_town_256 rfl (by decide) rfl ?_
    obtain ⟨M132, e131, h⟩ := bindE h
    refine q_sub (lv' := [(0, .ref l0), (2, .int (0 : Int32))]) [1, 0] rfl (w_X9_town_l257 C hRO hl l0 (0 : Int32) M119 e131 (fun r130 he => ?_))
    subst he
    show wq X 3 281 [(0, .ref l0)] [] M132
    refine q_aload_n 0 C dX9_town_281 rfl ?_
    refine q_iconst (v := (0 : Int32)) C dX9_town_282 (by decide) ?_
    obtain ⟨M133, e134, h⟩ := bindE h
    refine q_putI C fp_RX9_288 rfl e134 dX9_town_283 ?_
    refine q_aload_n 0 C dX9_town_286 rfl ?_
    refine q_iconst (v := (0 : Int32)) C dX9_town_287 (by decide) ?_
    obtain ⟨M135, e136, h⟩ := bindE h
    refine q_putI C fp_RX9_291 rfl e136 dX9_town_288 ?_
    refine q_aload_n 0 C dX9_town_291 rfl ?_
    refine q_iconst (v := (0 : Int32)) C dX9_town_292 (by decide) ?_
    obtain ⟨M137, e138, h⟩ := bindE h
    refine q_putZ C fp_RX9_294 rfl e138 dX9_town_293 ?_
    refine q_iconst (v := (0 : Int32)) C dX9_town_296 (by decide) ?_
    cases h
    exact q_iret C kf dX9_town_297
  · have h := ifT c60 h
    refine q_aload_n 0 C dX9_town_140 rfl ?_
    obtain ⟨v140, e141, h⟩ := bindE h
    refine q_getP C fl_RX9_38 rfl e141 dX9_town_141 ?_
    refine q_iconst (v := (0 : Int32)) C dX9_town_144 (by decide) ?_
    refine q_dup2 C dX9_town_145 rfl rfl ?_
    obtain ⟨v142, e143, h⟩ := bindE h
    refine q_iaload C e143 dX9_town_146 ?_
    refine q_iconst (v := (1 : Int32)) C dX9_town_147 (by decide) ?_
    refine q_iadd C dX9_town_148 ?_
    obtain ⟨M144, e145, h⟩ := bindE h
    refine q_iastore C e145 dX9_town_149 ?_
    refine q_aload_n 0 C dX9_town_150 rfl ?_
    obtain ⟨v146, e147, h⟩ := bindE h
    refine q_getI C fl_RX9_167 rfl e147 dX9_town_151 ?_
    cases h
    exact q_iret C kf dX9_town_154
set_option maxRecDepth 100000 in
set_option maxHeartbeats 4000000 in
theorem w_X9_town_j23 {X : CX} {y : Int32 × Mem} (C : CK X cX9_town 3 RX9 14 297) (hRO : RO X.2.2.1 X.1.2.2.2.2.1 X.1.2.2.2.2.1.heap) (hl : X.1.2.1.stackTraces = false) (l0 : Nat) (l1 : Int32) (t0 : Int32) (t1 : Nat) (M : Mem) (h : F_X9_town_j23 l0 l1 t0 t1 M = some y) (kf : FIN X (some .int) (rs_mI y) (ms_mI y)) : wq X 3 23 [(0, .ref l0), (1, .int l1)] [.int t0, .ref t1] M := by
  unfold F_X9_town_j23 at h
  refine q_iconst (v := (1 : Int32)) C dX9_town_23 (by decide) ?_
  obtain ⟨e4, h⟩ := ckOE h
  obtain ⟨v7, M6, e5, h⟩ := bd2E h
  refine q_callV (v := some (.int v7)) [.int t0, .int (1 : Int32)] C hRO lk_RX9_268 vk_X9_right e4 rfl rfl rfl (Nat.le_of_ble_eq_true rfl) (by decide) (by decide) dX9_town_24 (k_X9_right X.1.2.1 hl X.2.2.1 t1 t0 (1 : Int32) M _ e5) ?_
  refine q_if_ne (tgt := 32) C dX9_town_27 (by decide) (fun c8 => ?_) (fun c8 => ?_)
  · have h := ifF c8 h
    refine q_aload_n 0 C dX9_town_32 rfl ?_
    refine q_iconst (v := (0 : Int32)) C dX9_town_33 (by decide) ?_
    obtain ⟨M9, e10, h⟩ := bindE h
    refine q_putI C fp_RX9_114 rfl e10 dX9_town_34 ?_
    refine q_aload_n 0 C dX9_town_37 rfl ?_
    refine q_iconst (v := (-1 : Int32)) C dX9_town_38 (by decide) ?_
    obtain ⟨M11, e12, h⟩ := bindE h
    refine q_putI C fp_RX9_35 rfl e12 dX9_town_39 ?_
    refine q_aload_n 0 C dX9_town_42 rfl ?_
    refine q_iconst (v := (0 : Int32)) C dX9_town_43 (by decide) ?_
    obtain ⟨M13, e14, h⟩ := bindE h
    refine q_putI C fp_RX9_167 rfl e14 dX9_town_44 ?_
    refine q_aload_n 0 C dX9_town_47 rfl ?_
    refine q_iload_n 1 C dX9_town_48 rfl ?_
    obtain ⟨M15, e16, h⟩ := bindE h
    refine q_putI C fp_RX9_121 rfl e16 dX9_town_49 ?_
    refine q_aload_n 0 C dX9_town_52 rfl ?_
    refine q_iconst (v := (0 : Int32)) C dX9_town_53 (by decide) ?_
    obtain ⟨M17, e18, h⟩ := bindE h
    refine q_putI C fp_RX9_124 rfl e18 dX9_town_54 ?_
    refine q_aload_n 0 C dX9_town_57 rfl ?_
    refine q_iconst (v := (0 : Int32)) C dX9_town_58 (by decide) ?_
    obtain ⟨M19, e20, h⟩ := bindE h
    refine q_putI C fp_RX9_230 rfl e20 dX9_town_59 ?_
    refine q_aload_n 0 C dX9_town_62 rfl ?_
    refine q_iconst (v := (0 : Int32)) C dX9_town_63 (by decide) ?_
    obtain ⟨M21, e22, h⟩ := bindE h
    refine q_putI C fp_RX9_237 rfl e22 dX9_town_64 ?_
    refine q_aload_n 0 C dX9_town_67 rfl ?_
    refine q_iconst (v := (0 : Int32)) C dX9_town_68 (by decide) ?_
    obtain ⟨M23, e24, h⟩ := bindE h
    refine q_putI C fp_RX9_240 rfl e24 dX9_town_69 ?_
    refine q_aload_n 0 C dX9_town_72 rfl ?_
    refine q_iconst (v := (-1 : Int32)) C dX9_town_73 (by decide) ?_
    obtain ⟨M25, e26, h⟩ := bindE h
    refine q_putI C fp_RX9_256 rfl e26 dX9_town_74 ?_
    refine q_aload_n 0 C dX9_town_77 rfl ?_
    refine q_iconst (v := (-1 : Int32)) C dX9_town_78 (by decide) ?_
    obtain ⟨M27, e28, h⟩ := bindE h
    refine q_putI C fp_RX9_262 rfl e28 dX9_town_79 ?_
    refine q_iconst (v := (0 : Int32)) C dX9_town_82 (by decide) ?_
    refine q_istore_n (i := 2) (lv' := [(2, .int (0 : Int32)), (0, .ref l0), (1, .int l1)]) C dX9_town_83 rfl (by decide) rfl ?_
    obtain ⟨M36, e35, h⟩ := bindE h
    refine q_sub (lv' := [(0, .ref l0), (2, .int (0 : Int32))]) [1, 0] rfl (w_X9_town_l84 C hRO hl l0 (0 : Int32) M27 e35 (fun r34 he => ?_))
    subst he
    show wq X 3 103 [(0, .ref l0)] [] M36
    refine q_aload_n 0 C dX9_town_103 rfl ?_
    refine q_iconst (v := (0 : Int32)) C dX9_town_104 (by decide) ?_
    obtain ⟨M37, e38, h⟩ := bindE h
    refine q_putI C fp_RX9_180 rfl e38 dX9_town_105 ?_
    refine q_aload_n 0 C dX9_town_108 rfl ?_
    obtain ⟨e39, h⟩ := ckOE h
    obtain ⟨M41, e40, h⟩ := bindE h
    refine q_callV (v := none) [] C hRO lk_RX9_174 vk_X9_takes e39 rfl rfl rfl (Nat.le_of_ble_eq_true rfl) (by decide) (by decide) dX9_town_109 (k_X9_takes X.1.2.1 hl X.2.2.1 l0 M37 _ e40) ?_
    obtain ⟨M56, e55, h⟩ := bindE h
    refine q_sub (lv' := [(0, .ref l0)]) [0] rfl (w_X9_town_l112 C hRO hl l0 M41 e55 (fun r54 he => ?_))
    subst he
    show wq X 3 133 [(0, .ref l0)] [] M56
    exact q_sub (lv' := [(0, .ref l0)]) [0] rfl (w_X9_town_j133 C hRO hl l0 M56 h kf)
  · have h := ifT c8 h
    refine q_iconst (v := (0 : Int32)) C dX9_town_30 (by decide) ?_
    cases h
    exact q_iret C kf dX9_town_31
set_option maxRecDepth 100000 in
set_option maxHeartbeats 4000000 in
theorem w_X9_town_j22 {X : CX} {y : Int32 × Mem} (C : CK X cX9_town 3 RX9 14 297) (hRO : RO X.2.2.1 X.1.2.2.2.2.1 X.1.2.2.2.2.1.heap) (hl : X.1.2.1.stackTraces = false) (l0 : Nat) (l1 : Int32) (t0 : Nat) (M : Mem) (h : F_X9_town_j22 l0 l1 t0 M = some y) (kf : FIN X (some .int) (rs_mI y) (ms_mI y)) : wq X 3 22 [(0, .ref l0), (1, .int l1)] [.ref t0] M := by
  unfold F_X9_town_j22 at h
  refine q_iconst (v := (0 : Int32)) C dX9_town_22 (by decide) ?_
  exact q_sub (lv' := [(0, .ref l0), (1, .int l1)]) [0, 1] rfl (w_X9_town_j23 C hRO hl l0 l1 (0 : Int32) t0 M h kf)
set_option maxRecDepth 100000 in
set_option maxHeartbeats 4000000 in
theorem w_X9_town {X : CX} {y : Int32 × Mem} (C : CK X cX9_town 3 RX9 14 297) (hRO : RO X.2.2.1 X.1.2.2.2.2.1 X.1.2.2.2.2.1.heap) (hl : X.1.2.1.stackTraces = false) (l0 : Nat) (l1 : Int32) (M : Mem) (h : F_X9_town l0 l1 M = some y) (kf : FIN X (some .int) (rs_mI y) (ms_mI y)) : wq X 3 0 [(0, .ref l0), (1, .int l1)] [] M := by
  unfold F_X9_town at h
  refine q_aload_n 0 C dX9_town_0 rfl ?_
  refine q_iconst (v := (0 : Int32)) C dX9_town_1 (by decide) ?_
  obtain ⟨M1, e2, h⟩ := bindE h
  refine q_putI C fp_RX9_111 rfl e2 dX9_town_2 ?_
  refine q_aload_n 0 C dX9_town_5 rfl ?_
  refine q_iload_n 1 C dX9_town_6 rfl ?_
  refine q_if_lt (tgt := 22) C dX9_town_7 (by decide) (fun c3 => ?_) (fun c3 => ?_)
  · have h := ifT c3 h
    exact q_sub (lv' := [(0, .ref l0), (1, .int l1)]) [0, 1] rfl (w_X9_town_j22 C hRO hl l0 l1 l0 M1 h kf)
  · have h := ifF c3 h
    refine q_iload_n 1 C dX9_town_10 rfl ?_
    refine q_aload_n 0 C dX9_town_11 rfl ?_
    obtain ⟨v150, e151, h⟩ := bindE h
    refine q_getI C fl_RX9_114 rfl e151 dX9_town_12 ?_
    refine q_icmp_gt (tgt := 22) C dX9_town_15 (by decide) (fun c152 => ?_) (fun c152 => ?_)
    · have h := ifT c152 h
      exact q_sub (lv' := [(0, .ref l0), (1, .int l1)]) [0, 1] rfl (w_X9_town_j22 C hRO hl l0 l1 l0 M1 h kf)
    · have h := ifF c152 h
      refine q_iconst (v := (1 : Int32)) C dX9_town_18 (by decide) ?_
      refine q_goto (tgt := 23) C dX9_town_19 (by decide) ?_
      exact q_sub (lv' := [(0, .ref l0), (1, .int l1)]) [0, 1] rfl (w_X9_town_j23 C hRO hl l0 l1 (1 : Int32) l0 M1 h kf)
theorem k_X9_town (l : Launch) (hl : l.stackTraces = false) (G : GG) (l0 : Nat) (l1 : Int32) (M : Mem) (x : Int32 × Mem) (h : F_X9_town l0 l1 M = some x) : Ct l G yX9_town (.code yX9_town cX9_town 3 (some .int)) 14 297 [.ref l0, .int l1] M (rs_mI x) (ms_mI x) := by
  refine Ct_of (by decide +kernel) (Nat.le_of_ble_eq_true rfl) fun X e1 e2 e3 C FN hnm => ?_
  subst e1; subst e2
  show wq X 3 0 [(0, .ref l0), (1, .int l1)] [] M
  exact w_X9_town C FN.2.2.2 hl l0 l1 M h FN
/-! X9_trade -/
set_option maxRecDepth 100000 in
set_option maxHeartbeats 4000000 in
theorem w_X9_trade {X : CX} {y : Int32 × Mem} (C : CK X cX9_trade 2 RX9 10 209) (hRO : RO X.2.2.1 X.1.2.2.2.2.1 X.1.2.2.2.2.1.heap) (hl : X.1.2.1.stackTraces = false) (l0 : Nat) (l1 : Int32) (M : Mem) (h : F_X9_trade l0 l1 M = some y) (kf : FIN X (some .int) (rs_mI y) (ms_mI y)) : wq X 2 0 [(0, .ref l0), (1, .int l1)] [] M := by
  unfold F_X9_trade at h
  refine q_aload_n 0 C dX9_trade_0 rfl ?_
  refine q_iconst (v := (0 : Int32)) C dX9_trade_1 (by decide) ?_
  obtain ⟨M1, e2, h⟩ := bindE h
  refine q_putI C fp_RX9_111 rfl e2 dX9_trade_2 ?_
  refine q_aload_n 0 C dX9_trade_5 rfl ?_
  refine q_iload_n 1 C dX9_trade_6 rfl ?_
  obtain ⟨e3, h⟩ := ckOE h
  obtain ⟨v6, M5, e4, h⟩ := bd2E h
  refine q_callV (v := some (.int v6)) [.int l1] C hRO lk_RX9_379 vk_X9_isPerson e3 rfl rfl rfl (Nat.le_of_ble_eq_true rfl) (by decide) (by decide) dX9_trade_7 (k_X9_isPerson X.1.2.1 hl X.2.2.1 l0 l1 M1 _ e4) ?_
  refine q_if_ne (tgt := 15) C dX9_trade_10 (by decide) (fun c7 => ?_) (fun c7 => ?_)
  · have h := ifF c7 h
    refine q_aload_n 0 C dX9_trade_15 rfl ?_
    obtain ⟨e8, h⟩ := ckOE h
    obtain ⟨M10, e9, h⟩ := bindE h
    refine q_callV (v := none) [] C hRO lk_RX9_421 vk_X9_trades e8 rfl rfl rfl (Nat.le_of_ble_eq_true rfl) (by decide) (by decide) dX9_trade_16 (k_X9_trades X.1.2.1 hl X.2.2.1 l0 M5 _ e9) ?_
    refine q_aload_n 0 C dX9_trade_19 rfl ?_
    obtain ⟨v12, e13, h⟩ := bindE h
    refine q_getP C fl_RX9_87 rfl e13 dX9_trade_20 ?_
    refine q_iload_n 1 C dX9_trade_23 rfl ?_
    obtain ⟨v14, e15, h⟩ := bindE h
    refine q_iaload C e15 dX9_trade_24 ?_
    cases h
    exact q_iret C kf dX9_trade_25
  · have h := ifT c7 h
    refine q_iconst (v := (0 : Int32)) C dX9_trade_13 (by decide) ?_
    cases h
    exact q_iret C kf dX9_trade_14
theorem k_X9_trade (l : Launch) (hl : l.stackTraces = false) (G : GG) (l0 : Nat) (l1 : Int32) (M : Mem) (x : Int32 × Mem) (h : F_X9_trade l0 l1 M = some x) : Ct l G yX9_trade (.code yX9_trade cX9_trade 2 (some .int)) 10 209 [.ref l0, .int l1] M (rs_mI x) (ms_mI x) := by
  refine Ct_of (by decide +kernel) (Nat.le_of_ble_eq_true rfl) fun X e1 e2 e3 C FN hnm => ?_
  subst e1; subst e2
  show wq X 2 0 [(0, .ref l0), (1, .int l1)] [] M
  exact w_X9_trade C FN.2.2.2 hl l0 l1 M h FN
/-! X9_undo -/
set_option maxRecDepth 100000 in
set_option maxHeartbeats 4000000 in
theorem w_X9_undo_s26 {X : CX} {y : (Int32 × Mem) ⊕ (Mem)} (C : CK X cX9_undo 2 RX9 7 140) (hRO : RO X.2.2.1 X.1.2.2.2.2.1 X.1.2.2.2.2.1.heap) (hl : X.1.2.1.stackTraces = false) (l0 : Nat) (l1 : Int32) (M : Mem) (h : F_X9_undo_s26 l0 l1 M = some y) (kc : ∀ s' : Int32 × Mem, y = .inl s' → wq X 2 26 [(0, .ref l0), (1, .int (s'.1))] [] s'.2) (kx : ∀ e' : Mem, y = (.inr e') → wq X 2 58 [(0, .ref l0)] [] e') : wq X 2 26 [(0, .ref l0), (1, .int l1)] [] M := by
  unfold F_X9_undo_s26 at h
  refine q_iload_n 1 C dX9_undo_26 rfl ?_
  refine q_bipush (v := (43 : Int32)) C dX9_undo_27 (by decide) ?_
  refine q_icmp_ge (tgt := 58) C dX9_undo_29 (by decide) (fun c10 => ?_) (fun c10 => ?_)
  · have h := ifT c10 h
    exact q_sub (lv' := [(0, .ref l0)]) [0] rfl (kx M (someI h))
  · have h := ifF c10 h
    refine q_aload_n 0 C dX9_undo_32 rfl ?_
    obtain ⟨v11, e12, h⟩ := bindE h
    refine q_getP C fl_RX9_66 rfl e12 dX9_undo_33 ?_
    refine q_iload_n 1 C dX9_undo_36 rfl ?_
    refine q_aload_n 0 C dX9_undo_37 rfl ?_
    obtain ⟨v13, e14, h⟩ := bindE h
    refine q_getP C fl_RX9_69 rfl e14 dX9_undo_38 ?_
    refine q_bipush (v := (43 : Int32)) C dX9_undo_41 (by decide) ?_
    refine q_aload_n 0 C dX9_undo_43 rfl ?_
    obtain ⟨v15, e16, h⟩ := bindE h
    refine q_getI C fl_RX9_288 rfl e16 dX9_undo_44 ?_
    refine q_imul C dX9_undo_47 ?_
    refine q_iload_n 1 C dX9_undo_48 rfl ?_
    refine q_iadd C dX9_undo_49 ?_
    obtain ⟨v17, e18, h⟩ := bindE h
    refine q_iaload C e18 dX9_undo_50 ?_
    obtain ⟨M19, e20, h⟩ := bindE h
    refine q_iastore C e20 dX9_undo_51 ?_
    refine q_iinc 1 (v := (l1 + (1 : Int32))) (lv' := [(1, .int (l1 + (1 : Int32))), (0, .ref l0)]) C dX9_undo_52 rfl rfl (by decide) rfl ?_
    refine q_goto (tgt := 26) C dX9_undo_55 (by decide) ?_
    exact q_sub (lv' := [(0, .ref l0), (1, .int (l1 + (1 : Int32)))]) [1, 0] rfl (kc ((l1 + (1 : Int32)), M19) (someI h))
theorem w_X9_undo_l26 {X : CX} {r : Mem} (C : CK X cX9_undo 2 RX9 7 140) (hRO : RO X.2.2.1 X.1.2.2.2.2.1 X.1.2.2.2.2.1.heap) (hl : X.1.2.1.stackTraces = false) (l0 : Nat) (l1 : Int32) (M : Mem) (h : loop (fun s => F_X9_undo_s26 l0 s.1 s.2) (l1, M) = some r) (kx : ∀ e' : Mem, r = e' → wq X 2 58 [(0, .ref l0)] [] e') : wq X 2 26 [(0, .ref l0), (1, .int l1)] [] M :=
  loop_ind (P := fun s => wq X 2 26 [(0, .ref l0), (1, .int s.1)] [] s.2) h (fun s y hy kc kr => w_X9_undo_s26 C hRO hl l0 s.1 s.2 hy kc (fun e' he => kx e' (kr _ he).symm))
set_option maxRecDepth 100000 in
set_option maxHeartbeats 4000000 in
theorem w_X9_undo {X : CX} {y : Int32 × Mem} (C : CK X cX9_undo 2 RX9 7 140) (hRO : RO X.2.2.1 X.1.2.2.2.2.1 X.1.2.2.2.2.1.heap) (hl : X.1.2.1.stackTraces = false) (l0 : Nat) (M : Mem) (h : F_X9_undo l0 M = some y) (kf : FIN X (some .int) (rs_mI y) (ms_mI y)) : wq X 2 0 [(0, .ref l0)] [] M := by
  unfold F_X9_undo at h
  refine q_aload_n 0 C dX9_undo_0 rfl ?_
  refine q_iconst (v := (0 : Int32)) C dX9_undo_1 (by decide) ?_
  obtain ⟨M1, e2, h⟩ := bindE h
  refine q_putI C fp_RX9_111 rfl e2 dX9_undo_2 ?_
  refine q_aload_n 0 C dX9_undo_5 rfl ?_
  obtain ⟨v3, e4, h⟩ := bindE h
  refine q_getI C fl_RX9_288 rfl e4 dX9_undo_6 ?_
  refine q_if_ne (tgt := 14) C dX9_undo_9 (by decide) (fun c5 => ?_) (fun c5 => ?_)
  · have h := ifF c5 h
    refine q_aload_n 0 C dX9_undo_14 rfl ?_
    refine q_dup C dX9_undo_15 rfl ?_
    obtain ⟨v6, e7, h⟩ := bindE h
    refine q_getI C fl_RX9_288 rfl e7 dX9_undo_16 ?_
    refine q_iconst (v := (1 : Int32)) C dX9_undo_19 (by decide) ?_
    refine q_isub C dX9_undo_20 ?_
    obtain ⟨M8, e9, h⟩ := bindE h
    refine q_putI C fp_RX9_288 rfl e9 dX9_undo_21 ?_
    refine q_iconst (v := (0 : Int32)) C dX9_undo_24 (by decide) ?_
    refine q_istore_n (i := 1) (lv' := [(1, .int (0 : Int32)), (0, .ref l0)]) C dX9_undo_25 rfl (by decide) rfl ?_
    obtain ⟨M23, e22, h⟩ := bindE h
    refine q_sub (lv' := [(0, .ref l0), (1, .int (0 : Int32))]) [1, 0] rfl (w_X9_undo_l26 C hRO hl l0 (0 : Int32) M8 e22 (fun r21 he => ?_))
    subst he
    show wq X 2 58 [(0, .ref l0)] [] M23
    refine q_aload_n 0 C dX9_undo_58 rfl ?_
    obtain ⟨v24, e25, h⟩ := bindE h
    refine q_getI C fl_RX9_288 rfl e25 dX9_undo_59 ?_
    cases h
    exact q_iret C kf dX9_undo_62
  · have h := ifT c5 h
    refine q_iconst (v := (-1 : Int32)) C dX9_undo_12 (by decide) ?_
    cases h
    exact q_iret C kf dX9_undo_13
theorem k_X9_undo (l : Launch) (hl : l.stackTraces = false) (G : GG) (l0 : Nat) (M : Mem) (x : Int32 × Mem) (h : F_X9_undo l0 M = some x) : Ct l G yX9_undo (.code yX9_undo cX9_undo 2 (some .int)) 7 140 [.ref l0] M (rs_mI x) (ms_mI x) := by
  refine Ct_of (by decide +kernel) (Nat.le_of_ble_eq_true rfl) fun X e1 e2 e3 C FN hnm => ?_
  subst e1; subst e2
  show wq X 2 0 [(0, .ref l0)] [] M
  exact w_X9_undo C FN.2.2.2 hl l0 M h FN
/-! X9_wide -/
set_option maxRecDepth 100000 in
set_option maxHeartbeats 4000000 in
theorem w_X9_wide_s26 {X : CX} {y : (Int32 × Int32) ⊕ (Int32)} (C : CK X cX9_wide 4 RX9 8 162) (hRO : RO X.2.2.1 X.1.2.2.2.2.1 X.1.2.2.2.2.1.heap) (hl : X.1.2.1.stackTraces = false) (l0 : Nat) (l1 : Int32) (M : Mem) (l2 : Int32) (l3 : Int32) (h : F_X9_wide_s26 l0 l1 M l2 l3 = some y) (kc : ∀ s' : Int32 × Int32, y = .inl s' → wq X 4 26 [(0, .ref l0), (1, .int l1), (2, .int (s'.1)), (3, .int (s'.2))] [] M) (kx : ∀ e' : Int32, y = (.inr e') → wq X 4 71 [(2, .int (e'))] [] M) : wq X 4 26 [(0, .ref l0), (1, .int l1), (2, .int l2), (3, .int l3)] [] M := by
  unfold F_X9_wide_s26 at h
  refine q_iload_n 3 C dX9_wide_26 rfl ?_
  refine q_aload_n 0 C dX9_wide_27 rfl ?_
  obtain ⟨v10, e11, h⟩ := bindE h
  refine q_getI C fl_RX9_275 rfl e11 dX9_wide_28 ?_
  refine q_icmp_ge (tgt := 71) C dX9_wide_31 (by decide) (fun c12 => ?_) (fun c12 => ?_)
  · have h := ifT c12 h
    exact q_sub (lv' := [(2, .int l2)]) [2] rfl (kx l2 (someI h))
  · have h := ifF c12 h
    refine q_iload_n 2 C dX9_wide_34 rfl ?_
    refine q_aload_n 0 C dX9_wide_35 rfl ?_
    refine q_iconst (v := (0 : Int32)) C dX9_wide_36 (by decide) ?_
    refine q_iload_n 3 C dX9_wide_37 rfl ?_
    obtain ⟨e13, h⟩ := ckOE h
    obtain ⟨v15, e14, h⟩ := bindE h
    refine q_callV (v := some (.int v15)) [.int (0 : Int32), .int l3] C hRO lk_RX9_322 vk_X9_isBurst e13 rfl rfl rfl (Nat.le_of_ble_eq_true rfl) (by decide) (by decide) dX9_wide_38 (k_X9_isBurst X.1.2.1 hl X.2.2.1 l0 (0 : Int32) l3 M _ e14) ?_
    refine q_if_ne (tgt := 62) C dX9_wide_41 (by decide) (fun c16 => ?_) (fun c16 => ?_)
    · have h := ifF c16 h
      refine q_iconst (v := (0 : Int32)) C dX9_wide_62 (by decide) ?_
      refine q_ior C dX9_wide_63 ?_
      refine q_istore_n (i := 2) (lv' := [(2, .int (l2 ||| (0 : Int32))), (0, .ref l0), (1, .int l1), (3, .int l3)]) C dX9_wide_64 rfl (by decide) rfl ?_
      refine q_iinc 3 (v := (l3 + (1 : Int32))) (lv' := [(3, .int (l3 + (1 : Int32))), (2, .int (l2 ||| (0 : Int32))), (0, .ref l0), (1, .int l1)]) C dX9_wide_65 rfl rfl (by decide) rfl ?_
      refine q_goto (tgt := 26) C dX9_wide_68 (by decide) ?_
      exact q_sub (lv' := [(0, .ref l0), (1, .int l1), (2, .int (l2 ||| (0 : Int32))), (3, .int (l3 + (1 : Int32)))]) [2, 3, 1, 0] rfl (kc ((l2 ||| (0 : Int32)), (l3 + (1 : Int32))) (someI h))
    · have h := ifT c16 h
      refine q_aload_n 0 C dX9_wide_44 rfl ?_
      obtain ⟨v17, e18, h⟩ := bindE h
      refine q_getP C fl_RX9_66 rfl e18 dX9_wide_45 ?_
      refine q_iconst (v := (3 : Int32)) C dX9_wide_48 (by decide) ?_
      refine q_iload_n 3 C dX9_wide_49 rfl ?_
      refine q_iadd C dX9_wide_50 ?_
      obtain ⟨v19, e20, h⟩ := bindE h
      refine q_iaload C e20 dX9_wide_51 ?_
      refine q_iload_n 1 C dX9_wide_52 rfl ?_
      refine q_icmp_lt (tgt := 62) C dX9_wide_53 (by decide) (fun c21 => ?_) (fun c21 => ?_)
      · have h := ifT c21 h
        refine q_iconst (v := (0 : Int32)) C dX9_wide_62 (by decide) ?_
        refine q_ior C dX9_wide_63 ?_
        refine q_istore_n (i := 2) (lv' := [(2, .int (l2 ||| (0 : Int32))), (0, .ref l0), (1, .int l1), (3, .int l3)]) C dX9_wide_64 rfl (by decide) rfl ?_
        refine q_iinc 3 (v := (l3 + (1 : Int32))) (lv' := [(3, .int (l3 + (1 : Int32))), (2, .int (l2 ||| (0 : Int32))), (0, .ref l0), (1, .int l1)]) C dX9_wide_65 rfl rfl (by decide) rfl ?_
        refine q_goto (tgt := 26) C dX9_wide_68 (by decide) ?_
        exact q_sub (lv' := [(0, .ref l0), (1, .int l1), (2, .int (l2 ||| (0 : Int32))), (3, .int (l3 + (1 : Int32)))]) [2, 3, 1, 0] rfl (kc ((l2 ||| (0 : Int32)), (l3 + (1 : Int32))) (someI h))
      · have h := ifF c21 h
        refine q_iconst (v := (1 : Int32)) C dX9_wide_56 (by decide) ?_
        refine q_iload_n 3 C dX9_wide_57 rfl ?_
        refine q_ishl C dX9_wide_58 ?_
        refine q_goto (tgt := 63) C dX9_wide_59 (by decide) ?_
        refine q_ior C dX9_wide_63 ?_
        obtain ⟨n22, e23, h⟩ := nmE h
        refine q_topI e23 ?_
        refine q_istore_n (i := 2) (lv' := [(2, .int n22), (0, .ref l0), (1, .int l1), (3, .int l3)]) C dX9_wide_64 rfl (by decide) rfl ?_
        refine q_iinc 3 (v := (l3 + (1 : Int32))) (lv' := [(3, .int (l3 + (1 : Int32))), (2, .int n22), (0, .ref l0), (1, .int l1)]) C dX9_wide_65 rfl rfl (by decide) rfl ?_
        refine q_goto (tgt := 26) C dX9_wide_68 (by decide) ?_
        exact q_sub (lv' := [(0, .ref l0), (1, .int l1), (2, .int n22), (3, .int (l3 + (1 : Int32)))]) [2, 3, 1, 0] rfl (kc (n22, (l3 + (1 : Int32))) (someI h))
theorem w_X9_wide_l26 {X : CX} {r : Int32} (C : CK X cX9_wide 4 RX9 8 162) (hRO : RO X.2.2.1 X.1.2.2.2.2.1 X.1.2.2.2.2.1.heap) (hl : X.1.2.1.stackTraces = false) (l0 : Nat) (l1 : Int32) (M : Mem) (l2 : Int32) (l3 : Int32) (h : loop (fun s => F_X9_wide_s26 l0 l1 M s.1 s.2) (l2, l3) = some r) (kx : ∀ e' : Int32, r = e' → wq X 4 71 [(2, .int (e'))] [] M) : wq X 4 26 [(0, .ref l0), (1, .int l1), (2, .int l2), (3, .int l3)] [] M :=
  loop_ind (P := fun s => wq X 4 26 [(0, .ref l0), (1, .int l1), (2, .int s.1), (3, .int s.2)] [] M) h (fun s y hy kc kr => w_X9_wide_s26 C hRO hl l0 l1 M s.1 s.2 hy kc (fun e' he => kx e' (kr _ he).symm))
set_option maxRecDepth 100000 in
set_option maxHeartbeats 4000000 in
theorem w_X9_wide {X : CX} {y : Int32 × Mem} (C : CK X cX9_wide 4 RX9 8 162) (hRO : RO X.2.2.1 X.1.2.2.2.2.1 X.1.2.2.2.2.1.heap) (hl : X.1.2.1.stackTraces = false) (l0 : Nat) (l1 : Int32) (M : Mem) (h : F_X9_wide l0 l1 M = some y) (kf : FIN X (some .int) (rs_mI y) (ms_mI y)) : wq X 4 0 [(0, .ref l0), (1, .int l1)] [] M := by
  unfold F_X9_wide at h
  refine q_aload_n 0 C dX9_wide_0 rfl ?_
  refine q_iconst (v := (0 : Int32)) C dX9_wide_1 (by decide) ?_
  obtain ⟨M1, e2, h⟩ := bindE h
  refine q_putI C fp_RX9_111 rfl e2 dX9_wide_2 ?_
  refine q_aload_n 0 C dX9_wide_5 rfl ?_
  refine q_iload_n 1 C dX9_wide_6 rfl ?_
  refine q_iconst (v := (1 : Int32)) C dX9_wide_7 (by decide) ?_
  refine q_bipush (v := (60 : Int32)) C dX9_wide_8 (by decide) ?_
  obtain ⟨v4, e3, h⟩ := bindE h
  refine q_callS (v := some (.int v4)) [.int l1, .int (1 : Int32), .int (60 : Int32)] C hRO lk_RX9_345 sk_X9_within rfl rfl (Nat.le_of_ble_eq_true rfl) (by decide) (by decide) dX9_wide_10 (k_X9_within X.1.2.1 hl X.2.2.1 l1 (1 : Int32) (60 : Int32) M1 _ e3) ?_
  refine q_iconst (v := (1 : Int32)) C dX9_wide_13 (by decide) ?_
  obtain ⟨e5, h⟩ := ckOE h
  obtain ⟨v8, M7, e6, h⟩ := bd2E h
  refine q_callV (v := some (.int v8)) [.int v4, .int (1 : Int32)] C hRO lk_RX9_268 vk_X9_right e5 rfl rfl rfl (Nat.le_of_ble_eq_true rfl) (by decide) (by decide) dX9_wide_14 (k_X9_right X.1.2.1 hl X.2.2.1 l0 v4 (1 : Int32) M1 _ e6) ?_
  refine q_if_ne (tgt := 22) C dX9_wide_17 (by decide) (fun c9 => ?_) (fun c9 => ?_)
  · have h := ifF c9 h
    refine q_iconst (v := (0 : Int32)) C dX9_wide_22 (by decide) ?_
    refine q_istore_n (i := 2) (lv' := [(2, .int (0 : Int32)), (0, .ref l0), (1, .int l1)]) C dX9_wide_23 rfl (by decide) rfl ?_
    refine q_iconst (v := (0 : Int32)) C dX9_wide_24 (by decide) ?_
    refine q_istore_n (i := 3) (lv' := [(3, .int (0 : Int32)), (2, .int (0 : Int32)), (0, .ref l0), (1, .int l1)]) C dX9_wide_25 rfl (by decide) rfl ?_
    obtain ⟨x26, e25, h⟩ := bindE h
    refine q_sub (lv' := [(0, .ref l0), (1, .int l1), (2, .int (0 : Int32)), (3, .int (0 : Int32))]) [2, 3, 1, 0] rfl (w_X9_wide_l26 C hRO hl l0 l1 M7 (0 : Int32) (0 : Int32) e25 (fun r24 he => ?_))
    subst he
    show wq X 4 71 [(2, .int x26)] [] M7
    refine q_iload_n 0 C dX9_wide_71 rfl ?_
    cases h
    exact q_iret C kf dX9_wide_72
  · have h := ifT c9 h
    refine q_iconst (v := (0 : Int32)) C dX9_wide_20 (by decide) ?_
    cases h
    exact q_iret C kf dX9_wide_21
theorem k_X9_wide (l : Launch) (hl : l.stackTraces = false) (G : GG) (l0 : Nat) (l1 : Int32) (M : Mem) (x : Int32 × Mem) (h : F_X9_wide l0 l1 M = some x) : Ct l G yX9_wide (.code yX9_wide cX9_wide 4 (some .int)) 8 162 [.ref l0, .int l1] M (rs_mI x) (ms_mI x) := by
  refine Ct_of (by decide +kernel) (Nat.le_of_ble_eq_true rfl) fun X e1 e2 e3 C FN hnm => ?_
  subst e1; subst e2
  show wq X 4 0 [(0, .ref l0), (1, .int l1)] [] M
  exact w_X9_wide C FN.2.2.2 hl l0 l1 M h FN
/-! X9_worn -/
set_option maxRecDepth 100000 in
set_option maxHeartbeats 4000000 in
theorem w_X9_worn {X : CX} {y : Int32 × Mem} (C : CK X cX9_worn 3 RX9 14 300) (hRO : RO X.2.2.1 X.1.2.2.2.2.1 X.1.2.2.2.2.1.heap) (hl : X.1.2.1.stackTraces = false) (l0 : Nat) (l1 : Int32) (l2 : Int32) (M : Mem) (h : F_X9_worn l0 l1 l2 M = some y) (kf : FIN X (some .int) (rs_mI y) (ms_mI y)) : wq X 3 0 [(0, .ref l0), (1, .int l1), (2, .int l2)] [] M := by
  unfold F_X9_worn at h
  refine q_aload_n 0 C dX9_worn_0 rfl ?_
  refine q_iconst (v := (0 : Int32)) C dX9_worn_1 (by decide) ?_
  obtain ⟨M1, e2, h⟩ := bindE h
  refine q_putI C fp_RX9_111 rfl e2 dX9_worn_2 ?_
  refine q_aload_n 0 C dX9_worn_5 rfl ?_
  refine q_iload_n 1 C dX9_worn_6 rfl ?_
  obtain ⟨e3, h⟩ := ckOE h
  obtain ⟨v6, M5, e4, h⟩ := bd2E h
  refine q_callV (v := some (.int v6)) [.int l1] C hRO lk_RX9_367 vk_X9_isHouse e3 rfl rfl rfl (Nat.le_of_ble_eq_true rfl) (by decide) (by decide) dX9_worn_7 (k_X9_isHouse X.1.2.1 hl X.2.2.1 l0 l1 M1 _ e4) ?_
  refine q_if_eq (tgt := 23) C dX9_worn_10 (by decide) (fun c7 => ?_) (fun c7 => ?_)
  · have h := ifT c7 h
    refine q_iconst (v := (0 : Int32)) C dX9_worn_23 (by decide) ?_
    cases h
    exact q_iret C kf dX9_worn_24
  · have h := ifF c7 h
    refine q_aload_n 0 C dX9_worn_13 rfl ?_
    refine q_iload_n 2 C dX9_worn_14 rfl ?_
    refine q_iconst (v := (0 : Int32)) C dX9_worn_15 (by decide) ?_
    refine q_iconst (v := (2 : Int32)) C dX9_worn_16 (by decide) ?_
    obtain ⟨e8, h⟩ := ckOE h
    obtain ⟨v11, M10, e9, h⟩ := bd2E h
    refine q_callV (v := some (.int v11)) [.int l2, .int (0 : Int32), .int (2 : Int32)] C hRO lk_RX9_397 vk_X9_isDays e8 rfl rfl rfl (Nat.le_of_ble_eq_true rfl) (by decide) (by decide) dX9_worn_17 (k_X9_isDays X.1.2.1 hl X.2.2.1 l0 l2 (0 : Int32) (2 : Int32) M5 _ e9) ?_
    refine q_if_ne (tgt := 25) C dX9_worn_20 (by decide) (fun c12 => ?_) (fun c12 => ?_)
    · have h := ifF c12 h
      refine q_aload_n 0 C dX9_worn_25 rfl ?_
      refine q_iload_n 2 C dX9_worn_26 rfl ?_
      obtain ⟨e13, h⟩ := ckOE h
      obtain ⟨M15, e14, h⟩ := bindE h
      refine q_callV (v := none) [.int l2] C hRO lk_RX9_400 vk_X9_goesTo e13 rfl rfl rfl (Nat.le_of_ble_eq_true rfl) (by decide) (by decide) dX9_worn_27 (k_X9_goesTo X.1.2.1 hl X.2.2.1 l0 l2 M10 _ e14) ?_
      refine q_aload_n 0 C dX9_worn_30 rfl ?_
      obtain ⟨v17, e18, h⟩ := bindE h
      refine q_getP C fl_RX9_66 rfl e18 dX9_worn_31 ?_
      refine q_bipush (v := (54 : Int32)) C dX9_worn_34 (by decide) ?_
      refine q_iload_n 1 C dX9_worn_36 rfl ?_
      refine q_iadd C dX9_worn_37 ?_
      obtain ⟨v19, e20, h⟩ := bindE h
      refine q_iaload C e20 dX9_worn_38 ?_
      cases h
      exact q_iret C kf dX9_worn_39
    · have h := ifT c12 h
      refine q_iconst (v := (0 : Int32)) C dX9_worn_23 (by decide) ?_
      cases h
      exact q_iret C kf dX9_worn_24
theorem k_X9_worn (l : Launch) (hl : l.stackTraces = false) (G : GG) (l0 : Nat) (l1 : Int32) (l2 : Int32) (M : Mem) (x : Int32 × Mem) (h : F_X9_worn l0 l1 l2 M = some x) : Ct l G yX9_worn (.code yX9_worn cX9_worn 3 (some .int)) 14 300 [.ref l0, .int l1, .int l2] M (rs_mI x) (ms_mI x) := by
  refine Ct_of (by decide +kernel) (Nat.le_of_ble_eq_true rfl) fun X e1 e2 e3 C FN hnm => ?_
  subst e1; subst e2
  show wq X 3 0 [(0, .ref l0), (1, .int l1), (2, .int l2)] [] M
  exact w_X9_worn C FN.2.2.2 hl l0 l1 l2 M h FN
/-! X9_wornest -/
set_option maxRecDepth 100000 in
set_option maxHeartbeats 4000000 in
theorem w_X9_wornest_s26 {X : CX} {y : (Int32 × Int32) ⊕ (Int32)} (C : CK X cX9_wornest 4 RX9 14 300) (hRO : RO X.2.2.1 X.1.2.2.2.2.1 X.1.2.2.2.2.1.heap) (hl : X.1.2.1.stackTraces = false) (l0 : Nat) (M : Mem) (l2 : Int32) (l3 : Int32) (h : F_X9_wornest_s26 l0 M l2 l3 = some y) (kc : ∀ s' : Int32 × Int32, y = .inl s' → wq X 4 26 [(0, .ref l0), (2, .int (s'.1)), (3, .int (s'.2))] [] M) (kx : ∀ e' : Int32, y = (.inr e') → wq X 4 68 [(2, .int (e'))] [] M) : wq X 4 26 [(0, .ref l0), (2, .int l2), (3, .int l3)] [] M := by
  unfold F_X9_wornest_s26 at h
  refine q_iload_n 2 C dX9_wornest_26 rfl ?_
  refine q_aload_n 0 C dX9_wornest_27 rfl ?_
  obtain ⟨v12, e13, h⟩ := bindE h
  refine q_getI C fl_RX9_275 rfl e13 dX9_wornest_28 ?_
  refine q_icmp_ge (tgt := 68) C dX9_wornest_31 (by decide) (fun c14 => ?_) (fun c14 => ?_)
  · have h := ifT c14 h
    exact q_sub (lv' := [(2, .int l2)]) [1] rfl (kx l2 (someI h))
  · have h := ifF c14 h
    refine q_iload_n 1 C dX9_wornest_34 rfl ?_
    refine q_iconst (v := (-1 : Int32)) C dX9_wornest_35 (by decide) ?_
    refine q_icmp_eq (tgt := 60) C dX9_wornest_36 (by decide) (fun c15 => ?_) (fun c15 => ?_)
    · have h := ifT c15 h
      refine q_iload_n 2 C dX9_wornest_60 rfl ?_
      refine q_istore_n (i := 2) (lv' := [(2, .int l3), (0, .ref l0), (3, .int l3)]) C dX9_wornest_61 rfl (by decide) rfl ?_
      refine q_iinc 2 (v := (l3 + (1 : Int32))) (lv' := [(3, .int (l3 + (1 : Int32))), (2, .int l3), (0, .ref l0)]) C dX9_wornest_62 rfl rfl (by decide) rfl ?_
      refine q_goto (tgt := 26) C dX9_wornest_65 (by decide) ?_
      exact q_sub (lv' := [(0, .ref l0), (2, .int l3), (3, .int (l3 + (1 : Int32)))]) [2, 1, 0] rfl (kc (l3, (l3 + (1 : Int32))) (someI h))
    · have h := ifF c15 h
      refine q_aload_n 0 C dX9_wornest_39 rfl ?_
      obtain ⟨v16, e17, h⟩ := bindE h
      refine q_getP C fl_RX9_66 rfl e17 dX9_wornest_40 ?_
      refine q_bipush (v := (54 : Int32)) C dX9_wornest_43 (by decide) ?_
      refine q_iload_n 2 C dX9_wornest_45 rfl ?_
      refine q_iadd C dX9_wornest_46 ?_
      obtain ⟨v18, e19, h⟩ := bindE h
      refine q_iaload C e19 dX9_wornest_47 ?_
      refine q_aload_n 0 C dX9_wornest_48 rfl ?_
      obtain ⟨v20, e21, h⟩ := bindE h
      refine q_getP C fl_RX9_66 rfl e21 dX9_wornest_49 ?_
      refine q_bipush (v := (54 : Int32)) C dX9_wornest_52 (by decide) ?_
      refine q_iload_n 1 C dX9_wornest_54 rfl ?_
      refine q_iadd C dX9_wornest_55 ?_
      obtain ⟨v22, e23, h⟩ := bindE h
      refine q_iaload C e23 dX9_wornest_56 ?_
      refine q_icmp_le (tgt := 62) C dX9_wornest_57 (by decide) (fun c24 => ?_) (fun c24 => ?_)
      · have h := ifT c24 h
        refine q_iinc 2 (v := (l3 + (1 : Int32))) (lv' := [(3, .int (l3 + (1 : Int32))), (0, .ref l0), (2, .int l2)]) C dX9_wornest_62 rfl rfl (by decide) rfl ?_
        refine q_goto (tgt := 26) C dX9_wornest_65 (by decide) ?_
        exact q_sub (lv' := [(0, .ref l0), (2, .int l2), (3, .int (l3 + (1 : Int32)))]) [1, 2, 0] rfl (kc (l2, (l3 + (1 : Int32))) (someI h))
      · have h := ifF c24 h
        refine q_iload_n 2 C dX9_wornest_60 rfl ?_
        refine q_istore_n (i := 2) (lv' := [(2, .int l3), (0, .ref l0), (3, .int l3)]) C dX9_wornest_61 rfl (by decide) rfl ?_
        refine q_iinc 2 (v := (l3 + (1 : Int32))) (lv' := [(3, .int (l3 + (1 : Int32))), (2, .int l3), (0, .ref l0)]) C dX9_wornest_62 rfl rfl (by decide) rfl ?_
        refine q_goto (tgt := 26) C dX9_wornest_65 (by decide) ?_
        exact q_sub (lv' := [(0, .ref l0), (2, .int l3), (3, .int (l3 + (1 : Int32)))]) [2, 1, 0] rfl (kc (l3, (l3 + (1 : Int32))) (someI h))
theorem w_X9_wornest_l26 {X : CX} {r : Int32} (C : CK X cX9_wornest 4 RX9 14 300) (hRO : RO X.2.2.1 X.1.2.2.2.2.1 X.1.2.2.2.2.1.heap) (hl : X.1.2.1.stackTraces = false) (l0 : Nat) (M : Mem) (l2 : Int32) (l3 : Int32) (h : loop (fun s => F_X9_wornest_s26 l0 M s.1 s.2) (l2, l3) = some r) (kx : ∀ e' : Int32, r = e' → wq X 4 68 [(2, .int (e'))] [] M) : wq X 4 26 [(0, .ref l0), (2, .int l2), (3, .int l3)] [] M :=
  loop_ind (P := fun s => wq X 4 26 [(0, .ref l0), (2, .int s.1), (3, .int s.2)] [] M) h (fun s y hy kc kr => w_X9_wornest_s26 C hRO hl l0 M s.1 s.2 hy kc (fun e' he => kx e' (kr _ he).symm))
set_option maxRecDepth 100000 in
set_option maxHeartbeats 4000000 in
theorem w_X9_wornest {X : CX} {y : Int32 × Mem} (C : CK X cX9_wornest 4 RX9 14 300) (hRO : RO X.2.2.1 X.1.2.2.2.2.1 X.1.2.2.2.2.1.heap) (hl : X.1.2.1.stackTraces = false) (l0 : Nat) (l1 : Int32) (M : Mem) (h : F_X9_wornest l0 l1 M = some y) (kf : FIN X (some .int) (rs_mI y) (ms_mI y)) : wq X 4 0 [(0, .ref l0), (1, .int l1)] [] M := by
  unfold F_X9_wornest at h
  refine q_aload_n 0 C dX9_wornest_0 rfl ?_
  refine q_iconst (v := (0 : Int32)) C dX9_wornest_1 (by decide) ?_
  obtain ⟨M1, e2, h⟩ := bindE h
  refine q_putI C fp_RX9_111 rfl e2 dX9_wornest_2 ?_
  refine q_aload_n 0 C dX9_wornest_5 rfl ?_
  refine q_iload_n 1 C dX9_wornest_6 rfl ?_
  refine q_iconst (v := (0 : Int32)) C dX9_wornest_7 (by decide) ?_
  refine q_iconst (v := (1 : Int32)) C dX9_wornest_8 (by decide) ?_
  obtain ⟨e3, h⟩ := ckOE h
  obtain ⟨v6, M5, e4, h⟩ := bd2E h
  refine q_callV (v := some (.int v6)) [.int l1, .int (0 : Int32), .int (1 : Int32)] C hRO lk_RX9_397 vk_X9_isDays e3 rfl rfl rfl (Nat.le_of_ble_eq_true rfl) (by decide) (by decide) dX9_wornest_9 (k_X9_isDays X.1.2.1 hl X.2.2.1 l0 l1 (0 : Int32) (1 : Int32) M1 _ e4) ?_
  refine q_if_ne (tgt := 17) C dX9_wornest_12 (by decide) (fun c7 => ?_) (fun c7 => ?_)
  · have h := ifF c7 h
    refine q_aload_n 0 C dX9_wornest_17 rfl ?_
    refine q_iload_n 1 C dX9_wornest_18 rfl ?_
    obtain ⟨e8, h⟩ := ckOE h
    obtain ⟨M10, e9, h⟩ := bindE h
    refine q_callV (v := none) [.int l1] C hRO lk_RX9_400 vk_X9_goesTo e8 rfl rfl rfl (Nat.le_of_ble_eq_true rfl) (by decide) (by decide) dX9_wornest_19 (k_X9_goesTo X.1.2.1 hl X.2.2.1 l0 l1 M5 _ e9) ?_
    refine q_iconst (v := (-1 : Int32)) C dX9_wornest_22 (by decide) ?_
    refine q_istore_n (i := 2) (lv' := [(2, .int (-1 : Int32)), (0, .ref l0), (1, .int l1)]) C dX9_wornest_23 rfl (by decide) rfl ?_
    refine q_iconst (v := (0 : Int32)) C dX9_wornest_24 (by decide) ?_
    refine q_istore_n (i := 3) (lv' := [(3, .int (0 : Int32)), (2, .int (-1 : Int32)), (0, .ref l0), (1, .int l1)]) C dX9_wornest_25 rfl (by decide) rfl ?_
    obtain ⟨x27, e26, h⟩ := bindE h
    refine q_sub (lv' := [(0, .ref l0), (2, .int (-1 : Int32)), (3, .int (0 : Int32))]) [2, 1, 0] rfl (w_X9_wornest_l26 C hRO hl l0 M10 (-1 : Int32) (0 : Int32) e26 (fun r25 he => ?_))
    subst he
    show wq X 4 68 [(2, .int x27)] [] M10
    refine q_iload_n 0 C dX9_wornest_68 rfl ?_
    cases h
    exact q_iret C kf dX9_wornest_69
  · have h := ifT c7 h
    refine q_iconst (v := (0 : Int32)) C dX9_wornest_15 (by decide) ?_
    cases h
    exact q_iret C kf dX9_wornest_16
theorem k_X9_wornest (l : Launch) (hl : l.stackTraces = false) (G : GG) (l0 : Nat) (l1 : Int32) (M : Mem) (x : Int32 × Mem) (h : F_X9_wornest l0 l1 M = some x) : Ct l G yX9_wornest (.code yX9_wornest cX9_wornest 4 (some .int)) 14 300 [.ref l0, .int l1] M (rs_mI x) (ms_mI x) := by
  refine Ct_of (by decide +kernel) (Nat.le_of_ble_eq_true rfl) fun X e1 e2 e3 C FN hnm => ?_
  subst e1; subst e2
  show wq X 4 0 [(0, .ref l0), (1, .int l1)] [] M
  exact w_X9_wornest C FN.2.2.2 hl l0 l1 M h FN
/-! X9_wriggles -/
set_option maxRecDepth 100000 in
set_option maxHeartbeats 4000000 in
theorem w_X9_wriggles_s21 {X : CX} {y : (Int32 × Mem) ⊕ ((Mem) ⊕ (Int32 × Mem))} (C : CK X cX9_wriggles 3 RX9 12 257) (hRO : RO X.2.2.1 X.1.2.2.2.2.1 X.1.2.2.2.2.1.heap) (hl : X.1.2.1.stackTraces = false) (l0 : Nat) (l1 : Int32) (l2 : Int32) (M : Mem) (h : F_X9_wriggles_s21 l0 l1 l2 M = some y) (kc : ∀ s' : Int32 × Mem, y = .inl s' → wq X 3 21 [(0, .ref l0), (1, .int l1), (2, .int (s'.1))] [] s'.2) (kx : ∀ e' : Mem, y = (.inr (.inl e')) → wq X 3 62 [] [] e') (kf : ∀ f' : Int32 × Mem, y = (.inr (.inr f')) → FIN X (some .int) (rs_mI f') (ms_mI f')) : wq X 3 21 [(0, .ref l0), (1, .int l1), (2, .int l2)] [] M := by
  unfold F_X9_wriggles_s21 at h
  refine q_iload_n 2 C dX9_wriggles_21 rfl ?_
  refine q_bipush (v := (40 : Int32)) C dX9_wriggles_22 (by decide) ?_
  refine q_icmp_gt (tgt := 62) C dX9_wriggles_24 (by decide) (fun c12 => ?_) (fun c12 => ?_)
  · have h := ifT c12 h
    exact q_sub (lv' := []) [] rfl (kx M (someI h))
  · have h := ifF c12 h
    refine q_aload_n 0 C dX9_wriggles_27 rfl ?_
    refine q_bipush (v := (43 : Int32)) C dX9_wriggles_28 (by decide) ?_
    obtain ⟨e13, h⟩ := ckOE h
    obtain ⟨M15, e14, h⟩ := bindE h
    refine q_callV (v := none) [.int (43 : Int32)] C hRO lk_RX9_336 vk_X9_dayGoes e13 rfl rfl rfl (Nat.le_of_ble_eq_true rfl) (by decide) (by decide) dX9_wriggles_30 (k_X9_dayGoes X.1.2.1 hl X.2.2.1 l0 (43 : Int32) M _ e14) ?_
    refine q_aload_n 0 C dX9_wriggles_33 rfl ?_
    obtain ⟨v17, e18, h⟩ := bindE h
    refine q_getP C fl_RX9_66 rfl e18 dX9_wriggles_34 ?_
    refine q_bipush (v := (78 : Int32)) C dX9_wriggles_37 (by decide) ?_
    refine q_iload_n 1 C dX9_wriggles_39 rfl ?_
    refine q_iadd C dX9_wriggles_40 ?_
    obtain ⟨v19, e20, h⟩ := bindE h
    refine q_iaload C e20 dX9_wriggles_41 ?_
    refine q_aload_n 0 C dX9_wriggles_42 rfl ?_
    obtain ⟨v21, e22, h⟩ := bindE h
    refine q_getP C fl_RX9_66 rfl e22 dX9_wriggles_43 ?_
    refine q_bipush (v := (35 : Int32)) C dX9_wriggles_46 (by decide) ?_
    refine q_iload_n 1 C dX9_wriggles_48 rfl ?_
    refine q_iadd C dX9_wriggles_49 ?_
    obtain ⟨v23, e24, h⟩ := bindE h
    refine q_iaload C e24 dX9_wriggles_50 ?_
    refine q_icmp_le (tgt := 56) C dX9_wriggles_51 (by decide) (fun c25 => ?_) (fun c25 => ?_)
    · have h := ifT c25 h
      refine q_iinc 2 (v := (l2 + (1 : Int32))) (lv' := [(2, .int (l2 + (1 : Int32))), (0, .ref l0), (1, .int l1)]) C dX9_wriggles_56 rfl rfl (by decide) rfl ?_
      refine q_goto (tgt := 21) C dX9_wriggles_59 (by decide) ?_
      exact q_sub (lv' := [(0, .ref l0), (1, .int l1), (2, .int (l2 + (1 : Int32)))]) [1, 2, 0] rfl (kc ((l2 + (1 : Int32)), M15) (someI h))
    · have h := ifF c25 h
      refine q_iload_n 2 C dX9_wriggles_54 rfl ?_
      exact q_iret C (kf _ (someI h)) dX9_wriggles_55
theorem w_X9_wriggles_l21 {X : CX} {r : (Mem) ⊕ (Int32 × Mem)} (C : CK X cX9_wriggles 3 RX9 12 257) (hRO : RO X.2.2.1 X.1.2.2.2.2.1 X.1.2.2.2.2.1.heap) (hl : X.1.2.1.stackTraces = false) (l0 : Nat) (l1 : Int32) (l2 : Int32) (M : Mem) (h : loop (fun s => F_X9_wriggles_s21 l0 l1 s.1 s.2) (l2, M) = some r) (kx : ∀ e' : Mem, r = .inl e' → wq X 3 62 [] [] e') (kf : ∀ f' : Int32 × Mem, r = .inr f' → FIN X (some .int) (rs_mI f') (ms_mI f')) : wq X 3 21 [(0, .ref l0), (1, .int l1), (2, .int l2)] [] M :=
  loop_ind (P := fun s => wq X 3 21 [(0, .ref l0), (1, .int l1), (2, .int s.1)] [] s.2) h (fun s y hy kc kr => w_X9_wriggles_s21 C hRO hl l0 l1 s.1 s.2 hy kc (fun e' he => kx e' (kr _ he).symm) (fun f' he => kf f' (kr _ he).symm))
set_option maxRecDepth 100000 in
set_option maxHeartbeats 4000000 in
theorem w_X9_wriggles {X : CX} {y : Int32 × Mem} (C : CK X cX9_wriggles 3 RX9 12 257) (hRO : RO X.2.2.1 X.1.2.2.2.2.1 X.1.2.2.2.2.1.heap) (hl : X.1.2.1.stackTraces = false) (l0 : Nat) (l1 : Int32) (M : Mem) (h : F_X9_wriggles l0 l1 M = some y) (kf : FIN X (some .int) (rs_mI y) (ms_mI y)) : wq X 3 0 [(0, .ref l0), (1, .int l1)] [] M := by
  unfold F_X9_wriggles at h
  refine q_aload_n 0 C dX9_wriggles_0 rfl ?_
  refine q_iconst (v := (0 : Int32)) C dX9_wriggles_1 (by decide) ?_
  obtain ⟨M1, e2, h⟩ := bindE h
  refine q_putI C fp_RX9_111 rfl e2 dX9_wriggles_2 ?_
  refine q_aload_n 0 C dX9_wriggles_5 rfl ?_
  refine q_iload_n 1 C dX9_wriggles_6 rfl ?_
  obtain ⟨e3, h⟩ := ckOE h
  obtain ⟨v6, M5, e4, h⟩ := bd2E h
  refine q_callV (v := some (.int v6)) [.int l1] C hRO lk_RX9_379 vk_X9_isPerson e3 rfl rfl rfl (Nat.le_of_ble_eq_true rfl) (by decide) (by decide) dX9_wriggles_7 (k_X9_isPerson X.1.2.1 hl X.2.2.1 l0 l1 M1 _ e4) ?_
  refine q_if_ne (tgt := 15) C dX9_wriggles_10 (by decide) (fun c7 => ?_) (fun c7 => ?_)
  · have h := ifF c7 h
    refine q_aload_n 0 C dX9_wriggles_15 rfl ?_
    obtain ⟨e8, h⟩ := ckOE h
    obtain ⟨M10, e9, h⟩ := bindE h
    refine q_callV (v := none) [] C hRO lk_RX9_391 vk_X9_tries e8 rfl rfl rfl (Nat.le_of_ble_eq_true rfl) (by decide) (by decide) dX9_wriggles_16 (k_X9_tries X.1.2.1 hl X.2.2.1 l0 M5 _ e9) ?_
    refine q_iconst (v := (1 : Int32)) C dX9_wriggles_19 (by decide) ?_
    refine q_istore_n (i := 2) (lv' := [(2, .int (1 : Int32)), (0, .ref l0), (1, .int l1)]) C dX9_wriggles_20 rfl (by decide) rfl ?_
    obtain ⟨r26, e27, h⟩ := bindE h
    refine q_sub (lv' := [(0, .ref l0), (1, .int l1), (2, .int (1 : Int32))]) [1, 2, 0] rfl (w_X9_wriggles_l21 C hRO hl l0 l1 (1 : Int32) M10 e27 (fun M28 he => ?_) (fun f30 he => ?_))
    · subst he
      have h := elimL h
      show wq X 3 62 [] [] M28
      refine q_iconst (v := (-1 : Int32)) C dX9_wriggles_62 (by decide) ?_
      cases h
      exact q_iret C kf dX9_wriggles_63
    · subst he
      have h := elimR h
      cases h
      exact kf
  · have h := ifT c7 h
    refine q_iconst (v := (0 : Int32)) C dX9_wriggles_13 (by decide) ?_
    cases h
    exact q_iret C kf dX9_wriggles_14
theorem k_X9_wriggles (l : Launch) (hl : l.stackTraces = false) (G : GG) (l0 : Nat) (l1 : Int32) (M : Mem) (x : Int32 × Mem) (h : F_X9_wriggles l0 l1 M = some x) : Ct l G yX9_wriggles (.code yX9_wriggles cX9_wriggles 3 (some .int)) 12 257 [.ref l0, .int l1] M (rs_mI x) (ms_mI x) := by
  refine Ct_of (by decide +kernel) (Nat.le_of_ble_eq_true rfl) fun X e1 e2 e3 C FN hnm => ?_
  subst e1; subst e2
  show wq X 3 0 [(0, .ref l0), (1, .int l1)] [] M
  exact w_X9_wriggles C FN.2.2.2 hl l0 l1 M h FN
/-! X9_years -/
set_option maxRecDepth 100000 in
set_option maxHeartbeats 4000000 in
theorem w_X9_years_s38 {X : CX} {y : (Int32 × Mem) ⊕ (Mem)} (C : CK X cX9_years 5 RX9 13 278) (hRO : RO X.2.2.1 X.1.2.2.2.2.1 X.1.2.2.2.2.1.heap) (hl : X.1.2.1.stackTraces = false) (l0 : Nat) (l2 : Int32) (l3 : Int32) (l4 : Int32) (M : Mem) (h : F_X9_years_s38 l0 l2 l4 M = some y) (kc : ∀ s' : Int32 × Mem, y = .inl s' → wq X 5 38 [(0, .ref l0), (2, .int l2), (3, .int l3), (4, .int (s'.1))] [] s'.2) (kx : ∀ e' : Mem, y = (.inr e') → wq X 5 84 [(0, .ref l0), (3, .int l3)] [] e') : wq X 5 38 [(0, .ref l0), (2, .int l2), (3, .int l3), (4, .int l4)] [] M := by
  unfold F_X9_years_s38 at h
  refine q_iload 3 C dX9_years_38 rfl ?_
  refine q_iload_n 1 C dX9_years_40 rfl ?_
  refine q_icmp_ge (tgt := 84) C dX9_years_41 (by decide) (fun c19 => ?_) (fun c19 => ?_)
  · have h := ifT c19 h
    exact q_sub (lv' := [(0, .ref l0), (3, .int l3)]) [0, 2] rfl (kx M (someI h))
  · have h := ifF c19 h
    refine q_aload_n 0 C dX9_years_44 rfl ?_
    refine q_aload_n 0 C dX9_years_45 rfl ?_
    refine q_bipush (v := (10 : Int32)) C dX9_years_46 (by decide) ?_
    obtain ⟨e20, h⟩ := ckOE h
    obtain ⟨v23, M22, e21, h⟩ := bd2E h
    refine q_callV (v := some (.int v23)) [.int (10 : Int32)] C hRO lk_RX9_438 vk_X9_draw e20 rfl rfl rfl (Nat.le_of_ble_eq_true rfl) (by decide) (by decide) dX9_years_48 (k_X9_draw X.1.2.1 hl X.2.2.1 l0 (10 : Int32) M _ e21) ?_
    obtain ⟨M24, e25, h⟩ := bindE h
    refine q_putI C fp_RX9_78 rfl e25 dX9_years_51 ?_
    refine q_aload_n 0 C dX9_years_54 rfl ?_
    obtain ⟨v26, e27, h⟩ := bindE h
    refine q_getI C fl_RX9_278 rfl e27 dX9_years_55 ?_
    refine q_if_le (tgt := 72) C dX9_years_58 (by decide) (fun c28 => ?_) (fun c28 => ?_)
    · have h := ifT c28 h
      refine q_aload_n 0 C dX9_years_72 rfl ?_
      refine q_bipush (v := (43 : Int32)) C dX9_years_73 (by decide) ?_
      obtain ⟨e29, h⟩ := ckOE h
      obtain ⟨M31, e30, h⟩ := bindE h
      refine q_callV (v := none) [.int (43 : Int32)] C hRO lk_RX9_336 vk_X9_dayGoes e29 rfl rfl rfl (Nat.le_of_ble_eq_true rfl) (by decide) (by decide) dX9_years_75 (k_X9_dayGoes X.1.2.1 hl X.2.2.1 l0 (43 : Int32) M24 _ e30) ?_
      refine q_iinc 3 (v := (l4 + (1 : Int32))) (lv' := [(4, .int (l4 + (1 : Int32))), (0, .ref l0), (2, .int l2), (3, .int l3)]) C dX9_years_78 rfl rfl (by decide) rfl ?_
      refine q_goto (tgt := 38) C dX9_years_81 (by decide) ?_
      exact q_sub (lv' := [(0, .ref l0), (2, .int l2), (3, .int l3), (4, .int (l4 + (1 : Int32)))]) [1, 2, 3, 0] rfl (kc ((l4 + (1 : Int32)), M31) (someI h))
    · have h := ifF c28 h
      refine q_aload_n 0 C dX9_years_61 rfl ?_
      obtain ⟨v33, e34, h⟩ := bindE h
      refine q_getI C fl_RX9_275 rfl e34 dX9_years_62 ?_
      refine q_if_le (tgt := 72) C dX9_years_65 (by decide) (fun c35 => ?_) (fun c35 => ?_)
      · have h := ifT c35 h
        refine q_aload_n 0 C dX9_years_72 rfl ?_
        refine q_bipush (v := (43 : Int32)) C dX9_years_73 (by decide) ?_
        obtain ⟨e36, h⟩ := ckOE h
        obtain ⟨M38, e37, h⟩ := bindE h
        refine q_callV (v := none) [.int (43 : Int32)] C hRO lk_RX9_336 vk_X9_dayGoes e36 rfl rfl rfl (Nat.le_of_ble_eq_true rfl) (by decide) (by decide) dX9_years_75 (k_X9_dayGoes X.1.2.1 hl X.2.2.1 l0 (43 : Int32) M24 _ e37) ?_
        refine q_iinc 3 (v := (l4 + (1 : Int32))) (lv' := [(4, .int (l4 + (1 : Int32))), (0, .ref l0), (2, .int l2), (3, .int l3)]) C dX9_years_78 rfl rfl (by decide) rfl ?_
        refine q_goto (tgt := 38) C dX9_years_81 (by decide) ?_
        exact q_sub (lv' := [(0, .ref l0), (2, .int l2), (3, .int l3), (4, .int (l4 + (1 : Int32)))]) [1, 2, 3, 0] rfl (kc ((l4 + (1 : Int32)), M38) (someI h))
      · have h := ifF c35 h
        refine q_aload_n 0 C dX9_years_68 rfl ?_
        obtain ⟨e40, h⟩ := ckOE h
        obtain ⟨M42, e41, h⟩ := bindE h
        refine q_callV (v := none) [] C hRO lk_RX9_441 vk_X9_happens e40 rfl rfl rfl (Nat.le_of_ble_eq_true rfl) (by decide) (by decide) dX9_years_69 (k_X9_happens X.1.2.1 hl X.2.2.1 l0 M24 _ e41) ?_
        refine q_aload_n 0 C dX9_years_72 rfl ?_
        refine q_bipush (v := (43 : Int32)) C dX9_years_73 (by decide) ?_
        obtain ⟨e44, h⟩ := ckOE h
        obtain ⟨M46, e45, h⟩ := bindE h
        refine q_callV (v := none) [.int (43 : Int32)] C hRO lk_RX9_336 vk_X9_dayGoes e44 rfl rfl rfl (Nat.le_of_ble_eq_true rfl) (by decide) (by decide) dX9_years_75 (k_X9_dayGoes X.1.2.1 hl X.2.2.1 l0 (43 : Int32) M42 _ e45) ?_
        refine q_iinc 3 (v := (l4 + (1 : Int32))) (lv' := [(4, .int (l4 + (1 : Int32))), (0, .ref l0), (2, .int l2), (3, .int l3)]) C dX9_years_78 rfl rfl (by decide) rfl ?_
        refine q_goto (tgt := 38) C dX9_years_81 (by decide) ?_
        exact q_sub (lv' := [(0, .ref l0), (2, .int l2), (3, .int l3), (4, .int (l4 + (1 : Int32)))]) [1, 2, 3, 0] rfl (kc ((l4 + (1 : Int32)), M46) (someI h))
theorem w_X9_years_l38 {X : CX} {r : Mem} (C : CK X cX9_years 5 RX9 13 278) (hRO : RO X.2.2.1 X.1.2.2.2.2.1 X.1.2.2.2.2.1.heap) (hl : X.1.2.1.stackTraces = false) (l0 : Nat) (l2 : Int32) (l3 : Int32) (l4 : Int32) (M : Mem) (h : loop (fun s => F_X9_years_s38 l0 l2 s.1 s.2) (l4, M) = some r) (kx : ∀ e' : Mem, r = e' → wq X 5 84 [(0, .ref l0), (3, .int l3)] [] e') : wq X 5 38 [(0, .ref l0), (2, .int l2), (3, .int l3), (4, .int l4)] [] M :=
  loop_ind (P := fun s => wq X 5 38 [(0, .ref l0), (2, .int l2), (3, .int l3), (4, .int s.1)] [] s.2) h (fun s y hy kc kr => w_X9_years_s38 C hRO hl l0 l2 l3 s.1 s.2 hy kc (fun e' he => kx e' (kr _ he).symm))
set_option maxRecDepth 100000 in
set_option maxHeartbeats 4000000 in
theorem w_X9_years {X : CX} {y : Int32 × Mem} (C : CK X cX9_years 5 RX9 13 278) (hRO : RO X.2.2.1 X.1.2.2.2.2.1 X.1.2.2.2.2.1.heap) (hl : X.1.2.1.stackTraces = false) (l0 : Nat) (l1 : Int32) (l2 : Int32) (l3 : Int32) (M : Mem) (h : F_X9_years l0 l1 l2 l3 M = some y) (kf : FIN X (some .int) (rs_mI y) (ms_mI y)) : wq X 5 0 [(0, .ref l0), (1, .int l1), (2, .int l2), (3, .int l3)] [] M := by
  unfold F_X9_years at h
  refine q_aload_n 0 C dX9_years_0 rfl ?_
  refine q_iconst (v := (0 : Int32)) C dX9_years_1 (by decide) ?_
  obtain ⟨M1, e2, h⟩ := bindE h
  refine q_putI C fp_RX9_111 rfl e2 dX9_years_2 ?_
  refine q_aload_n 0 C dX9_years_5 rfl ?_
  refine q_iload_n 3 C dX9_years_6 rfl ?_
  refine q_iconst (v := (2 : Int32)) C dX9_years_7 (by decide) ?_
  obtain ⟨e3, h⟩ := ckOE h
  obtain ⟨v6, M5, e4, h⟩ := bd2E h
  refine q_callV (v := some (.int v6)) [.int l3, .int (2 : Int32)] C hRO lk_RX9_370 vk_X9_isWhat e3 rfl rfl rfl (Nat.le_of_ble_eq_true rfl) (by decide) (by decide) dX9_years_8 (k_X9_isWhat X.1.2.1 hl X.2.2.1 l0 l3 (2 : Int32) M1 _ e4) ?_
  refine q_if_eq (tgt := 24) C dX9_years_11 (by decide) (fun c7 => ?_) (fun c7 => ?_)
  · have h := ifT c7 h
    refine q_iconst (v := (0 : Int32)) C dX9_years_24 (by decide) ?_
    cases h
    exact q_iret C kf dX9_years_25
  · have h := ifF c7 h
    refine q_aload_n 0 C dX9_years_14 rfl ?_
    refine q_iload_n 2 C dX9_years_15 rfl ?_
    refine q_iconst (v := (0 : Int32)) C dX9_years_16 (by decide) ?_
    refine q_iconst (v := (2 : Int32)) C dX9_years_17 (by decide) ?_
    obtain ⟨e8, h⟩ := ckOE h
    obtain ⟨v11, M10, e9, h⟩ := bd2E h
    refine q_callV (v := some (.int v11)) [.int l2, .int (0 : Int32), .int (2 : Int32)] C hRO lk_RX9_397 vk_X9_isDays e8 rfl rfl rfl (Nat.le_of_ble_eq_true rfl) (by decide) (by decide) dX9_years_18 (k_X9_isDays X.1.2.1 hl X.2.2.1 l0 l2 (0 : Int32) (2 : Int32) M5 _ e9) ?_
    refine q_if_ne (tgt := 26) C dX9_years_21 (by decide) (fun c12 => ?_) (fun c12 => ?_)
    · have h := ifF c12 h
      refine q_aload_n 0 C dX9_years_26 rfl ?_
      obtain ⟨e13, h⟩ := ckOE h
      obtain ⟨M15, e14, h⟩ := bindE h
      refine q_callV (v := none) [] C hRO lk_RX9_391 vk_X9_tries e13 rfl rfl rfl (Nat.le_of_ble_eq_true rfl) (by decide) (by decide) dX9_years_27 (k_X9_tries X.1.2.1 hl X.2.2.1 l0 M10 _ e14) ?_
      refine q_aload_n 0 C dX9_years_30 rfl ?_
      refine q_iload_n 1 C dX9_years_31 rfl ?_
      obtain ⟨M17, e18, h⟩ := bindE h
      refine q_putI C fp_RX9_434 rfl e18 dX9_years_32 ?_
      refine q_iconst (v := (0 : Int32)) C dX9_years_35 (by decide) ?_
      refine q_istore (i := 4) (lv' := [(4, .int (0 : Int32)), (0, .ref l0), (1, .int l1), (2, .int l2), (3, .int l3)]) C dX9_years_36 (by decide) rfl ?_
      obtain ⟨M50, e49, h⟩ := bindE h
      refine q_sub (lv' := [(0, .ref l0), (2, .int l2), (3, .int l3), (4, .int (0 : Int32))]) [1, 3, 4, 0] rfl (w_X9_years_l38 C hRO hl l0 l2 l3 (0 : Int32) M17 e49 (fun r48 he => ?_))
      subst he
      show wq X 5 84 [(0, .ref l0), (3, .int l3)] [] M50
      refine q_aload_n 0 C dX9_years_84 rfl ?_
      refine q_iconst (v := (-1 : Int32)) C dX9_years_85 (by decide) ?_
      obtain ⟨M51, e52, h⟩ := bindE h
      refine q_putI C fp_RX9_78 rfl e52 dX9_years_86 ?_
      refine q_iload_n 1 C dX9_years_89 rfl ?_
      refine q_if_ne (tgt := 106) C dX9_years_90 (by decide) (fun c53 => ?_) (fun c53 => ?_)
      · have h := ifF c53 h
        refine q_iload_n 1 C dX9_years_106 rfl ?_
        refine q_iconst (v := (1 : Int32)) C dX9_years_107 (by decide) ?_
        refine q_icmp_ne (tgt := 120) C dX9_years_108 (by decide) (fun c54 => ?_) (fun c54 => ?_)
        · have h := ifF c54 h
          refine q_aload_n 0 C dX9_years_120 rfl ?_
          refine q_bipush (v := (43 : Int32)) C dX9_years_121 (by decide) ?_
          obtain ⟨e55, h⟩ := ckOE h
          obtain ⟨v57, e56, h⟩ := bindE h
          refine q_callV (v := some (.int v57)) [.int (43 : Int32)] C hRO lk_RX9_352 vk_X9_lodgersIn e55 rfl rfl rfl (Nat.le_of_ble_eq_true rfl) (by decide) (by decide) dX9_years_123 (k_X9_lodgersIn X.1.2.1 hl X.2.2.1 l0 (43 : Int32) M51 _ e56) ?_
          obtain ⟨v59, e58, h⟩ := bindE h
          refine q_callS (v := some (.int v59)) [.int v57] C hRO lk_RX9_444 sk_X9_bits rfl rfl (Nat.le_of_ble_eq_true rfl) (by decide) (by decide) dX9_years_126 (k_X9_bits X.1.2.1 hl X.2.2.1 v57 M51 _ e58) ?_
          cases h
          exact q_iret C kf dX9_years_129
        · have h := ifT c54 h
          refine q_aload_n 0 C dX9_years_111 rfl ?_
          refine q_bipush (v := (43 : Int32)) C dX9_years_112 (by decide) ?_
          obtain ⟨e60, h⟩ := ckOE h
          obtain ⟨v62, e61, h⟩ := bindE h
          refine q_callV (v := some (.int v62)) [.int (43 : Int32)] C hRO lk_RX9_355 vk_X9_soreIn e60 rfl rfl rfl (Nat.le_of_ble_eq_true rfl) (by decide) (by decide) dX9_years_114 (k_X9_soreIn X.1.2.1 hl X.2.2.1 l0 (43 : Int32) M51 _ e61) ?_
          refine q_goto (tgt := 129) C dX9_years_117 (by decide) ?_
          cases h
          exact q_iret C kf dX9_years_129
      · have h := ifT c53 h
        refine q_aload_n 0 C dX9_years_93 rfl ?_
        obtain ⟨v63, e64, h⟩ := bindE h
        refine q_getP C fl_RX9_66 rfl e64 dX9_years_94 ?_
        refine q_bipush (v := (44 : Int32)) C dX9_years_97 (by decide) ?_
        obtain ⟨v65, e66, h⟩ := bindE h
        refine q_iaload C e66 dX9_years_99 ?_
        obtain ⟨v68, e67, h⟩ := bindE h
        refine q_callS (v := some (.int v68)) [.int v65] C hRO lk_RX9_444 sk_X9_bits rfl rfl (Nat.le_of_ble_eq_true rfl) (by decide) (by decide) dX9_years_100 (k_X9_bits X.1.2.1 hl X.2.2.1 v65 M51 _ e67) ?_
        refine q_goto (tgt := 129) C dX9_years_103 (by decide) ?_
        cases h
        exact q_iret C kf dX9_years_129
    · have h := ifT c12 h
      refine q_iconst (v := (0 : Int32)) C dX9_years_24 (by decide) ?_
      cases h
      exact q_iret C kf dX9_years_25
theorem k_X9_years (l : Launch) (hl : l.stackTraces = false) (G : GG) (l0 : Nat) (l1 : Int32) (l2 : Int32) (l3 : Int32) (M : Mem) (x : Int32 × Mem) (h : F_X9_years l0 l1 l2 l3 M = some x) : Ct l G yX9_years (.code yX9_years cX9_years 5 (some .int)) 13 278 [.ref l0, .int l1, .int l2, .int l3] M (rs_mI x) (ms_mI x) := by
  refine Ct_of (by decide +kernel) (Nat.le_of_ble_eq_true rfl) fun X e1 e2 e3 C FN hnm => ?_
  subst e1; subst e2
  show wq X 5 0 [(0, .ref l0), (1, .int l1), (2, .int l2), (3, .int l3)] [] M
  exact w_X9_years C FN.2.2.2 hl l0 l1 l2 l3 M h FN
