/-! X0_init -/
set_option maxRecDepth 100000 in
set_option maxHeartbeats 4000000 in
theorem w_X0_init {X : CX} {y : Mem} (C : CK X cX0_init 1 RX0 7 140) (hRO : RO X.2.2.1 X.1.2.2.2.2.1 X.1.2.2.2.2.1.heap) (hl : X.1.2.1.stackTraces = false) (hnm : X.2.1.2.2.1.name = "<init>") (l0 : Nat) (M : Mem) (h : F_X0_init l0 M = some y) (kf : FIN X none (rs_mV y) (ms_mV y)) : wq X 1 0 [(0, .ref l0)] [] M := by
  unfold F_X0_init at h
  refine q_aload_n 0 C dX0_init_0 rfl ?_
  refine q_objInit C ml_RX0_3 oi_1 oi_2 (by decide) (Nat.le_of_ble_eq_true rfl) dX0_init_1 ?_
  refine q_aload_n 0 C dX0_init_4 rfl ?_
  refine q_bipush (v := (40 : Int32)) C dX0_init_5 (by decide) ?_
  obtain ⟨M1, e2, h⟩ := bindE h
  refine q_newR C hRO cl_RX0_9 e2 dX0_init_7 ?_
  obtain ⟨M3, e4, h⟩ := bindE h
  refine q_putF hnm rfl rfl C fp_RX0_11 rfl e4 dX0_init_10 ?_
  refine q_aload_n 0 C dX0_init_13 rfl ?_
  refine q_iconst (v := (0 : Int32)) C dX0_init_14 (by decide) ?_
  obtain ⟨M5, e6, h⟩ := bindE h
  refine q_putI C fp_RX0_17 rfl e6 dX0_init_15 ?_
  refine q_aload_n 0 C dX0_init_18 rfl ?_
  refine q_iconst (v := (0 : Int32)) C dX0_init_19 (by decide) ?_
  obtain ⟨M7, e8, h⟩ := bindE h
  refine q_putI C fp_RX0_21 rfl e8 dX0_init_20 ?_
  cases h
  exact q_vret C kf dX0_init_23
theorem k_X0_init (l : Launch) (hl : l.stackTraces = false) (G : GG) (l0 : Nat) (M : Mem) (x : Mem) (h : F_X0_init l0 M = some x) : Ct l G yX0_init (.code yX0_init cX0_init 1 none) 7 140 [.ref l0] M (rs_mV x) (ms_mV x) := by
  refine Ct_of (by decide +kernel) (Nat.le_of_ble_eq_true rfl) fun X e1 e2 e3 C FN hnm => ?_
  subst e1; subst e2
  show wq X 1 0 [(0, .ref l0)] [] M
  exact w_X0_init C FN.2.2.2 hl hnm l0 M h FN
/-! X1_init -/
set_option maxRecDepth 100000 in
set_option maxHeartbeats 4000000 in
theorem w_X1_init {X : CX} {y : Mem} (C : CK X cX1_init 1 RX1 7 140) (hRO : RO X.2.2.1 X.1.2.2.2.2.1 X.1.2.2.2.2.1.heap) (hl : X.1.2.1.stackTraces = false) (hnm : X.2.1.2.2.1.name = "<init>") (l0 : Nat) (M : Mem) (h : F_X1_init l0 M = some y) (kf : FIN X none (rs_mV y) (ms_mV y)) : wq X 1 0 [(0, .ref l0)] [] M := by
  unfold F_X1_init at h
  refine q_aload_n 0 C dX1_init_0 rfl ?_
  refine q_objInit C ml_RX1_3 oi_1 oi_2 (by decide) (Nat.le_of_ble_eq_true rfl) dX1_init_1 ?_
  refine q_aload_n 0 C dX1_init_4 rfl ?_
  refine q_sipush (v := (256 : Int32)) C dX1_init_5 (by decide) ?_
  obtain ⟨M1, e2, h⟩ := bindE h
  refine q_newI C ar_int e2 dX1_init_8 ?_
  obtain ⟨M3, e4, h⟩ := bindE h
  refine q_putF hnm rfl rfl C fp_RX1_11 rfl e4 dX1_init_10 ?_
  refine q_aload_n 0 C dX1_init_13 rfl ?_
  refine q_sipush (v := (256 : Int32)) C dX1_init_14 (by decide) ?_
  obtain ⟨M5, e6, h⟩ := bindE h
  refine q_newI C ar_int e6 dX1_init_17 ?_
  obtain ⟨M7, e8, h⟩ := bindE h
  refine q_putF hnm rfl rfl C fp_RX1_15 rfl e8 dX1_init_19 ?_
  refine q_aload_n 0 C dX1_init_22 rfl ?_
  refine q_bipush (v := (8 : Int32)) C dX1_init_23 (by decide) ?_
  obtain ⟨M9, e10, h⟩ := bindE h
  refine q_newI C ar_int e10 dX1_init_25 ?_
  obtain ⟨M11, e12, h⟩ := bindE h
  refine q_putF hnm rfl rfl C fp_RX1_18 rfl e12 dX1_init_27 ?_
  refine q_aload_n 0 C dX1_init_30 rfl ?_
  refine q_iconst (v := (0 : Int32)) C dX1_init_31 (by decide) ?_
  obtain ⟨M13, e14, h⟩ := bindE h
  refine q_putI C fp_RX1_21 rfl e14 dX1_init_32 ?_
  cases h
  exact q_vret C kf dX1_init_35
theorem k_X1_init (l : Launch) (hl : l.stackTraces = false) (G : GG) (l0 : Nat) (M : Mem) (x : Mem) (h : F_X1_init l0 M = some x) : Ct l G yX1_init (.code yX1_init cX1_init 1 none) 7 140 [.ref l0] M (rs_mV x) (ms_mV x) := by
  refine Ct_of (by decide +kernel) (Nat.le_of_ble_eq_true rfl) fun X e1 e2 e3 C FN hnm => ?_
  subst e1; subst e2
  show wq X 1 0 [(0, .ref l0)] [] M
  exact w_X1_init C FN.2.2.2 hl hnm l0 M h FN
/-! X2_init -/
set_option maxRecDepth 100000 in
set_option maxHeartbeats 4000000 in
theorem w_X2_init {X : CX} {y : Mem} (C : CK X cX2_init 1 RX2 7 140) (hRO : RO X.2.2.1 X.1.2.2.2.2.1 X.1.2.2.2.2.1.heap) (hl : X.1.2.1.stackTraces = false) (hnm : X.2.1.2.2.1.name = "<init>") (l0 : Nat) (M : Mem) (h : F_X2_init l0 M = some y) (kf : FIN X none (rs_mV y) (ms_mV y)) : wq X 1 0 [(0, .ref l0)] [] M := by
  unfold F_X2_init at h
  refine q_aload_n 0 C dX2_init_0 rfl ?_
  refine q_objInit C ml_RX2_3 oi_1 oi_2 (by decide) (Nat.le_of_ble_eq_true rfl) dX2_init_1 ?_
  refine q_aload_n 0 C dX2_init_4 rfl ?_
  refine q_iconst (v := (0 : Int32)) C dX2_init_5 (by decide) ?_
  obtain ⟨M1, e2, h⟩ := bindE h
  refine q_putI C fp_RX2_9 rfl e2 dX2_init_6 ?_
  refine q_aload_n 0 C dX2_init_9 rfl ?_
  refine q_iconst (v := (0 : Int32)) C dX2_init_10 (by decide) ?_
  obtain ⟨M3, e4, h⟩ := bindE h
  refine q_putI C fp_RX2_15 rfl e4 dX2_init_11 ?_
  refine q_aload_n 0 C dX2_init_14 rfl ?_
  refine q_iconst (v := (0 : Int32)) C dX2_init_15 (by decide) ?_
  obtain ⟨M5, e6, h⟩ := bindE h
  refine q_putI C fp_RX2_18 rfl e6 dX2_init_16 ?_
  refine q_aload_n 0 C dX2_init_19 rfl ?_
  refine q_bipush (v := (8 : Int32)) C dX2_init_20 (by decide) ?_
  obtain ⟨M7, e8, h⟩ := bindE h
  refine q_newI C ar_int e8 dX2_init_22 ?_
  obtain ⟨M9, e10, h⟩ := bindE h
  refine q_putF hnm rfl rfl C fp_RX2_21 rfl e10 dX2_init_24 ?_
  refine q_aload_n 0 C dX2_init_27 rfl ?_
  refine q_bipush (v := (8 : Int32)) C dX2_init_28 (by decide) ?_
  obtain ⟨M11, e12, h⟩ := bindE h
  refine q_newI C ar_int e12 dX2_init_30 ?_
  obtain ⟨M13, e14, h⟩ := bindE h
  refine q_putF hnm rfl rfl C fp_RX2_25 rfl e14 dX2_init_32 ?_
  refine q_aload_n 0 C dX2_init_35 rfl ?_
  refine q_bipush (v := (8 : Int32)) C dX2_init_36 (by decide) ?_
  obtain ⟨M15, e16, h⟩ := bindE h
  refine q_newI C ar_int e16 dX2_init_38 ?_
  obtain ⟨M17, e18, h⟩ := bindE h
  refine q_putF hnm rfl rfl C fp_RX2_28 rfl e18 dX2_init_40 ?_
  refine q_aload_n 0 C dX2_init_43 rfl ?_
  refine q_bipush (v := (8 : Int32)) C dX2_init_44 (by decide) ?_
  obtain ⟨M19, e20, h⟩ := bindE h
  refine q_newI C ar_int e20 dX2_init_46 ?_
  obtain ⟨M21, e22, h⟩ := bindE h
  refine q_putF hnm rfl rfl C fp_RX2_31 rfl e22 dX2_init_48 ?_
  refine q_aload_n 0 C dX2_init_51 rfl ?_
  refine q_bipush (v := (8 : Int32)) C dX2_init_52 (by decide) ?_
  obtain ⟨M23, e24, h⟩ := bindE h
  refine q_newI C ar_int e24 dX2_init_54 ?_
  obtain ⟨M25, e26, h⟩ := bindE h
  refine q_putF hnm rfl rfl C fp_RX2_34 rfl e26 dX2_init_56 ?_
  refine q_aload_n 0 C dX2_init_59 rfl ?_
  refine q_bipush (v := (8 : Int32)) C dX2_init_60 (by decide) ?_
  obtain ⟨M27, e28, h⟩ := bindE h
  refine q_newI C ar_int e28 dX2_init_62 ?_
  obtain ⟨M29, e30, h⟩ := bindE h
  refine q_putF hnm rfl rfl C fp_RX2_37 rfl e30 dX2_init_64 ?_
  refine q_aload_n 0 C dX2_init_67 rfl ?_
  refine q_bipush (v := (8 : Int32)) C dX2_init_68 (by decide) ?_
  obtain ⟨M31, e32, h⟩ := bindE h
  refine q_newI C ar_int e32 dX2_init_70 ?_
  obtain ⟨M33, e34, h⟩ := bindE h
  refine q_putF hnm rfl rfl C fp_RX2_40 rfl e34 dX2_init_72 ?_
  refine q_aload_n 0 C dX2_init_75 rfl ?_
  refine q_null C dX2_init_76 ?_
  obtain ⟨M35, e36, h⟩ := bindE h
  refine q_putN rfl C fp_RX2_43 rfl e36 dX2_init_77 ?_
  refine q_aload_n 0 C dX2_init_80 rfl ?_
  refine q_null C dX2_init_81 ?_
  obtain ⟨M37, e38, h⟩ := bindE h
  refine q_putN rfl C fp_RX2_47 rfl e38 dX2_init_82 ?_
  refine q_aload_n 0 C dX2_init_85 rfl ?_
  refine q_bipush (v := (7 : Int32)) C dX2_init_86 (by decide) ?_
  obtain ⟨M39, e40, h⟩ := bindE h
  refine q_newI C ar_int e40 dX2_init_88 ?_
  obtain ⟨M41, e42, h⟩ := bindE h
  refine q_putF hnm rfl rfl C fp_RX2_52 rfl e42 dX2_init_90 ?_
  refine q_aload_n 0 C dX2_init_93 rfl ?_
  refine q_bipush (v := (32 : Int32)) C dX2_init_94 (by decide) ?_
  obtain ⟨M43, e44, h⟩ := bindE h
  refine q_newI C ar_int e44 dX2_init_96 ?_
  obtain ⟨M45, e46, h⟩ := bindE h
  refine q_putF hnm rfl rfl C fp_RX2_55 rfl e46 dX2_init_98 ?_
  cases h
  exact q_vret C kf dX2_init_101
theorem k_X2_init (l : Launch) (hl : l.stackTraces = false) (G : GG) (l0 : Nat) (M : Mem) (x : Mem) (h : F_X2_init l0 M = some x) : Ct l G yX2_init (.code yX2_init cX2_init 1 none) 7 140 [.ref l0] M (rs_mV x) (ms_mV x) := by
  refine Ct_of (by decide +kernel) (Nat.le_of_ble_eq_true rfl) fun X e1 e2 e3 C FN hnm => ?_
  subst e1; subst e2
  show wq X 1 0 [(0, .ref l0)] [] M
  exact w_X2_init C FN.2.2.2 hl hnm l0 M h FN
/-! X5_init -/
set_option maxRecDepth 100000 in
set_option maxHeartbeats 4000000 in
theorem w_X5_init {X : CX} {y : Mem} (C : CK X cX5_init 1 RX5 7 140) (hRO : RO X.2.2.1 X.1.2.2.2.2.1 X.1.2.2.2.2.1.heap) (hl : X.1.2.1.stackTraces = false) (hnm : X.2.1.2.2.1.name = "<init>") (l0 : Nat) (M : Mem) (h : F_X5_init l0 M = some y) (kf : FIN X none (rs_mV y) (ms_mV y)) : wq X 1 0 [(0, .ref l0)] [] M := by
  unfold F_X5_init at h
  refine q_aload_n 0 C dX5_init_0 rfl ?_
  refine q_objInit C ml_RX5_3 oi_1 oi_2 (by decide) (Nat.le_of_ble_eq_true rfl) dX5_init_1 ?_
  refine q_aload_n 0 C dX5_init_4 rfl ?_
  refine q_bipush (v := (8 : Int32)) C dX5_init_5 (by decide) ?_
  obtain ⟨M1, e2, h⟩ := bindE h
  refine q_newI C ar_int e2 dX5_init_7 ?_
  obtain ⟨M3, e4, h⟩ := bindE h
  refine q_putF hnm rfl rfl C fp_RX5_9 rfl e4 dX5_init_9 ?_
  refine q_aload_n 0 C dX5_init_12 rfl ?_
  refine q_bipush (v := (8 : Int32)) C dX5_init_13 (by decide) ?_
  obtain ⟨M5, e6, h⟩ := bindE h
  refine q_newI C ar_int e6 dX5_init_15 ?_
  obtain ⟨M7, e8, h⟩ := bindE h
  refine q_putF hnm rfl rfl C fp_RX5_15 rfl e8 dX5_init_17 ?_
  refine q_aload_n 0 C dX5_init_20 rfl ?_
  refine q_bipush (v := (8 : Int32)) C dX5_init_21 (by decide) ?_
  obtain ⟨M9, e10, h⟩ := bindE h
  refine q_newI C ar_int e10 dX5_init_23 ?_
  obtain ⟨M11, e12, h⟩ := bindE h
  refine q_putF hnm rfl rfl C fp_RX5_18 rfl e12 dX5_init_25 ?_
  refine q_aload_n 0 C dX5_init_28 rfl ?_
  refine q_iconst (v := (0 : Int32)) C dX5_init_29 (by decide) ?_
  obtain ⟨M13, e14, h⟩ := bindE h
  refine q_putI C fp_RX5_21 rfl e14 dX5_init_30 ?_
  cases h
  exact q_vret C kf dX5_init_33
theorem k_X5_init (l : Launch) (hl : l.stackTraces = false) (G : GG) (l0 : Nat) (M : Mem) (x : Mem) (h : F_X5_init l0 M = some x) : Ct l G yX5_init (.code yX5_init cX5_init 1 none) 7 140 [.ref l0] M (rs_mV x) (ms_mV x) := by
  refine Ct_of (by decide +kernel) (Nat.le_of_ble_eq_true rfl) fun X e1 e2 e3 C FN hnm => ?_
  subst e1; subst e2
  show wq X 1 0 [(0, .ref l0)] [] M
  exact w_X5_init C FN.2.2.2 hl hnm l0 M h FN
/-! X6_init -/
set_option maxRecDepth 100000 in
set_option maxHeartbeats 4000000 in
theorem w_X6_init {X : CX} {y : Mem} (C : CK X cX6_init 1 RX6 8 163) (hRO : RO X.2.2.1 X.1.2.2.2.2.1 X.1.2.2.2.2.1.heap) (hl : X.1.2.1.stackTraces = false) (hnm : X.2.1.2.2.1.name = "<init>") (l0 : Nat) (M : Mem) (h : F_X6_init l0 M = some y) (kf : FIN X none (rs_mV y) (ms_mV y)) : wq X 1 0 [(0, .ref l0)] [] M := by
  unfold F_X6_init at h
  refine q_aload_n 0 C dX6_init_0 rfl ?_
  refine q_objInit C ml_RX6_3 oi_1 oi_2 (by decide) (Nat.le_of_ble_eq_true rfl) dX6_init_1 ?_
  refine q_aload_n 0 C dX6_init_4 rfl ?_
  refine q_iconst (v := (0 : Int32)) C dX6_init_5 (by decide) ?_
  obtain ⟨M1, e2, h⟩ := bindE h
  refine q_putI C fp_RX6_9 rfl e2 dX6_init_6 ?_
  refine q_aload_n 0 C dX6_init_9 rfl ?_
  refine q_iconst (v := (0 : Int32)) C dX6_init_10 (by decide) ?_
  obtain ⟨M3, e4, h⟩ := bindE h
  refine q_putZ C fp_RX6_15 rfl e4 dX6_init_11 ?_
  refine q_aload_n 0 C dX6_init_14 rfl ?_
  refine q_iconst (v := (0 : Int32)) C dX6_init_15 (by decide) ?_
  obtain ⟨M5, e6, h⟩ := bindE h
  refine q_putI C fp_RX6_19 rfl e6 dX6_init_16 ?_
  refine q_aload_n 0 C dX6_init_19 rfl ?_
  refine q_bipush (v := (8 : Int32)) C dX6_init_20 (by decide) ?_
  obtain ⟨M7, e8, h⟩ := bindE h
  refine q_newI C ar_int e8 dX6_init_22 ?_
  obtain ⟨M9, e10, h⟩ := bindE h
  refine q_putF hnm rfl rfl C fp_RX6_22 rfl e10 dX6_init_24 ?_
  refine q_aload_n 0 C dX6_init_27 rfl ?_
  refine q_bipush (v := (8 : Int32)) C dX6_init_28 (by decide) ?_
  obtain ⟨M11, e12, h⟩ := bindE h
  refine q_newI C ar_int e12 dX6_init_30 ?_
  obtain ⟨M13, e14, h⟩ := bindE h
  refine q_putF hnm rfl rfl C fp_RX6_26 rfl e14 dX6_init_32 ?_
  refine q_aload_n 0 C dX6_init_35 rfl ?_
  refine q_bipush (v := (8 : Int32)) C dX6_init_36 (by decide) ?_
  obtain ⟨M15, e16, h⟩ := bindE h
  refine q_newI C ar_int e16 dX6_init_38 ?_
  obtain ⟨M17, e18, h⟩ := bindE h
  refine q_putF hnm rfl rfl C fp_RX6_29 rfl e18 dX6_init_40 ?_
  refine q_aload_n 0 C dX6_init_43 rfl ?_
  refine q_bipush (v := (8 : Int32)) C dX6_init_44 (by decide) ?_
  obtain ⟨M19, e20, h⟩ := bindE h
  refine q_newI C ar_int e20 dX6_init_46 ?_
  obtain ⟨M21, e22, h⟩ := bindE h
  refine q_putF hnm rfl rfl C fp_RX6_32 rfl e22 dX6_init_48 ?_
  refine q_aload_n 0 C dX6_init_51 rfl ?_
  refine q_bipush (v := (8 : Int32)) C dX6_init_52 (by decide) ?_
  obtain ⟨M23, e24, h⟩ := bindE h
  refine q_newI C ar_int e24 dX6_init_54 ?_
  obtain ⟨M25, e26, h⟩ := bindE h
  refine q_putF hnm rfl rfl C fp_RX6_35 rfl e26 dX6_init_56 ?_
  refine q_aload_n 0 C dX6_init_59 rfl ?_
  refine q_bipush (v := (8 : Int32)) C dX6_init_60 (by decide) ?_
  obtain ⟨M27, e28, h⟩ := bindE h
  refine q_newI C ar_int e28 dX6_init_62 ?_
  obtain ⟨M29, e30, h⟩ := bindE h
  refine q_putF hnm rfl rfl C fp_RX6_38 rfl e30 dX6_init_64 ?_
  refine q_aload_n 0 C dX6_init_67 rfl ?_
  obtain ⟨v31, e32, h⟩ := bindE h
  refine q_getP C fl_RX6_29 rfl e32 dX6_init_68 ?_
  refine q_iconst (v := (-1 : Int32)) C dX6_init_71 (by decide) ?_
  obtain ⟨M34, e33, h⟩ := bindE h
  refine q_callS (v := none) [.ref v31, .int (-1 : Int32)] C hRO lk_RX6_41 sk_J7_fill_53178 rfl rfl (Nat.le_of_ble_eq_true rfl) (by decide) (by decide) dX6_init_72 (k_J7_fill_53178 X.1.2.1 hl X.2.2.1 v31 (-1 : Int32) M29 _ e33) ?_
  refine q_aload_n 0 C dX6_init_75 rfl ?_
  obtain ⟨v36, e37, h⟩ := bindE h
  refine q_getP C fl_RX6_35 rfl e37 dX6_init_76 ?_
  refine q_iconst (v := (-1 : Int32)) C dX6_init_79 (by decide) ?_
  obtain ⟨M39, e38, h⟩ := bindE h
  refine q_callS (v := none) [.ref v36, .int (-1 : Int32)] C hRO lk_RX6_41 sk_J7_fill_53178 rfl rfl (Nat.le_of_ble_eq_true rfl) (by decide) (by decide) dX6_init_80 (k_J7_fill_53178 X.1.2.1 hl X.2.2.1 v36 (-1 : Int32) M34 _ e38) ?_
  cases h
  exact q_vret C kf dX6_init_83
theorem k_X6_init (l : Launch) (hl : l.stackTraces = false) (G : GG) (l0 : Nat) (M : Mem) (x : Mem) (h : F_X6_init l0 M = some x) : Ct l G yX6_init (.code yX6_init cX6_init 1 none) 8 163 [.ref l0] M (rs_mV x) (ms_mV x) := by
  refine Ct_of (by decide +kernel) (Nat.le_of_ble_eq_true rfl) fun X e1 e2 e3 C FN hnm => ?_
  subst e1; subst e2
  show wq X 1 0 [(0, .ref l0)] [] M
  exact w_X6_init C FN.2.2.2 hl hnm l0 M h FN
/-! X7_init -/
set_option maxRecDepth 100000 in
set_option maxHeartbeats 4000000 in
theorem w_X7_init {X : CX} {y : Mem} (C : CK X cX7_init 1 RX7 7 140) (hRO : RO X.2.2.1 X.1.2.2.2.2.1 X.1.2.2.2.2.1.heap) (hl : X.1.2.1.stackTraces = false) (hnm : X.2.1.2.2.1.name = "<init>") (l0 : Nat) (M : Mem) (h : F_X7_init l0 M = some y) (kf : FIN X none (rs_mV y) (ms_mV y)) : wq X 1 0 [(0, .ref l0)] [] M := by
  unfold F_X7_init at h
  refine q_aload_n 0 C dX7_init_0 rfl ?_
  refine q_objInit C ml_RX7_3 oi_1 oi_2 (by decide) (Nat.le_of_ble_eq_true rfl) dX7_init_1 ?_
  refine q_aload_n 0 C dX7_init_4 rfl ?_
  refine q_bipush (v := (8 : Int32)) C dX7_init_5 (by decide) ?_
  obtain ⟨M1, e2, h⟩ := bindE h
  refine q_newI C ar_int e2 dX7_init_7 ?_
  obtain ⟨M3, e4, h⟩ := bindE h
  refine q_putF hnm rfl rfl C fp_RX7_9 rfl e4 dX7_init_9 ?_
  refine q_aload_n 0 C dX7_init_12 rfl ?_
  refine q_bipush (v := (8 : Int32)) C dX7_init_13 (by decide) ?_
  obtain ⟨M5, e6, h⟩ := bindE h
  refine q_newI C ar_int e6 dX7_init_15 ?_
  obtain ⟨M7, e8, h⟩ := bindE h
  refine q_putF hnm rfl rfl C fp_RX7_15 rfl e8 dX7_init_17 ?_
  refine q_aload_n 0 C dX7_init_20 rfl ?_
  refine q_bipush (v := (8 : Int32)) C dX7_init_21 (by decide) ?_
  obtain ⟨M9, e10, h⟩ := bindE h
  refine q_newI C ar_int e10 dX7_init_23 ?_
  obtain ⟨M11, e12, h⟩ := bindE h
  refine q_putF hnm rfl rfl C fp_RX7_18 rfl e12 dX7_init_25 ?_
  cases h
  exact q_vret C kf dX7_init_28
theorem k_X7_init (l : Launch) (hl : l.stackTraces = false) (G : GG) (l0 : Nat) (M : Mem) (x : Mem) (h : F_X7_init l0 M = some x) : Ct l G yX7_init (.code yX7_init cX7_init 1 none) 7 140 [.ref l0] M (rs_mV x) (ms_mV x) := by
  refine Ct_of (by decide +kernel) (Nat.le_of_ble_eq_true rfl) fun X e1 e2 e3 C FN hnm => ?_
  subst e1; subst e2
  show wq X 1 0 [(0, .ref l0)] [] M
  exact w_X7_init C FN.2.2.2 hl hnm l0 M h FN
/-! X2_dampOn -/
set_option maxRecDepth 100000 in
set_option maxHeartbeats 4000000 in
theorem w_X2_dampOn {X : CX} {y : Int32} (C : CK X cX2_dampOn 2 RX2 8 162) (hRO : RO X.2.2.1 X.1.2.2.2.2.1 X.1.2.2.2.2.1.heap) (hl : X.1.2.1.stackTraces = false) (l0 : Nat) (l1 : Int32) (M : Mem) (h : F_X2_dampOn l0 l1 M = some y) (kf : FIN X (some .int) (rs_pI y) M) : wq X 2 0 [(0, .ref l0), (1, .int l1)] [] M := by
  unfold F_X2_dampOn at h
  refine q_aload_n 0 C dX2_dampOn_0 rfl ?_
  obtain ⟨v1, e2, h⟩ := bindE h
  refine q_getI C fl_RX2_18 rfl e2 dX2_dampOn_1 ?_
  refine q_if_le (tgt := 23) C dX2_dampOn_4 (by decide) (fun c3 => ?_) (fun c3 => ?_)
  · have h := ifT c3 h
    refine q_iconst (v := (3 : Int32)) C dX2_dampOn_23 (by decide) ?_
    cases h
    exact q_iret C kf dX2_dampOn_24
  · have h := ifF c3 h
    refine q_aload_n 0 C dX2_dampOn_7 rfl ?_
    obtain ⟨v4, e5, h⟩ := bindE h
    refine q_getP C fl_RX2_40 rfl e5 dX2_dampOn_8 ?_
    refine q_iload_n 1 C dX2_dampOn_11 rfl ?_
    refine q_aload_n 0 C dX2_dampOn_12 rfl ?_
    obtain ⟨v6, e7, h⟩ := bindE h
    refine q_getI C fl_RX2_18 rfl e7 dX2_dampOn_13 ?_
    obtain ⟨v9, e8, h⟩ := bindE h
    refine q_callS (v := some (.int v9)) [.int l1, .int v6] C hRO lk_RX2_100 sk_J9_floorMod_7cf53 rfl rfl (Nat.le_of_ble_eq_true rfl) (by decide) (by decide) dX2_dampOn_16 (k_J9_floorMod_7cf53 X.1.2.1 hl X.2.2.1 l1 v6 M _ e8) ?_
    obtain ⟨v10, e11, h⟩ := bindE h
    refine q_iaload C e11 dX2_dampOn_19 ?_
    refine q_goto (tgt := 24) C dX2_dampOn_20 (by decide) ?_
    cases h
    exact q_iret C kf dX2_dampOn_24
theorem k_X2_dampOn (l : Launch) (hl : l.stackTraces = false) (G : GG) (l0 : Nat) (l1 : Int32) (M : Mem) (x : Int32) (h : F_X2_dampOn l0 l1 M = some x) : Ct l G yX2_dampOn (.code yX2_dampOn cX2_dampOn 2 (some .int)) 8 162 [.ref l0, .int l1] M (rs_pI x) M := by
  refine Ct_of (by decide +kernel) (Nat.le_of_ble_eq_true rfl) fun X e1 e2 e3 C FN hnm => ?_
  subst e1; subst e2
  show wq X 2 0 [(0, .ref l0), (1, .int l1)] [] M
  exact w_X2_dampOn C FN.2.2.2 hl l0 l1 M h FN
/-! X2_dampOf -/
set_option maxRecDepth 100000 in
set_option maxHeartbeats 4000000 in
theorem w_X2_dampOf {X : CX} {y : Int32} (C : CK X cX2_dampOf 2 RX2 9 183) (hRO : RO X.2.2.1 X.1.2.2.2.2.1 X.1.2.2.2.2.1.heap) (hl : X.1.2.1.stackTraces = false) (l0 : Nat) (l1 : Nat) (M : Mem) (h : F_X2_dampOf l0 l1 M = some y) (kf : FIN X (some .int) (rs_pI y) M) : wq X 2 0 [(0, .ref l0), (1, .ref l1)] [] M := by
  unfold F_X2_dampOf at h
  refine q_aload_n 1 C dX2_dampOf_0 rfl ?_
  obtain ⟨v1, e2, h⟩ := bindE h
  refine q_getI C fl_RX2_63 rfl e2 dX2_dampOf_1 ?_
  refine q_if_eq (tgt := 12) C dX2_dampOf_4 (by decide) (fun c3 => ?_) (fun c3 => ?_)
  · have h := ifT c3 h
    refine q_aload_n 0 C dX2_dampOf_12 rfl ?_
    refine q_aload_n 1 C dX2_dampOf_13 rfl ?_
    obtain ⟨v4, e5, h⟩ := bindE h
    refine q_getI C fl_RX2_58 rfl e5 dX2_dampOf_14 ?_
    obtain ⟨e6, h⟩ := ckOE h
    obtain ⟨v8, e7, h⟩ := bindE h
    refine q_callV (v := some (.int v8)) [.int v4] C hRO lk_RX2_106 vk_X2_dampOn e6 rfl rfl rfl (Nat.le_of_ble_eq_true rfl) (by decide) (by decide) dX2_dampOf_17 (k_X2_dampOn X.1.2.1 hl X.2.2.1 l0 v4 M _ e7) ?_
    cases h
    exact q_iret C kf dX2_dampOf_20
  · have h := ifF c3 h
    refine q_bipush (v := (9 : Int32)) C dX2_dampOf_7 (by decide) ?_
    refine q_goto (tgt := 20) C dX2_dampOf_9 (by decide) ?_
    cases h
    exact q_iret C kf dX2_dampOf_20
theorem k_X2_dampOf (l : Launch) (hl : l.stackTraces = false) (G : GG) (l0 : Nat) (l1 : Nat) (M : Mem) (x : Int32) (h : F_X2_dampOf l0 l1 M = some x) : Ct l G yX2_dampOf (.code yX2_dampOf cX2_dampOf 2 (some .int)) 9 183 [.ref l0, .ref l1] M (rs_pI x) M := by
  refine Ct_of (by decide +kernel) (Nat.le_of_ble_eq_true rfl) fun X e1 e2 e3 C FN hnm => ?_
  subst e1; subst e2
  show wq X 2 0 [(0, .ref l0), (1, .ref l1)] [] M
  exact w_X2_dampOf C FN.2.2.2 hl l0 l1 M h FN
/-! X2_grow -/
set_option maxRecDepth 100000 in
set_option maxHeartbeats 4000000 in
theorem w_X2_grow {X : CX} {y : Mem} (C : CK X cX2_grow 3 RX2 7 140) (hRO : RO X.2.2.1 X.1.2.2.2.2.1 X.1.2.2.2.2.1.heap) (hl : X.1.2.1.stackTraces = false) (l0 : Nat) (l1 : Nat) (l2 : Int32) (M : Mem) (h : F_X2_grow l0 l1 l2 M = some y) (kf : FIN X none (rs_mV y) (ms_mV y)) : wq X 3 0 [(0, .ref l0), (1, .ref l1), (2, .int l2)] [] M := by
  unfold F_X2_grow at h
  refine q_aload_n 1 C dX2_grow_0 rfl ?_
  obtain ⟨v1, e2, h⟩ := bindE h
  refine q_getP C fl_RX2_95 rfl e2 dX2_grow_1 ?_
  refine q_iload_n 2 C dX2_grow_4 rfl ?_
  refine q_bipush (v := (99 : Int32)) C dX2_grow_5 (by decide) ?_
  refine q_aload_n 1 C dX2_grow_7 rfl ?_
  obtain ⟨v3, e4, h⟩ := bindE h
  refine q_getP C fl_RX2_95 rfl e4 dX2_grow_8 ?_
  refine q_iload_n 2 C dX2_grow_11 rfl ?_
  obtain ⟨v5, e6, h⟩ := bindE h
  refine q_iaload C e6 dX2_grow_12 ?_
  refine q_aload_n 0 C dX2_grow_13 rfl ?_
  obtain ⟨v7, e8, h⟩ := bindE h
  refine q_getP C fl_RX2_34 rfl e8 dX2_grow_14 ?_
  refine q_iload_n 2 C dX2_grow_17 rfl ?_
  obtain ⟨v9, e10, h⟩ := bindE h
  refine q_iaload C e10 dX2_grow_18 ?_
  refine q_iadd C dX2_grow_19 ?_
  refine q_mmin C ml_RX2_121 mm_min1 mm_3 mm_min4 (by decide) (Nat.le_of_ble_eq_true rfl) dX2_grow_20 ?_
  obtain ⟨M11, e12, h⟩ := bindE h
  refine q_iastore C e12 dX2_grow_23 ?_
  cases h
  exact q_vret C kf dX2_grow_24
theorem k_X2_grow (l : Launch) (hl : l.stackTraces = false) (G : GG) (l0 : Nat) (l1 : Nat) (l2 : Int32) (M : Mem) (x : Mem) (h : F_X2_grow l0 l1 l2 M = some x) : Ct l G yX2_grow (.code yX2_grow cX2_grow 3 none) 7 140 [.ref l0, .ref l1, .int l2] M (rs_mV x) (ms_mV x) := by
  refine Ct_of (by decide +kernel) (Nat.le_of_ble_eq_true rfl) fun X e1 e2 e3 C FN hnm => ?_
  subst e1; subst e2
  show wq X 3 0 [(0, .ref l0), (1, .ref l1), (2, .int l2)] [] M
  exact w_X2_grow C FN.2.2.2 hl l0 l1 l2 M h FN
/-! X2_tellFacts -/
set_option maxRecDepth 100000 in
set_option maxHeartbeats 4000000 in
theorem w_X2_tellFacts {X : CX} {y : Mem} (C : CK X cX2_tellFacts 5 RX2 7 140) (hRO : RO X.2.2.1 X.1.2.2.2.2.1 X.1.2.2.2.2.1.heap) (hl : X.1.2.1.stackTraces = false) (l0 : Nat) (l1 : Nat) (l2 : Int32) (l3 : Int32) (l4 : Int32) (M : Mem) (h : F_X2_tellFacts l0 l1 l2 l3 l4 M = some y) (kf : FIN X none (rs_mV y) (ms_mV y)) : wq X 5 0 [(0, .ref l0), (1, .ref l1), (2, .int l2), (3, .int l3), (4, .int l4)] [] M := by
  unfold F_X2_tellFacts at h
  refine q_aload_n 0 C dX2_tellFacts_0 rfl ?_
  obtain ⟨v1, e2, h⟩ := bindE h
  refine q_getP C fl_RX2_52 rfl e2 dX2_tellFacts_1 ?_
  refine q_iconst (v := (0 : Int32)) C dX2_tellFacts_4 (by decide) ?_
  refine q_aload_n 1 C dX2_tellFacts_5 rfl ?_
  obtain ⟨v3, e4, h⟩ := bindE h
  refine q_getP C fl_RX2_95 rfl e4 dX2_tellFacts_6 ?_
  refine q_iload_n 2 C dX2_tellFacts_9 rfl ?_
  obtain ⟨v5, e6, h⟩ := bindE h
  refine q_iaload C e6 dX2_tellFacts_10 ?_
  obtain ⟨M7, e8, h⟩ := bindE h
  refine q_iastore C e8 dX2_tellFacts_11 ?_
  refine q_aload_n 0 C dX2_tellFacts_12 rfl ?_
  obtain ⟨v9, e10, h⟩ := bindE h
  refine q_getP C fl_RX2_52 rfl e10 dX2_tellFacts_13 ?_
  refine q_iconst (v := (1 : Int32)) C dX2_tellFacts_16 (by decide) ?_
  refine q_aload_n 1 C dX2_tellFacts_17 rfl ?_
  obtain ⟨v11, e12, h⟩ := bindE h
  refine q_getP C fl_RX2_88 rfl e12 dX2_tellFacts_18 ?_
  refine q_iload_n 3 C dX2_tellFacts_21 rfl ?_
  obtain ⟨v13, e14, h⟩ := bindE h
  refine q_iaload C e14 dX2_tellFacts_22 ?_
  obtain ⟨M15, e16, h⟩ := bindE h
  refine q_iastore C e16 dX2_tellFacts_23 ?_
  refine q_aload_n 0 C dX2_tellFacts_24 rfl ?_
  obtain ⟨v17, e18, h⟩ := bindE h
  refine q_getP C fl_RX2_52 rfl e18 dX2_tellFacts_25 ?_
  refine q_iconst (v := (2 : Int32)) C dX2_tellFacts_28 (by decide) ?_
  refine q_aload_n 0 C dX2_tellFacts_29 rfl ?_
  obtain ⟨v19, e20, h⟩ := bindE h
  refine q_getP C fl_RX2_25 rfl e20 dX2_tellFacts_30 ?_
  refine q_iload_n 3 C dX2_tellFacts_33 rfl ?_
  obtain ⟨v21, e22, h⟩ := bindE h
  refine q_iaload C e22 dX2_tellFacts_34 ?_
  obtain ⟨M23, e24, h⟩ := bindE h
  refine q_iastore C e24 dX2_tellFacts_35 ?_
  refine q_aload_n 0 C dX2_tellFacts_36 rfl ?_
  obtain ⟨v25, e26, h⟩ := bindE h
  refine q_getP C fl_RX2_52 rfl e26 dX2_tellFacts_37 ?_
  refine q_iconst (v := (3 : Int32)) C dX2_tellFacts_40 (by decide) ?_
  refine q_aload_n 1 C dX2_tellFacts_41 rfl ?_
  obtain ⟨v27, e28, h⟩ := bindE h
  refine q_getP C fl_RX2_70 rfl e28 dX2_tellFacts_42 ?_
  refine q_iload_n 3 C dX2_tellFacts_45 rfl ?_
  obtain ⟨v29, e30, h⟩ := bindE h
  refine q_iaload C e30 dX2_tellFacts_46 ?_
  obtain ⟨M31, e32, h⟩ := bindE h
  refine q_iastore C e32 dX2_tellFacts_47 ?_
  refine q_aload_n 0 C dX2_tellFacts_48 rfl ?_
  obtain ⟨v33, e34, h⟩ := bindE h
  refine q_getP C fl_RX2_52 rfl e34 dX2_tellFacts_49 ?_
  refine q_iconst (v := (4 : Int32)) C dX2_tellFacts_52 (by decide) ?_
  refine q_iload 4 C dX2_tellFacts_53 rfl ?_
  obtain ⟨M35, e36, h⟩ := bindE h
  refine q_iastore C e36 dX2_tellFacts_55 ?_
  refine q_aload_n 0 C dX2_tellFacts_56 rfl ?_
  obtain ⟨v37, e38, h⟩ := bindE h
  refine q_getP C fl_RX2_52 rfl e38 dX2_tellFacts_57 ?_
  refine q_iconst (v := (5 : Int32)) C dX2_tellFacts_60 (by decide) ?_
  refine q_aload_n 1 C dX2_tellFacts_61 rfl ?_
  obtain ⟨v39, e40, h⟩ := bindE h
  refine q_getI C fl_RX2_58 rfl e40 dX2_tellFacts_62 ?_
  obtain ⟨M41, e42, h⟩ := bindE h
  refine q_iastore C e42 dX2_tellFacts_65 ?_
  refine q_aload_n 0 C dX2_tellFacts_66 rfl ?_
  obtain ⟨v43, e44, h⟩ := bindE h
  refine q_getP C fl_RX2_52 rfl e44 dX2_tellFacts_67 ?_
  refine q_bipush (v := (6 : Int32)) C dX2_tellFacts_70 (by decide) ?_
  refine q_iconst (v := (0 : Int32)) C dX2_tellFacts_72 (by decide) ?_
  refine q_aload_n 1 C dX2_tellFacts_73 rfl ?_
  obtain ⟨v45, e46, h⟩ := bindE h
  refine q_getP C fl_RX2_95 rfl e46 dX2_tellFacts_74 ?_
  refine q_iload_n 2 C dX2_tellFacts_77 rfl ?_
  obtain ⟨v47, e48, h⟩ := bindE h
  refine q_iaload C e48 dX2_tellFacts_78 ?_
  refine q_aload_n 1 C dX2_tellFacts_79 rfl ?_
  obtain ⟨v49, e50, h⟩ := bindE h
  refine q_getP C fl_RX2_88 rfl e50 dX2_tellFacts_80 ?_
  refine q_iload_n 3 C dX2_tellFacts_83 rfl ?_
  obtain ⟨v51, e52, h⟩ := bindE h
  refine q_iaload C e52 dX2_tellFacts_84 ?_
  refine q_isub C dX2_tellFacts_85 ?_
  refine q_mmax C ml_RX2_118 mm_max1 mm_3 mm_max4 (by decide) (Nat.le_of_ble_eq_true rfl) dX2_tellFacts_86 ?_
  obtain ⟨M53, e54, h⟩ := bindE h
  refine q_iastore C e54 dX2_tellFacts_89 ?_
  cases h
  exact q_vret C kf dX2_tellFacts_90
theorem k_X2_tellFacts (l : Launch) (hl : l.stackTraces = false) (G : GG) (l0 : Nat) (l1 : Nat) (l2 : Int32) (l3 : Int32) (l4 : Int32) (M : Mem) (x : Mem) (h : F_X2_tellFacts l0 l1 l2 l3 l4 M = some x) : Ct l G yX2_tellFacts (.code yX2_tellFacts cX2_tellFacts 5 none) 7 140 [.ref l0, .ref l1, .int l2, .int l3, .int l4] M (rs_mV x) (ms_mV x) := by
  refine Ct_of (by decide +kernel) (Nat.le_of_ble_eq_true rfl) fun X e1 e2 e3 C FN hnm => ?_
  subst e1; subst e2
  show wq X 5 0 [(0, .ref l0), (1, .ref l1), (2, .int l2), (3, .int l3), (4, .int l4)] [] M
  exact w_X2_tellFacts C FN.2.2.2 hl l0 l1 l2 l3 l4 M h FN
/-! X4_join -/
set_option maxRecDepth 100000 in
set_option maxHeartbeats 4000000 in
theorem w_X4_join {X : CX} {y : Int32} (C : CK X cX4_join 3 RX4 7 140) (hRO : RO X.2.2.1 X.1.2.2.2.2.1 X.1.2.2.2.2.1.heap) (hl : X.1.2.1.stackTraces = false) (l0 : Int32) (l1 : Int32) (l2 : Int32) (M : Mem) (h : F_X4_join l0 l1 l2 M = some y) (kf : FIN X (some .int) (rs_pI y) M) : wq X 3 0 [(0, .int l0), (1, .int l1), (2, .int l2)] [] M := by
  unfold F_X4_join at h
  refine q_iload_n 0 C dX4_join_0 rfl ?_
  by_cases c1 : l0 = (-15 : Int32)
  · have h := ifT c1 h
    refine q_tableIn (off := 95) (tgt := 96) C dX4_join_1 (by rw [c1]; decide) (by rw [c1]; decide) (by rw [c1]; rfl) (by decide) ?_
    refine q_iload_n 1 C dX4_join_96 rfl ?_
    refine q_iload_n 2 C dX4_join_97 rfl ?_
    refine q_icmp_ge (tgt := 105) C dX4_join_98 (by decide) (fun c2 => ?_) (fun c2 => ?_)
    · have h := ifT c2 h
      refine q_iconst (v := (0 : Int32)) C dX4_join_105 (by decide) ?_
      cases h
      exact q_iret C kf dX4_join_106
    · have h := ifF c2 h
      refine q_iconst (v := (1 : Int32)) C dX4_join_101 (by decide) ?_
      refine q_goto (tgt := 106) C dX4_join_102 (by decide) ?_
      cases h
      exact q_iret C kf dX4_join_106
  have h := ifF c1 h
  by_cases c3 : l0 = (-14 : Int32)
  · have h := ifT c3 h
    refine q_tableIn (off := 83) (tgt := 84) C dX4_join_1 (by rw [c3]; decide) (by rw [c3]; decide) (by rw [c3]; rfl) (by decide) ?_
    refine q_iload_n 2 C dX4_join_84 rfl ?_
    refine q_if_ne (tgt := 92) C dX4_join_85 (by decide) (fun c4 => ?_) (fun c4 => ?_)
    · have h := ifF c4 h
      refine q_iload_n 1 C dX4_join_92 rfl ?_
      refine q_iload_n 2 C dX4_join_93 rfl ?_
      have c5 : ¬ l2 = 0 := fun c => nomatch ifT c h
      have h := ifF c5 h
      refine q_idiv C c5 dX4_join_94 ?_
      cases h
      exact q_iret C kf dX4_join_95
    · have h := ifT c4 h
      refine q_iconst (v := (0 : Int32)) C dX4_join_88 (by decide) ?_
      refine q_goto (tgt := 95) C dX4_join_89 (by decide) ?_
      cases h
      exact q_iret C kf dX4_join_95
  have h := ifF c3 h
  by_cases c6 : l0 = (-13 : Int32)
  · have h := ifT c6 h
    refine q_tableIn (off := 79) (tgt := 80) C dX4_join_1 (by rw [c6]; decide) (by rw [c6]; decide) (by rw [c6]; rfl) (by decide) ?_
    refine q_iload_n 1 C dX4_join_80 rfl ?_
    refine q_iload_n 2 C dX4_join_81 rfl ?_
    refine q_imul C dX4_join_82 ?_
    cases h
    exact q_iret C kf dX4_join_83
  have h := ifF c6 h
  by_cases c7 : l0 = (-12 : Int32)
  · have h := ifT c7 h
    refine q_tableIn (off := 75) (tgt := 76) C dX4_join_1 (by rw [c7]; decide) (by rw [c7]; decide) (by rw [c7]; rfl) (by decide) ?_
    refine q_iload_n 1 C dX4_join_76 rfl ?_
    refine q_iload_n 2 C dX4_join_77 rfl ?_
    refine q_isub C dX4_join_78 ?_
    cases h
    exact q_iret C kf dX4_join_79
  have h := ifF c7 h
  by_cases c8 : l0 = (-11 : Int32)
  · have h := ifT c8 h
    refine q_tableIn (off := 71) (tgt := 72) C dX4_join_1 (by rw [c8]; decide) (by rw [c8]; decide) (by rw [c8]; rfl) (by decide) ?_
    refine q_iload_n 1 C dX4_join_72 rfl ?_
    refine q_iload_n 2 C dX4_join_73 rfl ?_
    refine q_iadd C dX4_join_74 ?_
    cases h
    exact q_iret C kf dX4_join_75
  have h := ifF c8 h
  by_cases c9 : l0 = (-10 : Int32)
  · have h := ifT c9 h
    refine q_tableIn (off := 57) (tgt := 58) C dX4_join_1 (by rw [c9]; decide) (by rw [c9]; decide) (by rw [c9]; rfl) (by decide) ?_
    refine q_iload_n 1 C dX4_join_58 rfl ?_
    refine q_if_ne (tgt := 66) C dX4_join_59 (by decide) (fun c10 => ?_) (fun c10 => ?_)
    · have h := ifF c10 h
      refine q_iconst (v := (1 : Int32)) C dX4_join_66 (by decide) ?_
      refine q_goto (tgt := 71) C dX4_join_67 (by decide) ?_
      cases h
      exact q_iret C kf dX4_join_71
    · have h := ifT c10 h
      refine q_iload_n 2 C dX4_join_62 rfl ?_
      refine q_if_eq (tgt := 70) C dX4_join_63 (by decide) (fun c11 => ?_) (fun c11 => ?_)
      · have h := ifT c11 h
        refine q_iconst (v := (0 : Int32)) C dX4_join_70 (by decide) ?_
        cases h
        exact q_iret C kf dX4_join_71
      · have h := ifF c11 h
        refine q_iconst (v := (1 : Int32)) C dX4_join_66 (by decide) ?_
        refine q_goto (tgt := 71) C dX4_join_67 (by decide) ?_
        cases h
        exact q_iret C kf dX4_join_71
  have h := ifF c9 h
  by_cases c12 : l0 = (-9 : Int32)
  · have h := ifT c12 h
    refine q_tableIn (off := 43) (tgt := 44) C dX4_join_1 (by rw [c12]; decide) (by rw [c12]; decide) (by rw [c12]; rfl) (by decide) ?_
    refine q_iload_n 1 C dX4_join_44 rfl ?_
    refine q_if_eq (tgt := 56) C dX4_join_45 (by decide) (fun c13 => ?_) (fun c13 => ?_)
    · have h := ifT c13 h
      refine q_iconst (v := (0 : Int32)) C dX4_join_56 (by decide) ?_
      cases h
      exact q_iret C kf dX4_join_57
    · have h := ifF c13 h
      refine q_iload_n 2 C dX4_join_48 rfl ?_
      refine q_if_eq (tgt := 56) C dX4_join_49 (by decide) (fun c14 => ?_) (fun c14 => ?_)
      · have h := ifT c14 h
        refine q_iconst (v := (0 : Int32)) C dX4_join_56 (by decide) ?_
        cases h
        exact q_iret C kf dX4_join_57
      · have h := ifF c14 h
        refine q_iconst (v := (1 : Int32)) C dX4_join_52 (by decide) ?_
        refine q_goto (tgt := 57) C dX4_join_53 (by decide) ?_
        cases h
        exact q_iret C kf dX4_join_57
  have h := ifF c12 h
  refine q_tableOut (tgt := 107) C dX4_join_1 (by have z0 := neI c1; have z1 := neI c3; have z2 := neI c6; have z3 := neI c7; have z4 := neI c8; have z5 := neI c9; have z6 := neI c12; simp only [Int32.reduceToInt] at *; omega) (by decide) ?_
  refine q_iload_n 1 C dX4_join_107 rfl ?_
  refine q_iload_n 2 C dX4_join_108 rfl ?_
  refine q_icmp_ne (tgt := 116) C dX4_join_109 (by decide) (fun c15 => ?_) (fun c15 => ?_)
  · have h := ifF c15 h
    refine q_iconst (v := (0 : Int32)) C dX4_join_116 (by decide) ?_
    cases h
    exact q_iret C kf dX4_join_117
  · have h := ifT c15 h
    refine q_iconst (v := (1 : Int32)) C dX4_join_112 (by decide) ?_
    refine q_goto (tgt := 117) C dX4_join_113 (by decide) ?_
    cases h
    exact q_iret C kf dX4_join_117
theorem k_X4_join (l : Launch) (hl : l.stackTraces = false) (G : GG) (l0 : Int32) (l1 : Int32) (l2 : Int32) (M : Mem) (x : Int32) (h : F_X4_join l0 l1 l2 M = some x) : Ct l G yX4_join (.code yX4_join cX4_join 3 (some .int)) 7 140 [.int l0, .int l1, .int l2] M (rs_pI x) M := by
  refine Ct_of (by decide +kernel) (Nat.le_of_ble_eq_true rfl) fun X e1 e2 e3 C FN hnm => ?_
  subst e1; subst e2
  show wq X 3 0 [(0, .int l0), (1, .int l1), (2, .int l2)] [] M
  exact w_X4_join C FN.2.2.2 hl l0 l1 l2 M h FN
/-! X4_value -/
set_option maxRecDepth 100000 in
set_option maxHeartbeats 4000000 in
theorem w_X4_value_s5 {X : CX} {y : (Int32 × Int32 × Mem) ⊕ (Mem)} (C : CK X cX4_value 6 RX4 8 162) (hRO : RO X.2.2.1 X.1.2.2.2.2.1 X.1.2.2.2.2.1.heap) (hl : X.1.2.1.stackTraces = false) (l0 : Nat) (l1 : Nat) (l2 : Nat) (l3 : Int32) (l4 : Int32) (M : Mem) (h : F_X4_value_s5 l0 l1 l2 l3 l4 M = some y) (kc : ∀ s' : Int32 × Int32 × Mem, y = .inl s' → wq X 6 5 [(0, .ref l0), (1, .ref l1), (2, .ref l2), (3, .int (s'.1)), (4, .int (s'.2.1))] [] s'.2.2) (kx : ∀ e' : Mem, y = (.inr e') → wq X 6 126 [(2, .ref l2)] [] e') : wq X 6 5 [(0, .ref l0), (1, .ref l1), (2, .ref l2), (3, .int l3), (4, .int l4)] [] M := by
  unfold F_X4_value_s5 at h
  refine q_iload 4 C dX4_value_5 rfl ?_
  refine q_aload_n 0 C dX4_value_7 rfl ?_
  obtain ⟨v1, e2, h⟩ := bindE h
  refine q_getP C fl_RX4_7 rfl e2 dX4_value_8 ?_
  obtain ⟨v3, e4, h⟩ := bindE h
  refine q_alen 0 100 C rfl (by decide) (by decide) e4 dX4_value_11 ?_
  refine q_icmp_ge (tgt := 126) C dX4_value_12 (by decide) (fun c5 => ?_) (fun c5 => ?_)
  · have h := ifT c5 h
    exact q_sub (lv' := [(2, .ref l2)]) [2] rfl (kx M (someI h))
  · have h := ifF c5 h
    refine q_aload_n 0 C dX4_value_15 rfl ?_
    obtain ⟨v6, e7, h⟩ := bindE h
    refine q_getP C fl_RX4_7 rfl e7 dX4_value_16 ?_
    refine q_iload 4 C dX4_value_19 rfl ?_
    obtain ⟨v8, e9, h⟩ := bindE h
    refine q_iaload C e9 dX4_value_21 ?_
    refine q_istore (i := 5) (lv' := [(5, .int v8), (0, .ref l0), (1, .ref l1), (2, .ref l2), (3, .int l3), (4, .int l4)]) C dX4_value_22 (by decide) rfl ?_
    refine q_iload 0 C dX4_value_24 rfl ?_
    refine q_bipush (v := (-7 : Int32)) C dX4_value_26 (by decide) ?_
    refine q_icmp_lt (tgt := 62) C dX4_value_28 (by decide) (fun c10 => ?_) (fun c10 => ?_)
    · have h := ifT c10 h
      refine q_iload 0 C dX4_value_62 rfl ?_
      refine q_bipush (v := (-8 : Int32)) C dX4_value_64 (by decide) ?_
      refine q_icmp_ne (tgt := 94) C dX4_value_66 (by decide) (fun c11 => ?_) (fun c11 => ?_)
      · have h := ifF c11 h
        refine q_iload_n 4 C dX4_value_94 rfl ?_
        refine q_iconst (v := (1 : Int32)) C dX4_value_95 (by decide) ?_
        refine q_icmp_le (tgt := 120) C dX4_value_96 (by decide) (fun c12 => ?_) (fun c12 => ?_)
        · have h := ifT c12 h
          refine q_iinc 5 (v := (l4 + (1 : Int32))) (lv' := [(4, .int (l4 + (1 : Int32))), (5, .int v8), (0, .ref l0), (1, .ref l1), (2, .ref l2), (3, .int l3)]) C dX4_value_120 rfl rfl (by decide) rfl ?_
          refine q_goto (tgt := 5) C dX4_value_123 (by decide) ?_
          exact q_sub (lv' := [(0, .ref l0), (1, .ref l1), (2, .ref l2), (3, .int l3), (4, .int (l4 + (1 : Int32)))]) [2, 3, 4, 5, 0] rfl (kc (l3, (l4 + (1 : Int32)), M) (someI h))
        · have h := ifF c12 h
          refine q_iinc 4 (v := (l3 + (-1 : Int32))) (lv' := [(3, .int (l3 + (-1 : Int32))), (5, .int v8), (0, .ref l0), (1, .ref l1), (2, .ref l2), (4, .int l4)]) C dX4_value_99 rfl rfl (by decide) rfl ?_
          refine q_aload_n 4 C dX4_value_102 rfl ?_
          refine q_iload_n 0 C dX4_value_103 rfl ?_
          refine q_iconst (v := (1 : Int32)) C dX4_value_104 (by decide) ?_
          refine q_isub C dX4_value_105 ?_
          refine q_iload 1 C dX4_value_106 rfl ?_
          refine q_aload_n 4 C dX4_value_108 rfl ?_
          refine q_iload_n 0 C dX4_value_109 rfl ?_
          refine q_iconst (v := (1 : Int32)) C dX4_value_110 (by decide) ?_
          refine q_isub C dX4_value_111 ?_
          obtain ⟨v13, e14, h⟩ := bindE h
          refine q_iaload C e14 dX4_value_112 ?_
          refine q_aload_n 4 C dX4_value_113 rfl ?_
          refine q_iload_n 0 C dX4_value_114 rfl ?_
          obtain ⟨v15, e16, h⟩ := bindE h
          refine q_iaload C e16 dX4_value_115 ?_
          obtain ⟨v18, e17, h⟩ := bindE h
          refine q_callS (v := some (.int v18)) [.int v8, .int v13, .int v15] C hRO lk_RX4_13 sk_X4_join rfl rfl (Nat.le_of_ble_eq_true rfl) (by decide) (by decide) dX4_value_116 (k_X4_join X.1.2.1 hl X.2.2.1 v8 v13 v15 M _ e17) ?_
          obtain ⟨M19, e20, h⟩ := bindE h
          refine q_iastore C e20 dX4_value_119 ?_
          refine q_iinc 5 (v := (l4 + (1 : Int32))) (lv' := [(4, .int (l4 + (1 : Int32))), (3, .int (l3 + (-1 : Int32))), (5, .int v8), (0, .ref l0), (1, .ref l1), (2, .ref l2)]) C dX4_value_120 rfl rfl (by decide) rfl ?_
          refine q_goto (tgt := 5) C dX4_value_123 (by decide) ?_
          exact q_sub (lv' := [(0, .ref l0), (1, .ref l1), (2, .ref l2), (3, .int (l3 + (-1 : Int32))), (4, .int (l4 + (1 : Int32)))]) [3, 4, 5, 1, 0] rfl (kc ((l3 + (-1 : Int32)), (l4 + (1 : Int32)), M19) (someI h))
      · have h := ifT c11 h
        refine q_iload_n 4 C dX4_value_69 rfl ?_
        refine q_if_le (tgt := 120) C dX4_value_70 (by decide) (fun c21 => ?_) (fun c21 => ?_)
        · have h := ifT c21 h
          refine q_iinc 5 (v := (l4 + (1 : Int32))) (lv' := [(4, .int (l4 + (1 : Int32))), (5, .int v8), (0, .ref l0), (1, .ref l1), (2, .ref l2), (3, .int l3)]) C dX4_value_120 rfl rfl (by decide) rfl ?_
          refine q_goto (tgt := 5) C dX4_value_123 (by decide) ?_
          exact q_sub (lv' := [(0, .ref l0), (1, .ref l1), (2, .ref l2), (3, .int l3), (4, .int (l4 + (1 : Int32)))]) [2, 3, 4, 5, 0] rfl (kc (l3, (l4 + (1 : Int32)), M) (someI h))
        · have h := ifF c21 h
          refine q_aload_n 3 C dX4_value_73 rfl ?_
          refine q_iload_n 4 C dX4_value_74 rfl ?_
          refine q_iconst (v := (1 : Int32)) C dX4_value_75 (by decide) ?_
          refine q_isub C dX4_value_76 ?_
          refine q_aload_n 3 C dX4_value_77 rfl ?_
          refine q_iload_n 4 C dX4_value_78 rfl ?_
          refine q_iconst (v := (1 : Int32)) C dX4_value_79 (by decide) ?_
          refine q_isub C dX4_value_80 ?_
          obtain ⟨v22, e23, h⟩ := bindE h
          refine q_iaload C e23 dX4_value_81 ?_
          refine q_if_ne (tgt := 89) C dX4_value_82 (by decide) (fun c24 => ?_) (fun c24 => ?_)
          · have h := ifF c24 h
            refine q_iconst (v := (0 : Int32)) C dX4_value_89 (by decide) ?_
            obtain ⟨M25, e26, h⟩ := bindE h
            refine q_iastore C e26 dX4_value_90 ?_
            refine q_goto (tgt := 120) C dX4_value_91 (by decide) ?_
            refine q_iinc 5 (v := (l4 + (1 : Int32))) (lv' := [(4, .int (l4 + (1 : Int32))), (5, .int v8), (0, .ref l0), (1, .ref l1), (2, .ref l2), (3, .int l3)]) C dX4_value_120 rfl rfl (by decide) rfl ?_
            refine q_goto (tgt := 5) C dX4_value_123 (by decide) ?_
            exact q_sub (lv' := [(0, .ref l0), (1, .ref l1), (2, .ref l2), (3, .int l3), (4, .int (l4 + (1 : Int32)))]) [2, 3, 4, 5, 0] rfl (kc (l3, (l4 + (1 : Int32)), M25) (someI h))
          · have h := ifT c24 h
            refine q_iconst (v := (1 : Int32)) C dX4_value_85 (by decide) ?_
            refine q_goto (tgt := 90) C dX4_value_86 (by decide) ?_
            obtain ⟨M27, e28, h⟩ := bindE h
            refine q_iastore C e28 dX4_value_90 ?_
            refine q_goto (tgt := 120) C dX4_value_91 (by decide) ?_
            refine q_iinc 5 (v := (l4 + (1 : Int32))) (lv' := [(4, .int (l4 + (1 : Int32))), (5, .int v8), (0, .ref l0), (1, .ref l1), (2, .ref l2), (3, .int l3)]) C dX4_value_120 rfl rfl (by decide) rfl ?_
            refine q_goto (tgt := 5) C dX4_value_123 (by decide) ?_
            exact q_sub (lv' := [(0, .ref l0), (1, .ref l1), (2, .ref l2), (3, .int l3), (4, .int (l4 + (1 : Int32)))]) [2, 3, 4, 5, 0] rfl (kc (l3, (l4 + (1 : Int32)), M27) (someI h))
    · have h := ifF c10 h
      refine q_iload_n 4 C dX4_value_31 rfl ?_
      refine q_aload_n 3 C dX4_value_32 rfl ?_
      obtain ⟨v29, e30, h⟩ := bindE h
      refine q_alen 0 100 C rfl (by decide) (by decide) e30 dX4_value_33 ?_
      refine q_icmp_ge (tgt := 120) C dX4_value_34 (by decide) (fun c31 => ?_) (fun c31 => ?_)
      · have h := ifT c31 h
        refine q_iinc 5 (v := (l4 + (1 : Int32))) (lv' := [(4, .int (l4 + (1 : Int32))), (5, .int v8), (0, .ref l0), (1, .ref l1), (2, .ref l2), (3, .int l3)]) C dX4_value_120 rfl rfl (by decide) rfl ?_
        refine q_goto (tgt := 5) C dX4_value_123 (by decide) ?_
        exact q_sub (lv' := [(0, .ref l0), (1, .ref l1), (2, .ref l2), (3, .int l3), (4, .int (l4 + (1 : Int32)))]) [2, 3, 4, 5, 0] rfl (kc (l3, (l4 + (1 : Int32)), M) (someI h))
      · have h := ifF c31 h
        refine q_aload_n 3 C dX4_value_37 rfl ?_
        refine q_iload_n 4 C dX4_value_38 rfl ?_
        refine q_iload 0 C dX4_value_39 rfl ?_
        refine q_if_lt (tgt := 49) C dX4_value_41 (by decide) (fun c32 => ?_) (fun c32 => ?_)
        · have h := ifT c32 h
          refine q_aload_n 2 C dX4_value_49 rfl ?_
          refine q_iconst (v := (-1 : Int32)) C dX4_value_50 (by decide) ?_
          refine q_iload 0 C dX4_value_51 rfl ?_
          refine q_isub C dX4_value_53 ?_
          obtain ⟨v33, e34, h⟩ := bindE h
          refine q_iaload C e34 dX4_value_54 ?_
          obtain ⟨M35, e36, h⟩ := bindE h
          refine q_iastore C e36 dX4_value_55 ?_
          refine q_iinc 4 (v := (l3 + (1 : Int32))) (lv' := [(3, .int (l3 + (1 : Int32))), (5, .int v8), (0, .ref l0), (1, .ref l1), (2, .ref l2), (4, .int l4)]) C dX4_value_56 rfl rfl (by decide) rfl ?_
          refine q_goto (tgt := 120) C dX4_value_59 (by decide) ?_
          refine q_iinc 5 (v := (l4 + (1 : Int32))) (lv' := [(4, .int (l4 + (1 : Int32))), (3, .int (l3 + (1 : Int32))), (5, .int v8), (0, .ref l0), (1, .ref l1), (2, .ref l2)]) C dX4_value_120 rfl rfl (by decide) rfl ?_
          refine q_goto (tgt := 5) C dX4_value_123 (by decide) ?_
          exact q_sub (lv' := [(0, .ref l0), (1, .ref l1), (2, .ref l2), (3, .int (l3 + (1 : Int32))), (4, .int (l4 + (1 : Int32)))]) [3, 4, 5, 1, 0] rfl (kc ((l3 + (1 : Int32)), (l4 + (1 : Int32)), M35) (someI h))
        · have h := ifF c32 h
          refine q_iload 0 C dX4_value_44 rfl ?_
          refine q_goto (tgt := 55) C dX4_value_46 (by decide) ?_
          obtain ⟨M37, e38, h⟩ := bindE h
          refine q_iastore C e38 dX4_value_55 ?_
          refine q_iinc 4 (v := (l3 + (1 : Int32))) (lv' := [(3, .int (l3 + (1 : Int32))), (5, .int v8), (0, .ref l0), (1, .ref l1), (2, .ref l2), (4, .int l4)]) C dX4_value_56 rfl rfl (by decide) rfl ?_
          refine q_goto (tgt := 120) C dX4_value_59 (by decide) ?_
          refine q_iinc 5 (v := (l4 + (1 : Int32))) (lv' := [(4, .int (l4 + (1 : Int32))), (3, .int (l3 + (1 : Int32))), (5, .int v8), (0, .ref l0), (1, .ref l1), (2, .ref l2)]) C dX4_value_120 rfl rfl (by decide) rfl ?_
          refine q_goto (tgt := 5) C dX4_value_123 (by decide) ?_
          exact q_sub (lv' := [(0, .ref l0), (1, .ref l1), (2, .ref l2), (3, .int (l3 + (1 : Int32))), (4, .int (l4 + (1 : Int32)))]) [3, 4, 5, 1, 0] rfl (kc ((l3 + (1 : Int32)), (l4 + (1 : Int32)), M37) (someI h))
theorem w_X4_value_l5 {X : CX} {r : Mem} (C : CK X cX4_value 6 RX4 8 162) (hRO : RO X.2.2.1 X.1.2.2.2.2.1 X.1.2.2.2.2.1.heap) (hl : X.1.2.1.stackTraces = false) (l0 : Nat) (l1 : Nat) (l2 : Nat) (l3 : Int32) (l4 : Int32) (M : Mem) (h : loop (fun s => F_X4_value_s5 l0 l1 l2 s.1 s.2.1 s.2.2) (l3, l4, M) = some r) (kx : ∀ e' : Mem, r = e' → wq X 6 126 [(2, .ref l2)] [] e') : wq X 6 5 [(0, .ref l0), (1, .ref l1), (2, .ref l2), (3, .int l3), (4, .int l4)] [] M :=
  loop_ind (P := fun s => wq X 6 5 [(0, .ref l0), (1, .ref l1), (2, .ref l2), (3, .int s.1), (4, .int s.2.1)] [] s.2.2) h (fun s y hy kc kr => w_X4_value_s5 C hRO hl l0 l1 l2 s.1 s.2.1 s.2.2 hy kc (fun e' he => kx e' (kr _ he).symm))
set_option maxRecDepth 100000 in
set_option maxHeartbeats 4000000 in
theorem w_X4_value {X : CX} {y : Int32 × Mem} (C : CK X cX4_value 6 RX4 8 162) (hRO : RO X.2.2.1 X.1.2.2.2.2.1 X.1.2.2.2.2.1.heap) (hl : X.1.2.1.stackTraces = false) (l0 : Nat) (l1 : Nat) (l2 : Nat) (M : Mem) (h : F_X4_value l0 l1 l2 M = some y) (kf : FIN X (some .int) (rs_mI y) (ms_mI y)) : wq X 6 0 [(0, .ref l0), (1, .ref l1), (2, .ref l2)] [] M := by
  unfold F_X4_value at h
  refine q_iconst (v := (0 : Int32)) C dX4_value_0 (by decide) ?_
  refine q_istore_n (i := 3) (lv' := [(3, .int (0 : Int32)), (0, .ref l0), (1, .ref l1), (2, .ref l2)]) C dX4_value_1 rfl (by decide) rfl ?_
  refine q_iconst (v := (0 : Int32)) C dX4_value_2 (by decide) ?_
  refine q_istore (i := 4) (lv' := [(4, .int (0 : Int32)), (3, .int (0 : Int32)), (0, .ref l0), (1, .ref l1), (2, .ref l2)]) C dX4_value_3 (by decide) rfl ?_
  obtain ⟨M41, e40, h⟩ := bindE h
  refine q_sub (lv' := [(0, .ref l0), (1, .ref l1), (2, .ref l2), (3, .int (0 : Int32)), (4, .int (0 : Int32))]) [2, 3, 4, 1, 0] rfl (w_X4_value_l5 C hRO hl l0 l1 l2 (0 : Int32) (0 : Int32) M e40 (fun r39 he => ?_))
  subst he
  show wq X 6 126 [(2, .ref l2)] [] M41
  refine q_aload_n 0 C dX4_value_126 rfl ?_
  refine q_iconst (v := (0 : Int32)) C dX4_value_127 (by decide) ?_
  obtain ⟨v42, e43, h⟩ := bindE h
  refine q_iaload C e43 dX4_value_128 ?_
  cases h
  exact q_iret C kf dX4_value_129
theorem k_X4_value (l : Launch) (hl : l.stackTraces = false) (G : GG) (l0 : Nat) (l1 : Nat) (l2 : Nat) (M : Mem) (x : Int32 × Mem) (h : F_X4_value l0 l1 l2 M = some x) : Ct l G yX4_value (.code yX4_value cX4_value 6 (some .int)) 8 162 [.ref l0, .ref l1, .ref l2] M (rs_mI x) (ms_mI x) := by
  refine Ct_of (by decide +kernel) (Nat.le_of_ble_eq_true rfl) fun X e1 e2 e3 C FN hnm => ?_
  subst e1; subst e2
  show wq X 6 0 [(0, .ref l0), (1, .ref l1), (2, .ref l2)] [] M
  exact w_X4_value C FN.2.2.2 hl l0 l1 l2 M h FN
/-! X6_leave -/
set_option maxRecDepth 100000 in
set_option maxHeartbeats 4000000 in
theorem w_X6_leave {X : CX} {y : Mem} (C : CK X cX6_leave 3 RX6 7 140) (hRO : RO X.2.2.1 X.1.2.2.2.2.1 X.1.2.2.2.2.1.heap) (hl : X.1.2.1.stackTraces = false) (l0 : Nat) (l1 : Int32) (M : Mem) (h : F_X6_leave l0 l1 M = some y) (kf : FIN X none (rs_mV y) (ms_mV y)) : wq X 3 0 [(0, .ref l0), (1, .int l1)] [] M := by
  unfold F_X6_leave at h
  refine q_aload_n 0 C dX6_leave_0 rfl ?_
  obtain ⟨v1, e2, h⟩ := bindE h
  refine q_getP C fl_RX6_35 rfl e2 dX6_leave_1 ?_
  refine q_iload_n 1 C dX6_leave_4 rfl ?_
  obtain ⟨v3, e4, h⟩ := bindE h
  refine q_iaload C e4 dX6_leave_5 ?_
  refine q_istore_n (i := 2) (lv' := [(2, .int v3), (0, .ref l0), (1, .int l1)]) C dX6_leave_6 rfl (by decide) rfl ?_
  refine q_iload_n 0 C dX6_leave_7 rfl ?_
  refine q_iconst (v := (-1 : Int32)) C dX6_leave_8 (by decide) ?_
  refine q_icmp_eq (tgt := 26) C dX6_leave_9 (by decide) (fun c5 => ?_) (fun c5 => ?_)
  · have h := ifT c5 h
    cases h
    exact q_vret C kf dX6_leave_26
  · have h := ifF c5 h
    refine q_aload_n 1 C dX6_leave_12 rfl ?_
    obtain ⟨v6, e7, h⟩ := bindE h
    refine q_getP C fl_RX6_29 rfl e7 dX6_leave_13 ?_
    refine q_iload_n 0 C dX6_leave_16 rfl ?_
    refine q_iconst (v := (-1 : Int32)) C dX6_leave_17 (by decide) ?_
    obtain ⟨M8, e9, h⟩ := bindE h
    refine q_iastore C e9 dX6_leave_18 ?_
    refine q_aload_n 1 C dX6_leave_19 rfl ?_
    obtain ⟨v10, e11, h⟩ := bindE h
    refine q_getP C fl_RX6_35 rfl e11 dX6_leave_20 ?_
    refine q_iload_n 2 C dX6_leave_23 rfl ?_
    refine q_iconst (v := (-1 : Int32)) C dX6_leave_24 (by decide) ?_
    obtain ⟨M12, e13, h⟩ := bindE h
    refine q_iastore C e13 dX6_leave_25 ?_
    cases h
    exact q_vret C kf dX6_leave_26
theorem k_X6_leave (l : Launch) (hl : l.stackTraces = false) (G : GG) (l0 : Nat) (l1 : Int32) (M : Mem) (x : Mem) (h : F_X6_leave l0 l1 M = some x) : Ct l G yX6_leave (.code yX6_leave cX6_leave 3 none) 7 140 [.ref l0, .int l1] M (rs_mV x) (ms_mV x) := by
  refine Ct_of (by decide +kernel) (Nat.le_of_ble_eq_true rfl) fun X e1 e2 e3 C FN hnm => ?_
  subst e1; subst e2
  show wq X 3 0 [(0, .ref l0), (1, .int l1)] [] M
  exact w_X6_leave C FN.2.2.2 hl l0 l1 M h FN
/-! X6_tight -/
set_option maxRecDepth 100000 in
set_option maxHeartbeats 4000000 in
theorem w_X6_tight {X : CX} {y : Int32} (C : CK X cX6_tight 3 RX6 7 140) (hRO : RO X.2.2.1 X.1.2.2.2.2.1 X.1.2.2.2.2.1.heap) (hl : X.1.2.1.stackTraces = false) (l0 : Nat) (l1 : Int32) (l2 : Int32) (M : Mem) (h : F_X6_tight l0 l1 l2 M = some y) (kf : FIN X (some .int) (rs_pI y) M) : wq X 3 0 [(0, .ref l0), (1, .int l1), (2, .int l2)] [] M := by
  unfold F_X6_tight at h
  refine q_iconst (v := (0 : Int32)) C dX6_tight_0 (by decide) ?_
  refine q_aload_n 0 C dX6_tight_1 rfl ?_
  obtain ⟨v1, e2, h⟩ := bindE h
  refine q_getP C fl_RX6_32 rfl e2 dX6_tight_2 ?_
  refine q_iload_n 1 C dX6_tight_5 rfl ?_
  obtain ⟨v3, e4, h⟩ := bindE h
  refine q_iaload C e4 dX6_tight_6 ?_
  refine q_aload_n 0 C dX6_tight_7 rfl ?_
  obtain ⟨v5, e6, h⟩ := bindE h
  refine q_getP C fl_RX6_22 rfl e6 dX6_tight_8 ?_
  refine q_iload_n 2 C dX6_tight_11 rfl ?_
  obtain ⟨v7, e8, h⟩ := bindE h
  refine q_iaload C e8 dX6_tight_12 ?_
  refine q_isub C dX6_tight_13 ?_
  refine q_mmax C ml_RX6_53 mm_max1 mm_3 mm_max4 (by decide) (Nat.le_of_ble_eq_true rfl) dX6_tight_14 ?_
  cases h
  exact q_iret C kf dX6_tight_17
theorem k_X6_tight (l : Launch) (hl : l.stackTraces = false) (G : GG) (l0 : Nat) (l1 : Int32) (l2 : Int32) (M : Mem) (x : Int32) (h : F_X6_tight l0 l1 l2 M = some x) : Ct l G yX6_tight (.code yX6_tight cX6_tight 3 (some .int)) 7 140 [.ref l0, .int l1, .int l2] M (rs_pI x) M := by
  refine Ct_of (by decide +kernel) (Nat.le_of_ble_eq_true rfl) fun X e1 e2 e3 C FN hnm => ?_
  subst e1; subst e2
  show wq X 3 0 [(0, .ref l0), (1, .int l1), (2, .int l2)] [] M
  exact w_X6_tight C FN.2.2.2 hl l0 l1 l2 M h FN
/-! X2_wear -/
set_option maxRecDepth 100000 in
set_option maxHeartbeats 4000000 in
theorem w_X2_wear_j116 {X : CX} {y : Mem} (C : CK X cX2_wear 8 RX2 9 187) (hRO : RO X.2.2.1 X.1.2.2.2.2.1 X.1.2.2.2.2.1.heap) (hl : X.1.2.1.stackTraces = false) (l1 : Nat) (l2 : Int32) (l4 : Int32) (l7 : Int32) (M : Mem) (h : F_X2_wear_j116 l1 l2 l4 l7 M = some y) (kf : FIN X none (rs_mV y) (ms_mV y)) : wq X 8 116 [(1, .ref l1), (2, .int l2), (4, .int l4), (7, .int l7)] [] M := by
  unfold F_X2_wear_j116 at h
  refine q_iload 3 C dX2_wear_116 rfl ?_
  refine q_if_le (tgt := 139) C dX2_wear_118 (by decide) (fun c33 => ?_) (fun c33 => ?_)
  · have h := ifT c33 h
    cases h
    exact q_vret C kf dX2_wear_139
  · have h := ifF c33 h
    refine q_aload_n 0 C dX2_wear_121 rfl ?_
    refine q_dup C dX2_wear_122 rfl ?_
    obtain ⟨v34, e35, h⟩ := bindE h
    refine q_getI C fl_RX2_67 rfl e35 dX2_wear_123 ?_
    refine q_iconst (v := (1 : Int32)) C dX2_wear_126 (by decide) ?_
    refine q_iload_n 1 C dX2_wear_127 rfl ?_
    refine q_ishl C dX2_wear_128 ?_
    refine q_ior C dX2_wear_129 ?_
    obtain ⟨M36, e37, h⟩ := bindE h
    refine q_putI C fp_RX2_67 rfl e37 dX2_wear_130 ?_
    refine q_aload_n 0 C dX2_wear_133 rfl ?_
    refine q_iload 2 C dX2_wear_134 rfl ?_
    obtain ⟨e38, h⟩ := ckOE h
    obtain ⟨M40, e39, h⟩ := bindE h
    refine q_callV (v := none) [.int l4] C hRO lk_RX2_143 vk_X6_leave e38 rfl rfl rfl (Nat.le_of_ble_eq_true rfl) (by decide) (by decide) dX2_wear_136 (k_X6_leave X.1.2.1 hl X.2.2.1 l1 l4 M36 _ e39) ?_
    cases h
    exact q_vret C kf dX2_wear_139
set_option maxRecDepth 100000 in
set_option maxHeartbeats 4000000 in
theorem w_X2_wear {X : CX} {y : Mem} (C : CK X cX2_wear 8 RX2 9 187) (hRO : RO X.2.2.1 X.1.2.2.2.2.1 X.1.2.2.2.2.1.heap) (hl : X.1.2.1.stackTraces = false) (l0 : Nat) (l1 : Nat) (l2 : Int32) (l3 : Int32) (M : Mem) (h : F_X2_wear l0 l1 l2 l3 M = some y) (kf : FIN X none (rs_mV y) (ms_mV y)) : wq X 8 0 [(0, .ref l0), (1, .ref l1), (2, .int l2), (3, .int l3)] [] M := by
  unfold F_X2_wear at h
  refine q_aload_n 1 C dX2_wear_0 rfl ?_
  obtain ⟨v1, e2, h⟩ := bindE h
  refine q_getP C fl_RX2_82 rfl e2 dX2_wear_1 ?_
  refine q_iload_n 2 C dX2_wear_4 rfl ?_
  obtain ⟨v3, e4, h⟩ := bindE h
  refine q_iaload C e4 dX2_wear_5 ?_
  refine q_istore (i := 4) (lv' := [(4, .int v3), (0, .ref l0), (1, .ref l1), (2, .int l2), (3, .int l3)]) C dX2_wear_6 (by decide) rfl ?_
  refine q_iload 0 C dX2_wear_8 rfl ?_
  refine q_iconst (v := (-1 : Int32)) C dX2_wear_10 (by decide) ?_
  refine q_icmp_ne (tgt := 15) C dX2_wear_11 (by decide) (fun c5 => ?_) (fun c5 => ?_)
  · have h := ifF c5 h
    refine q_aload_n 2 C dX2_wear_15 rfl ?_
    refine q_iload 0 C dX2_wear_16 rfl ?_
    refine q_iload_n 3 C dX2_wear_18 rfl ?_
    obtain ⟨e6, h⟩ := ckOE h
    obtain ⟨v8, e7, h⟩ := bindE h
    refine q_callV (v := some (.int v8)) [.int v3, .int l2] C hRO lk_RX2_128 vk_X6_tight e6 rfl rfl rfl (Nat.le_of_ble_eq_true rfl) (by decide) (by decide) dX2_wear_19 (k_X6_tight X.1.2.1 hl X.2.2.1 l1 v3 l2 M _ e7) ?_
    refine q_istore (i := 5) (lv' := [(5, .int v8), (4, .int v3), (0, .ref l0), (1, .ref l1), (2, .int l2), (3, .int l3)]) C dX2_wear_22 (by decide) rfl ?_
    refine q_aload_n 3 C dX2_wear_24 rfl ?_
    obtain ⟨v9, e10, h⟩ := bindE h
    refine q_getP C fl_RX2_70 rfl e10 dX2_wear_25 ?_
    refine q_iload_n 4 C dX2_wear_28 rfl ?_
    refine q_bipush (v := (99 : Int32)) C dX2_wear_29 (by decide) ?_
    refine q_aload_n 3 C dX2_wear_31 rfl ?_
    obtain ⟨v11, e12, h⟩ := bindE h
    refine q_getP C fl_RX2_70 rfl e12 dX2_wear_32 ?_
    refine q_iload_n 4 C dX2_wear_35 rfl ?_
    obtain ⟨v13, e14, h⟩ := bindE h
    refine q_iaload C e14 dX2_wear_36 ?_
    refine q_iload 0 C dX2_wear_37 rfl ?_
    refine q_iadd C dX2_wear_39 ?_
    refine q_mmin C ml_RX2_121 mm_min1 mm_3 mm_min4 (by decide) (Nat.le_of_ble_eq_true rfl) dX2_wear_40 ?_
    obtain ⟨M15, e16, h⟩ := bindE h
    refine q_iastore C e16 dX2_wear_43 ?_
    refine q_aload_n 3 C dX2_wear_44 rfl ?_
    obtain ⟨v17, e18, h⟩ := bindE h
    refine q_getP C fl_RX2_79 rfl e18 dX2_wear_45 ?_
    refine q_iload 1 C dX2_wear_48 rfl ?_
    refine q_sipush (v := (999 : Int32)) C dX2_wear_50 (by decide) ?_
    refine q_aload_n 3 C dX2_wear_53 rfl ?_
    obtain ⟨v19, e20, h⟩ := bindE h
    refine q_getP C fl_RX2_79 rfl e20 dX2_wear_54 ?_
    refine q_iload 1 C dX2_wear_57 rfl ?_
    obtain ⟨v21, e22, h⟩ := bindE h
    refine q_iaload C e22 dX2_wear_59 ?_
    refine q_iload 0 C dX2_wear_60 rfl ?_
    refine q_iadd C dX2_wear_62 ?_
    refine q_mmin C ml_RX2_121 mm_min1 mm_3 mm_min4 (by decide) (Nat.le_of_ble_eq_true rfl) dX2_wear_63 ?_
    obtain ⟨M23, e24, h⟩ := bindE h
    refine q_iastore C e24 dX2_wear_66 ?_
    refine q_aload_n 2 C dX2_wear_67 rfl ?_
    rcases bdQE h with ⟨e25, h⟩ | ⟨k26, e25, h⟩
    · refine q_getQ0 C fl_RX2_47 rfl e25 dX2_wear_68 ?_
      refine q_nstore (i := 6) (lv' := [(6, .null), (5, .int v8), (4, .int v3), (0, .ref l0), (1, .ref l1), (2, .int l2), (3, .int l3)]) C dX2_wear_71 (by decide) rfl ?_
      refine q_iload 1 C dX2_wear_73 rfl ?_
      refine q_bipush (v := (9 : Int32)) C dX2_wear_75 (by decide) ?_
      refine q_isub C dX2_wear_77 ?_
      refine q_aload_n 3 C dX2_wear_78 rfl ?_
      obtain ⟨v27, e28, h⟩ := bindE h
      refine q_getP C fl_RX2_25 rfl e28 dX2_wear_79 ?_
      refine q_iload_n 5 C dX2_wear_82 rfl ?_
      obtain ⟨v29, e30, h⟩ := bindE h
      refine q_iaload C e30 dX2_wear_83 ?_
      refine q_isub C dX2_wear_84 ?_
      obtain ⟨n31, e32, h⟩ := nmE h
      refine q_topI e32 ?_
      refine q_istore (i := 7) (lv' := [(7, .int n31), (6, .null), (5, .int v8), (4, .int v3), (0, .ref l0), (1, .ref l1), (2, .int l2), (3, .int l3)]) C dX2_wear_85 (by decide) rfl ?_
      refine q_nload 1 C dX2_wear_87 rfl ?_
      refine q_ifnullN (tgt := 116) C dX2_wear_89 (by decide) ?_
      exact q_sub (lv' := [(1, .ref l1), (2, .int l2), (4, .int v3), (7, .int n31)]) [5, 6, 3, 0] rfl (w_X2_wear_j116 C hRO hl l1 l2 v3 n31 M23 h kf)
    · refine q_getQ1 C fl_RX2_47 rfl e25 dX2_wear_68 ?_
      refine q_astore (i := 6) (lv' := [(6, .ref k26), (5, .int v8), (4, .int v3), (0, .ref l0), (1, .ref l1), (2, .int l2), (3, .int l3)]) C dX2_wear_71 (by decide) rfl ?_
      refine q_iload 1 C dX2_wear_73 rfl ?_
      refine q_bipush (v := (9 : Int32)) C dX2_wear_75 (by decide) ?_
      refine q_isub C dX2_wear_77 ?_
      refine q_aload_n 3 C dX2_wear_78 rfl ?_
      obtain ⟨v42, e43, h⟩ := bindE h
      refine q_getP C fl_RX2_25 rfl e43 dX2_wear_79 ?_
      refine q_iload_n 5 C dX2_wear_82 rfl ?_
      obtain ⟨v44, e45, h⟩ := bindE h
      refine q_iaload C e45 dX2_wear_83 ?_
      refine q_isub C dX2_wear_84 ?_
      obtain ⟨n46, e47, h⟩ := nmE h
      refine q_topI e47 ?_
      refine q_istore (i := 7) (lv' := [(7, .int n46), (6, .ref k26), (5, .int v8), (4, .int v3), (0, .ref l0), (1, .ref l1), (2, .int l2), (3, .int l3)]) C dX2_wear_85 (by decide) rfl ?_
      refine q_aload 1 C dX2_wear_87 rfl ?_
      refine q_ifnull C dX2_wear_89 ?_
      refine q_aload_n 4 C dX2_wear_92 rfl ?_
      refine q_aload_n 5 C dX2_wear_93 rfl ?_
      refine q_iload 3 C dX2_wear_94 rfl ?_
      refine q_iload_n 6 C dX2_wear_96 rfl ?_
      refine q_iload_n 7 C dX2_wear_97 rfl ?_
      obtain ⟨e48, h⟩ := ckOE h
      obtain ⟨M50, e49, h⟩ := bindE h
      refine q_callV (v := none) [.ref l1, .int v3, .int l2, .int l3] C hRO lk_RX2_110 vk_X2_tellFacts e48 rfl rfl rfl (Nat.le_of_ble_eq_true rfl) (by decide) (by decide) dX2_wear_98 (k_X2_tellFacts X.1.2.1 hl X.2.2.1 l0 l1 v3 l2 l3 M23 _ e49) ?_
      refine q_aload 1 C dX2_wear_101 rfl ?_
      refine q_aload_n 4 C dX2_wear_103 rfl ?_
      obtain ⟨v52, e53, h⟩ := bindE h
      refine q_getP C fl_RX2_52 rfl e53 dX2_wear_104 ?_
      refine q_aload_n 4 C dX2_wear_107 rfl ?_
      obtain ⟨v54, e55, h⟩ := bindE h
      refine q_getP C fl_RX2_55 rfl e55 dX2_wear_108 ?_
      obtain ⟨e56, h⟩ := ckOE h
      obtain ⟨v59, M58, e57, h⟩ := bd2E h
      refine q_callV (v := some (.int v59)) [.ref v52, .ref v54] C hRO lk_RX2_114 vk_X4_value e56 rfl rfl rfl (Nat.le_of_ble_eq_true rfl) (by decide) (by decide) dX2_wear_111 (k_X4_value X.1.2.1 hl X.2.2.1 k26 v52 v54 M50 _ e57) ?_
      refine q_istore (i := 7) (lv' := [(7, .int v59), (6, .ref k26), (5, .int v8), (4, .int v3), (0, .ref l0), (1, .ref l1), (2, .int l2), (3, .int l3)]) C dX2_wear_114 (by decide) rfl ?_
      exact q_sub (lv' := [(1, .ref l1), (2, .int l2), (4, .int v3), (7, .int v59)]) [5, 6, 3, 0] rfl (w_X2_wear_j116 C hRO hl l1 l2 v3 v59 M58 h kf)
  · have h := ifT c5 h
    cases h
    exact q_vret C kf dX2_wear_14
theorem k_X2_wear (l : Launch) (hl : l.stackTraces = false) (G : GG) (l0 : Nat) (l1 : Nat) (l2 : Int32) (l3 : Int32) (M : Mem) (x : Mem) (h : F_X2_wear l0 l1 l2 l3 M = some x) : Ct l G yX2_wear (.code yX2_wear cX2_wear 8 none) 9 187 [.ref l0, .ref l1, .int l2, .int l3] M (rs_mV x) (ms_mV x) := by
  refine Ct_of (by decide +kernel) (Nat.le_of_ble_eq_true rfl) fun X e1 e2 e3 C FN hnm => ?_
  subst e1; subst e2
  show wq X 8 0 [(0, .ref l0), (1, .ref l1), (2, .int l2), (3, .int l3)] [] M
  exact w_X2_wear C FN.2.2.2 hl l0 l1 l2 l3 M h FN
/-! X2_pass -/
set_option maxRecDepth 100000 in
set_option maxHeartbeats 4000000 in
theorem w_X2_pass_s2 {X : CX} {y : (Int32 × Mem) ⊕ (Mem)} (C : CK X cX2_pass 4 RX2 10 214) (hRO : RO X.2.2.1 X.1.2.2.2.2.1 X.1.2.2.2.2.1.heap) (hl : X.1.2.1.stackTraces = false) (l0 : Nat) (l1 : Nat) (l2 : Int32) (l3 : Int32) (M : Mem) (h : F_X2_pass_s2 l0 l1 l2 l3 M = some y) (kc : ∀ s' : Int32 × Mem, y = .inl s' → wq X 4 2 [(0, .ref l0), (1, .ref l1), (2, .int l2), (3, .int (s'.1))] [] s'.2) (kx : ∀ e' : Mem, y = (.inr e') → wq X 4 23 [(0, .ref l0), (1, .ref l1)] [] e') : wq X 4 2 [(0, .ref l0), (1, .ref l1), (2, .int l2), (3, .int l3)] [] M := by
  unfold F_X2_pass_s2 at h
  refine q_iload_n 3 C dX2_pass_2 rfl ?_
  refine q_aload_n 0 C dX2_pass_3 rfl ?_
  obtain ⟨v1, e2, h⟩ := bindE h
  refine q_getI C fl_RX2_9 rfl e2 dX2_pass_4 ?_
  refine q_icmp_ge (tgt := 23) C dX2_pass_7 (by decide) (fun c3 => ?_) (fun c3 => ?_)
  · have h := ifT c3 h
    exact q_sub (lv' := [(0, .ref l0), (1, .ref l1)]) [0, 1] rfl (kx M (someI h))
  · have h := ifF c3 h
    refine q_aload_n 0 C dX2_pass_10 rfl ?_
    refine q_aload_n 1 C dX2_pass_11 rfl ?_
    refine q_iload_n 3 C dX2_pass_12 rfl ?_
    refine q_iload_n 2 C dX2_pass_13 rfl ?_
    obtain ⟨e4, h⟩ := ckOE h
    obtain ⟨M6, e5, h⟩ := bindE h
    refine q_callV (v := none) [.ref l1, .int l3, .int l2] C hRO lk_RX2_135 vk_X2_wear e4 rfl rfl rfl (Nat.le_of_ble_eq_true rfl) (by decide) (by decide) dX2_pass_14 (k_X2_wear X.1.2.1 hl X.2.2.1 l0 l1 l3 l2 M _ e5) ?_
    refine q_iinc 3 (v := (l3 + (1 : Int32))) (lv' := [(3, .int (l3 + (1 : Int32))), (0, .ref l0), (1, .ref l1), (2, .int l2)]) C dX2_pass_17 rfl rfl (by decide) rfl ?_
    refine q_goto (tgt := 2) C dX2_pass_20 (by decide) ?_
    exact q_sub (lv' := [(0, .ref l0), (1, .ref l1), (2, .int l2), (3, .int (l3 + (1 : Int32)))]) [1, 2, 3, 0] rfl (kc ((l3 + (1 : Int32)), M6) (someI h))
theorem w_X2_pass_l2 {X : CX} {r : Mem} (C : CK X cX2_pass 4 RX2 10 214) (hRO : RO X.2.2.1 X.1.2.2.2.2.1 X.1.2.2.2.2.1.heap) (hl : X.1.2.1.stackTraces = false) (l0 : Nat) (l1 : Nat) (l2 : Int32) (l3 : Int32) (M : Mem) (h : loop (fun s => F_X2_pass_s2 l0 l1 l2 s.1 s.2) (l3, M) = some r) (kx : ∀ e' : Mem, r = e' → wq X 4 23 [(0, .ref l0), (1, .ref l1)] [] e') : wq X 4 2 [(0, .ref l0), (1, .ref l1), (2, .int l2), (3, .int l3)] [] M :=
  loop_ind (P := fun s => wq X 4 2 [(0, .ref l0), (1, .ref l1), (2, .int l2), (3, .int s.1)] [] s.2) h (fun s y hy kc kr => w_X2_pass_s2 C hRO hl l0 l1 l2 s.1 s.2 hy kc (fun e' he => kx e' (kr _ he).symm))
set_option maxRecDepth 100000 in
set_option maxHeartbeats 4000000 in
theorem w_X2_pass_s25 {X : CX} {y : (Int32 × Mem) ⊕ (Mem)} (C : CK X cX2_pass 4 RX2 10 214) (hRO : RO X.2.2.1 X.1.2.2.2.2.1 X.1.2.2.2.2.1.heap) (hl : X.1.2.1.stackTraces = false) (l0 : Nat) (l1 : Nat) (l3 : Int32) (M : Mem) (h : F_X2_pass_s25 l0 l1 l3 M = some y) (kc : ∀ s' : Int32 × Mem, y = .inl s' → wq X 4 25 [(0, .ref l0), (1, .ref l1), (3, .int (s'.1))] [] s'.2) (kx : ∀ e' : Mem, y = (.inr e') → wq X 4 45 [(1, .ref l1)] [] e') : wq X 4 25 [(0, .ref l0), (1, .ref l1), (3, .int l3)] [] M := by
  unfold F_X2_pass_s25 at h
  refine q_iload_n 2 C dX2_pass_25 rfl ?_
  refine q_aload_n 0 C dX2_pass_26 rfl ?_
  obtain ⟨v11, e12, h⟩ := bindE h
  refine q_getI C fl_RX2_15 rfl e12 dX2_pass_27 ?_
  refine q_icmp_ge (tgt := 45) C dX2_pass_30 (by decide) (fun c13 => ?_) (fun c13 => ?_)
  · have h := ifT c13 h
    exact q_sub (lv' := [(1, .ref l1)]) [1] rfl (kx M (someI h))
  · have h := ifF c13 h
    refine q_aload_n 0 C dX2_pass_33 rfl ?_
    refine q_aload_n 1 C dX2_pass_34 rfl ?_
    refine q_iload_n 2 C dX2_pass_35 rfl ?_
    obtain ⟨e14, h⟩ := ckOE h
    obtain ⟨M16, e15, h⟩ := bindE h
    refine q_callV (v := none) [.ref l1, .int l3] C hRO lk_RX2_139 vk_X2_grow e14 rfl rfl rfl (Nat.le_of_ble_eq_true rfl) (by decide) (by decide) dX2_pass_36 (k_X2_grow X.1.2.1 hl X.2.2.1 l0 l1 l3 M _ e15) ?_
    refine q_iinc 2 (v := (l3 + (1 : Int32))) (lv' := [(3, .int (l3 + (1 : Int32))), (0, .ref l0), (1, .ref l1)]) C dX2_pass_39 rfl rfl (by decide) rfl ?_
    refine q_goto (tgt := 25) C dX2_pass_42 (by decide) ?_
    exact q_sub (lv' := [(0, .ref l0), (1, .ref l1), (3, .int (l3 + (1 : Int32)))]) [1, 2, 0] rfl (kc ((l3 + (1 : Int32)), M16) (someI h))
theorem w_X2_pass_l25 {X : CX} {r : Mem} (C : CK X cX2_pass 4 RX2 10 214) (hRO : RO X.2.2.1 X.1.2.2.2.2.1 X.1.2.2.2.2.1.heap) (hl : X.1.2.1.stackTraces = false) (l0 : Nat) (l1 : Nat) (l3 : Int32) (M : Mem) (h : loop (fun s => F_X2_pass_s25 l0 l1 s.1 s.2) (l3, M) = some r) (kx : ∀ e' : Mem, r = e' → wq X 4 45 [(1, .ref l1)] [] e') : wq X 4 25 [(0, .ref l0), (1, .ref l1), (3, .int l3)] [] M :=
  loop_ind (P := fun s => wq X 4 25 [(0, .ref l0), (1, .ref l1), (3, .int s.1)] [] s.2) h (fun s y hy kc kr => w_X2_pass_s25 C hRO hl l0 l1 s.1 s.2 hy kc (fun e' he => kx e' (kr _ he).symm))
set_option maxRecDepth 100000 in
set_option maxHeartbeats 4000000 in
theorem w_X2_pass {X : CX} {y : Mem} (C : CK X cX2_pass 4 RX2 10 214) (hRO : RO X.2.2.1 X.1.2.2.2.2.1 X.1.2.2.2.2.1.heap) (hl : X.1.2.1.stackTraces = false) (l0 : Nat) (l1 : Nat) (l2 : Int32) (M : Mem) (h : F_X2_pass l0 l1 l2 M = some y) (kf : FIN X none (rs_mV y) (ms_mV y)) : wq X 4 0 [(0, .ref l0), (1, .ref l1), (2, .int l2)] [] M := by
  unfold F_X2_pass at h
  refine q_iconst (v := (0 : Int32)) C dX2_pass_0 (by decide) ?_
  refine q_istore_n (i := 3) (lv' := [(3, .int (0 : Int32)), (0, .ref l0), (1, .ref l1), (2, .int l2)]) C dX2_pass_1 rfl (by decide) rfl ?_
  obtain ⟨M10, e9, h⟩ := bindE h
  refine q_sub (lv' := [(0, .ref l0), (1, .ref l1), (2, .int l2), (3, .int (0 : Int32))]) [1, 2, 3, 0] rfl (w_X2_pass_l2 C hRO hl l0 l1 l2 (0 : Int32) M e9 (fun r8 he => ?_))
  subst he
  show wq X 4 23 [(0, .ref l0), (1, .ref l1)] [] M10
  refine q_iconst (v := (0 : Int32)) C dX2_pass_23 (by decide) ?_
  refine q_istore_n (i := 3) (lv' := [(3, .int (0 : Int32)), (0, .ref l0), (1, .ref l1)]) C dX2_pass_24 rfl (by decide) rfl ?_
  obtain ⟨M20, e19, h⟩ := bindE h
  refine q_sub (lv' := [(0, .ref l0), (1, .ref l1), (3, .int (0 : Int32))]) [1, 2, 0] rfl (w_X2_pass_l25 C hRO hl l0 l1 (0 : Int32) M10 e19 (fun r18 he => ?_))
  subst he
  show wq X 4 45 [(1, .ref l1)] [] M20
  refine q_aload_n 0 C dX2_pass_45 rfl ?_
  refine q_dup C dX2_pass_46 rfl ?_
  obtain ⟨v21, e22, h⟩ := bindE h
  refine q_getI C fl_RX2_58 rfl e22 dX2_pass_47 ?_
  refine q_iconst (v := (1 : Int32)) C dX2_pass_50 (by decide) ?_
  refine q_iadd C dX2_pass_51 ?_
  obtain ⟨M23, e24, h⟩ := bindE h
  refine q_putI C fp_RX2_58 rfl e24 dX2_pass_52 ?_
  refine q_aload_n 0 C dX2_pass_55 rfl ?_
  refine q_iconst (v := (0 : Int32)) C dX2_pass_56 (by decide) ?_
  obtain ⟨M25, e26, h⟩ := bindE h
  refine q_putZ C fp_RX2_63 rfl e26 dX2_pass_57 ?_
  cases h
  exact q_vret C kf dX2_pass_60
theorem k_X2_pass (l : Launch) (hl : l.stackTraces = false) (G : GG) (l0 : Nat) (l1 : Nat) (l2 : Int32) (M : Mem) (x : Mem) (h : F_X2_pass l0 l1 l2 M = some x) : Ct l G yX2_pass (.code yX2_pass cX2_pass 4 none) 10 214 [.ref l0, .ref l1, .int l2] M (rs_mV x) (ms_mV x) := by
  refine Ct_of (by decide +kernel) (Nat.le_of_ble_eq_true rfl) fun X e1 e2 e3 C FN hnm => ?_
  subst e1; subst e2
  show wq X 4 0 [(0, .ref l0), (1, .ref l1), (2, .int l2)] [] M
  exact w_X2_pass C FN.2.2.2 hl l0 l1 l2 M h FN
/-! X6_copy -/
set_option maxRecDepth 100000 in
set_option maxHeartbeats 4000000 in
theorem w_X6_copy {X : CX} {y : Mem} (C : CK X cX6_copy 2 RX6 7 140) (hRO : RO X.2.2.1 X.1.2.2.2.2.1 X.1.2.2.2.2.1.heap) (hl : X.1.2.1.stackTraces = false) (l0 : Nat) (l1 : Nat) (M : Mem) (h : F_X6_copy l0 l1 M = some y) (kf : FIN X none (rs_mV y) (ms_mV y)) : wq X 2 0 [(0, .ref l0), (1, .ref l1)] [] M := by
  unfold F_X6_copy at h
  refine q_aload_n 0 C dX6_copy_0 rfl ?_
  refine q_aload_n 1 C dX6_copy_1 rfl ?_
  obtain ⟨v1, e2, h⟩ := bindE h
  refine q_getI C fl_RX6_9 rfl e2 dX6_copy_2 ?_
  obtain ⟨M3, e4, h⟩ := bindE h
  refine q_putI C fp_RX6_9 rfl e4 dX6_copy_5 ?_
  refine q_aload_n 0 C dX6_copy_8 rfl ?_
  refine q_aload_n 1 C dX6_copy_9 rfl ?_
  obtain ⟨v5, e6, h⟩ := bindE h
  refine q_getI C fl_RX6_15 rfl e6 dX6_copy_10 ?_
  obtain ⟨M7, e8, h⟩ := bindE h
  refine q_putZ C fp_RX6_15 rfl e8 dX6_copy_13 ?_
  refine q_aload_n 0 C dX6_copy_16 rfl ?_
  refine q_aload_n 1 C dX6_copy_17 rfl ?_
  obtain ⟨v9, e10, h⟩ := bindE h
  refine q_getI C fl_RX6_19 rfl e10 dX6_copy_18 ?_
  obtain ⟨M11, e12, h⟩ := bindE h
  refine q_putI C fp_RX6_19 rfl e12 dX6_copy_21 ?_
  refine q_aload_n 1 C dX6_copy_24 rfl ?_
  obtain ⟨v13, e14, h⟩ := bindE h
  refine q_getP C fl_RX6_22 rfl e14 dX6_copy_25 ?_
  refine q_iconst (v := (0 : Int32)) C dX6_copy_28 (by decide) ?_
  refine q_aload_n 0 C dX6_copy_29 rfl ?_
  obtain ⟨v15, e16, h⟩ := bindE h
  refine q_getP C fl_RX6_22 rfl e16 dX6_copy_30 ?_
  refine q_iconst (v := (0 : Int32)) C dX6_copy_33 (by decide) ?_
  refine q_bipush (v := (8 : Int32)) C dX6_copy_34 (by decide) ?_
  obtain ⟨M17, e18, h⟩ := bindE h
  refine q_copy C ml_RX6_47 ac_1 ac_2 ac_3 (by decide) (Nat.le_of_ble_eq_true rfl) e18 dX6_copy_36 ?_
  refine q_aload_n 1 C dX6_copy_39 rfl ?_
  obtain ⟨v19, e20, h⟩ := bindE h
  refine q_getP C fl_RX6_26 rfl e20 dX6_copy_40 ?_
  refine q_iconst (v := (0 : Int32)) C dX6_copy_43 (by decide) ?_
  refine q_aload_n 0 C dX6_copy_44 rfl ?_
  obtain ⟨v21, e22, h⟩ := bindE h
  refine q_getP C fl_RX6_26 rfl e22 dX6_copy_45 ?_
  refine q_iconst (v := (0 : Int32)) C dX6_copy_48 (by decide) ?_
  refine q_bipush (v := (8 : Int32)) C dX6_copy_49 (by decide) ?_
  obtain ⟨M23, e24, h⟩ := bindE h
  refine q_copy C ml_RX6_47 ac_1 ac_2 ac_3 (by decide) (Nat.le_of_ble_eq_true rfl) e24 dX6_copy_51 ?_
  refine q_aload_n 1 C dX6_copy_54 rfl ?_
  obtain ⟨v25, e26, h⟩ := bindE h
  refine q_getP C fl_RX6_29 rfl e26 dX6_copy_55 ?_
  refine q_iconst (v := (0 : Int32)) C dX6_copy_58 (by decide) ?_
  refine q_aload_n 0 C dX6_copy_59 rfl ?_
  obtain ⟨v27, e28, h⟩ := bindE h
  refine q_getP C fl_RX6_29 rfl e28 dX6_copy_60 ?_
  refine q_iconst (v := (0 : Int32)) C dX6_copy_63 (by decide) ?_
  refine q_bipush (v := (8 : Int32)) C dX6_copy_64 (by decide) ?_
  obtain ⟨M29, e30, h⟩ := bindE h
  refine q_copy C ml_RX6_47 ac_1 ac_2 ac_3 (by decide) (Nat.le_of_ble_eq_true rfl) e30 dX6_copy_66 ?_
  refine q_aload_n 1 C dX6_copy_69 rfl ?_
  obtain ⟨v31, e32, h⟩ := bindE h
  refine q_getP C fl_RX6_32 rfl e32 dX6_copy_70 ?_
  refine q_iconst (v := (0 : Int32)) C dX6_copy_73 (by decide) ?_
  refine q_aload_n 0 C dX6_copy_74 rfl ?_
  obtain ⟨v33, e34, h⟩ := bindE h
  refine q_getP C fl_RX6_32 rfl e34 dX6_copy_75 ?_
  refine q_iconst (v := (0 : Int32)) C dX6_copy_78 (by decide) ?_
  refine q_bipush (v := (8 : Int32)) C dX6_copy_79 (by decide) ?_
  obtain ⟨M35, e36, h⟩ := bindE h
  refine q_copy C ml_RX6_47 ac_1 ac_2 ac_3 (by decide) (Nat.le_of_ble_eq_true rfl) e36 dX6_copy_81 ?_
  refine q_aload_n 1 C dX6_copy_84 rfl ?_
  obtain ⟨v37, e38, h⟩ := bindE h
  refine q_getP C fl_RX6_35 rfl e38 dX6_copy_85 ?_
  refine q_iconst (v := (0 : Int32)) C dX6_copy_88 (by decide) ?_
  refine q_aload_n 0 C dX6_copy_89 rfl ?_
  obtain ⟨v39, e40, h⟩ := bindE h
  refine q_getP C fl_RX6_35 rfl e40 dX6_copy_90 ?_
  refine q_iconst (v := (0 : Int32)) C dX6_copy_93 (by decide) ?_
  refine q_bipush (v := (8 : Int32)) C dX6_copy_94 (by decide) ?_
  obtain ⟨M41, e42, h⟩ := bindE h
  refine q_copy C ml_RX6_47 ac_1 ac_2 ac_3 (by decide) (Nat.le_of_ble_eq_true rfl) e42 dX6_copy_96 ?_
  refine q_aload_n 1 C dX6_copy_99 rfl ?_
  obtain ⟨v43, e44, h⟩ := bindE h
  refine q_getP C fl_RX6_38 rfl e44 dX6_copy_100 ?_
  refine q_iconst (v := (0 : Int32)) C dX6_copy_103 (by decide) ?_
  refine q_aload_n 0 C dX6_copy_104 rfl ?_
  obtain ⟨v45, e46, h⟩ := bindE h
  refine q_getP C fl_RX6_38 rfl e46 dX6_copy_105 ?_
  refine q_iconst (v := (0 : Int32)) C dX6_copy_108 (by decide) ?_
  refine q_bipush (v := (8 : Int32)) C dX6_copy_109 (by decide) ?_
  obtain ⟨M47, e48, h⟩ := bindE h
  refine q_copy C ml_RX6_47 ac_1 ac_2 ac_3 (by decide) (Nat.le_of_ble_eq_true rfl) e48 dX6_copy_111 ?_
  cases h
  exact q_vret C kf dX6_copy_114
theorem k_X6_copy (l : Launch) (hl : l.stackTraces = false) (G : GG) (l0 : Nat) (l1 : Nat) (M : Mem) (x : Mem) (h : F_X6_copy l0 l1 M = some x) : Ct l G yX6_copy (.code yX6_copy cX6_copy 2 none) 7 140 [.ref l0, .ref l1] M (rs_mV x) (ms_mV x) := by
  refine Ct_of (by decide +kernel) (Nat.le_of_ble_eq_true rfl) fun X e1 e2 e3 C FN hnm => ?_
  subst e1; subst e2
  show wq X 2 0 [(0, .ref l0), (1, .ref l1)] [] M
  exact w_X6_copy C FN.2.2.2 hl l0 l1 M h FN
/-! X2_passAlone -/
set_option maxRecDepth 100000 in
set_option maxHeartbeats 4000000 in
theorem w_X2_passAlone_j28 {X : CX} {y : Mem} (C : CK X cX2_passAlone 5 RX2 10 214) (hRO : RO X.2.2.1 X.1.2.2.2.2.1 X.1.2.2.2.2.1.heap) (hl : X.1.2.1.stackTraces = false) (l1 : Nat) (M : Mem) (h : F_X2_passAlone_j28 l1 M = some y) (kf : FIN X none (rs_mV y) (ms_mV y)) : wq X 5 28 [(1, .ref l1)] [] M := by
  unfold F_X2_passAlone_j28 at h
  refine q_aload_n 0 C dX2_passAlone_28 rfl ?_
  refine q_dup C dX2_passAlone_29 rfl ?_
  obtain ⟨v10, e11, h⟩ := bindE h
  refine q_getI C fl_RX2_58 rfl e11 dX2_passAlone_30 ?_
  refine q_iconst (v := (1 : Int32)) C dX2_passAlone_33 (by decide) ?_
  refine q_iadd C dX2_passAlone_34 ?_
  obtain ⟨M12, e13, h⟩ := bindE h
  refine q_putI C fp_RX2_58 rfl e13 dX2_passAlone_35 ?_
  refine q_aload_n 0 C dX2_passAlone_38 rfl ?_
  refine q_iconst (v := (0 : Int32)) C dX2_passAlone_39 (by decide) ?_
  obtain ⟨M14, e15, h⟩ := bindE h
  refine q_putZ C fp_RX2_63 rfl e15 dX2_passAlone_40 ?_
  cases h
  exact q_vret C kf dX2_passAlone_43
set_option maxRecDepth 100000 in
set_option maxHeartbeats 4000000 in
theorem w_X2_passAlone {X : CX} {y : Mem} (C : CK X cX2_passAlone 5 RX2 10 214) (hRO : RO X.2.2.1 X.1.2.2.2.2.1 X.1.2.2.2.2.1.heap) (hl : X.1.2.1.stackTraces = false) (l0 : Nat) (l1 : Nat) (l2 : Int32) (l3 : Int32) (M : Mem) (h : F_X2_passAlone l0 l1 l2 l3 M = some y) (kf : FIN X none (rs_mV y) (ms_mV y)) : wq X 5 0 [(0, .ref l0), (1, .ref l1), (2, .int l2), (3, .int l3)] [] M := by
  unfold F_X2_passAlone at h
  refine q_aload_n 1 C dX2_passAlone_0 rfl ?_
  obtain ⟨v1, e2, h⟩ := bindE h
  refine q_getP C fl_RX2_82 rfl e2 dX2_passAlone_1 ?_
  refine q_iload_n 2 C dX2_passAlone_4 rfl ?_
  obtain ⟨v3, e4, h⟩ := bindE h
  refine q_iaload C e4 dX2_passAlone_5 ?_
  refine q_istore (i := 4) (lv' := [(4, .int v3), (0, .ref l0), (1, .ref l1), (2, .int l2), (3, .int l3)]) C dX2_passAlone_6 (by decide) rfl ?_
  refine q_aload_n 1 C dX2_passAlone_8 rfl ?_
  refine q_aload_n 2 C dX2_passAlone_9 rfl ?_
  refine q_iload_n 3 C dX2_passAlone_10 rfl ?_
  refine q_iload_n 4 C dX2_passAlone_11 rfl ?_
  obtain ⟨e5, h⟩ := ckOE h
  obtain ⟨M7, e6, h⟩ := bindE h
  refine q_callV (v := none) [.ref l1, .int l2, .int l3] C hRO lk_RX2_135 vk_X2_wear e5 rfl rfl rfl (Nat.le_of_ble_eq_true rfl) (by decide) (by decide) dX2_passAlone_12 (k_X2_wear X.1.2.1 hl X.2.2.1 l0 l1 l2 l3 M _ e6) ?_
  refine q_iload 0 C dX2_passAlone_15 rfl ?_
  refine q_iconst (v := (-1 : Int32)) C dX2_passAlone_17 (by decide) ?_
  refine q_icmp_eq (tgt := 28) C dX2_passAlone_18 (by decide) (fun c9 => ?_) (fun c9 => ?_)
  · have h := ifT c9 h
    exact q_sub (lv' := [(1, .ref l1)]) [2] rfl (w_X2_passAlone_j28 C hRO hl l1 M7 h kf)
  · have h := ifF c9 h
    refine q_aload_n 1 C dX2_passAlone_21 rfl ?_
    refine q_aload_n 2 C dX2_passAlone_22 rfl ?_
    refine q_iload 0 C dX2_passAlone_23 rfl ?_
    obtain ⟨e16, h⟩ := ckOE h
    obtain ⟨M18, e17, h⟩ := bindE h
    refine q_callV (v := none) [.ref l1, .int v3] C hRO lk_RX2_139 vk_X2_grow e16 rfl rfl rfl (Nat.le_of_ble_eq_true rfl) (by decide) (by decide) dX2_passAlone_25 (k_X2_grow X.1.2.1 hl X.2.2.1 l0 l1 v3 M7 _ e17) ?_
    exact q_sub (lv' := [(1, .ref l1)]) [2] rfl (w_X2_passAlone_j28 C hRO hl l1 M18 h kf)
theorem k_X2_passAlone (l : Launch) (hl : l.stackTraces = false) (G : GG) (l0 : Nat) (l1 : Nat) (l2 : Int32) (l3 : Int32) (M : Mem) (x : Mem) (h : F_X2_passAlone l0 l1 l2 l3 M = some x) : Ct l G yX2_passAlone (.code yX2_passAlone cX2_passAlone 5 none) 10 214 [.ref l0, .ref l1, .int l2, .int l3] M (rs_mV x) (ms_mV x) := by
  refine Ct_of (by decide +kernel) (Nat.le_of_ble_eq_true rfl) fun X e1 e2 e3 C FN hnm => ?_
  subst e1; subst e2
  show wq X 5 0 [(0, .ref l0), (1, .ref l1), (2, .int l2), (3, .int l3)] [] M
  exact w_X2_passAlone C FN.2.2.2 hl l0 l1 l2 l3 M h FN
/-! X5_agrees -/
set_option maxRecDepth 100000 in
set_option maxHeartbeats 4000000 in
theorem w_X5_agrees_s3 {X : CX} {y : (Int32) ⊕ ((Unit) ⊕ (Int32))} (C : CK X cX5_agrees 5 RX5 7 140) (hRO : RO X.2.2.1 X.1.2.2.2.2.1 X.1.2.2.2.2.1.heap) (hl : X.1.2.1.stackTraces = false) (l0 : Nat) (l1 : Int32) (l2 : Int32) (l3 : Int32) (M : Mem) (l4 : Int32) (h : F_X5_agrees_s3 l0 l1 l2 l3 M l4 = some y) (kc : ∀ s' : Int32, y = .inl s' → wq X 5 3 [(0, .ref l0), (1, .int l1), (2, .int l2), (3, .int l3), (4, .int (s'))] [] M) (kx : ∀ e' : Unit, y = (.inr (.inl e')) → wq X 5 53 [] [] M) (kf : ∀ f' : Int32, y = (.inr (.inr f')) → FIN X (some .boolean) (rs_pI f') M) : wq X 5 3 [(0, .ref l0), (1, .int l1), (2, .int l2), (3, .int l3), (4, .int l4)] [] M := by
  unfold F_X5_agrees_s3 at h
  refine q_iload 4 C dX5_agrees_3 rfl ?_
  refine q_aload_n 0 C dX5_agrees_5 rfl ?_
  obtain ⟨v1, e2, h⟩ := bindE h
  refine q_getI C fl_RX5_21 rfl e2 dX5_agrees_6 ?_
  refine q_icmp_ge (tgt := 53) C dX5_agrees_9 (by decide) (fun c3 => ?_) (fun c3 => ?_)
  · have h := ifT c3 h
    exact q_sub (lv' := []) [] rfl (kx () (someI h))
  · have h := ifF c3 h
    refine q_aload_n 0 C dX5_agrees_12 rfl ?_
    obtain ⟨v4, e5, h⟩ := bindE h
    refine q_getP C fl_RX5_9 rfl e5 dX5_agrees_13 ?_
    refine q_iload 4 C dX5_agrees_16 rfl ?_
    obtain ⟨v6, e7, h⟩ := bindE h
    refine q_iaload C e7 dX5_agrees_18 ?_
    refine q_iload_n 1 C dX5_agrees_19 rfl ?_
    refine q_icmp_ne (tgt := 47) C dX5_agrees_20 (by decide) (fun c8 => ?_) (fun c8 => ?_)
    · have h := ifF c8 h
      refine q_iinc 4 (v := (l4 + (1 : Int32))) (lv' := [(4, .int (l4 + (1 : Int32))), (0, .ref l0), (1, .int l1), (2, .int l2), (3, .int l3)]) C dX5_agrees_47 rfl rfl (by decide) rfl ?_
      refine q_goto (tgt := 3) C dX5_agrees_50 (by decide) ?_
      exact q_sub (lv' := [(0, .ref l0), (1, .int l1), (2, .int l2), (3, .int l3), (4, .int (l4 + (1 : Int32)))]) [1, 2, 3, 4, 0] rfl (kc (l4 + (1 : Int32)) (someI h))
    · have h := ifT c8 h
      refine q_aload_n 0 C dX5_agrees_23 rfl ?_
      obtain ⟨v9, e10, h⟩ := bindE h
      refine q_getP C fl_RX5_15 rfl e10 dX5_agrees_24 ?_
      refine q_iload 4 C dX5_agrees_27 rfl ?_
      obtain ⟨v11, e12, h⟩ := bindE h
      refine q_iaload C e12 dX5_agrees_29 ?_
      refine q_iload_n 2 C dX5_agrees_30 rfl ?_
      refine q_icmp_ne (tgt := 47) C dX5_agrees_31 (by decide) (fun c13 => ?_) (fun c13 => ?_)
      · have h := ifF c13 h
        refine q_iinc 4 (v := (l4 + (1 : Int32))) (lv' := [(4, .int (l4 + (1 : Int32))), (0, .ref l0), (1, .int l1), (2, .int l2), (3, .int l3)]) C dX5_agrees_47 rfl rfl (by decide) rfl ?_
        refine q_goto (tgt := 3) C dX5_agrees_50 (by decide) ?_
        exact q_sub (lv' := [(0, .ref l0), (1, .int l1), (2, .int l2), (3, .int l3), (4, .int (l4 + (1 : Int32)))]) [1, 2, 3, 4, 0] rfl (kc (l4 + (1 : Int32)) (someI h))
      · have h := ifT c13 h
        refine q_aload_n 0 C dX5_agrees_34 rfl ?_
        obtain ⟨v14, e15, h⟩ := bindE h
        refine q_getP C fl_RX5_18 rfl e15 dX5_agrees_35 ?_
        refine q_iload 4 C dX5_agrees_38 rfl ?_
        obtain ⟨v16, e17, h⟩ := bindE h
        refine q_iaload C e17 dX5_agrees_40 ?_
        refine q_iload_n 3 C dX5_agrees_41 rfl ?_
        refine q_icmp_eq (tgt := 47) C dX5_agrees_42 (by decide) (fun c18 => ?_) (fun c18 => ?_)
        · have h := ifT c18 h
          refine q_iinc 4 (v := (l4 + (1 : Int32))) (lv' := [(4, .int (l4 + (1 : Int32))), (0, .ref l0), (1, .int l1), (2, .int l2), (3, .int l3)]) C dX5_agrees_47 rfl rfl (by decide) rfl ?_
          refine q_goto (tgt := 3) C dX5_agrees_50 (by decide) ?_
          exact q_sub (lv' := [(0, .ref l0), (1, .int l1), (2, .int l2), (3, .int l3), (4, .int (l4 + (1 : Int32)))]) [1, 2, 3, 4, 0] rfl (kc (l4 + (1 : Int32)) (someI h))
        · have h := ifF c18 h
          refine q_iconst (v := (0 : Int32)) C dX5_agrees_45 (by decide) ?_
          exact q_zretE (w := (0 : Int32)) (by decide) C (kf _ (someI h)) dX5_agrees_46
theorem w_X5_agrees_l3 {X : CX} {r : (Unit) ⊕ (Int32)} (C : CK X cX5_agrees 5 RX5 7 140) (hRO : RO X.2.2.1 X.1.2.2.2.2.1 X.1.2.2.2.2.1.heap) (hl : X.1.2.1.stackTraces = false) (l0 : Nat) (l1 : Int32) (l2 : Int32) (l3 : Int32) (M : Mem) (l4 : Int32) (h : loop (fun s => F_X5_agrees_s3 l0 l1 l2 l3 M s) l4 = some r) (kx : ∀ e' : Unit, r = .inl e' → wq X 5 53 [] [] M) (kf : ∀ f' : Int32, r = .inr f' → FIN X (some .boolean) (rs_pI f') M) : wq X 5 3 [(0, .ref l0), (1, .int l1), (2, .int l2), (3, .int l3), (4, .int l4)] [] M :=
  loop_ind (P := fun s => wq X 5 3 [(0, .ref l0), (1, .int l1), (2, .int l2), (3, .int l3), (4, .int s)] [] M) h (fun s y hy kc kr => w_X5_agrees_s3 C hRO hl l0 l1 l2 l3 M s hy kc (fun e' he => kx e' (kr _ he).symm) (fun f' he => kf f' (kr _ he).symm))
set_option maxRecDepth 100000 in
set_option maxHeartbeats 4000000 in
theorem w_X5_agrees {X : CX} {y : Int32} (C : CK X cX5_agrees 5 RX5 7 140) (hRO : RO X.2.2.1 X.1.2.2.2.2.1 X.1.2.2.2.2.1.heap) (hl : X.1.2.1.stackTraces = false) (l0 : Nat) (l1 : Int32) (l2 : Int32) (l3 : Int32) (M : Mem) (h : F_X5_agrees l0 l1 l2 l3 M = some y) (kf : FIN X (some .boolean) (rs_pI y) M) : wq X 5 0 [(0, .ref l0), (1, .int l1), (2, .int l2), (3, .int l3)] [] M := by
  unfold F_X5_agrees at h
  refine q_iconst (v := (0 : Int32)) C dX5_agrees_0 (by decide) ?_
  refine q_istore (i := 4) (lv' := [(4, .int (0 : Int32)), (0, .ref l0), (1, .int l1), (2, .int l2), (3, .int l3)]) C dX5_agrees_1 (by decide) rfl ?_
  obtain ⟨r19, e20, h⟩ := bindE h
  refine q_sub (lv' := [(0, .ref l0), (1, .int l1), (2, .int l2), (3, .int l3), (4, .int (0 : Int32))]) [1, 2, 3, 4, 0] rfl (w_X5_agrees_l3 C hRO hl l0 l1 l2 l3 M (0 : Int32) e20 (fun q21 he => ?_) (fun f22 he => ?_))
  · subst he
    have h := elimL h
    show wq X 5 53 [] [] M
    refine q_iconst (v := (1 : Int32)) C dX5_agrees_53 (by decide) ?_
    cases h
    exact q_zretE (w := (1 : Int32)) (by decide) C kf dX5_agrees_54
  · subst he
    have h := elimR h
    cases h
    exact kf
theorem k_X5_agrees (l : Launch) (hl : l.stackTraces = false) (G : GG) (l0 : Nat) (l1 : Int32) (l2 : Int32) (l3 : Int32) (M : Mem) (x : Int32) (h : F_X5_agrees l0 l1 l2 l3 M = some x) : Ct l G yX5_agrees (.code yX5_agrees cX5_agrees 5 (some .boolean)) 7 140 [.ref l0, .int l1, .int l2, .int l3] M (rs_pI x) M := by
  refine Ct_of (by decide +kernel) (Nat.le_of_ble_eq_true rfl) fun X e1 e2 e3 C FN hnm => ?_
  subst e1; subst e2
  show wq X 5 0 [(0, .ref l0), (1, .int l1), (2, .int l2), (3, .int l3)] [] M
  exact w_X5_agrees C FN.2.2.2 hl l0 l1 l2 l3 M h FN
/-! X5_longest -/
set_option maxRecDepth 100000 in
set_option maxHeartbeats 4000000 in
theorem w_X5_longest_s4 {X : CX} {y : (Int32 × Int32) ⊕ (Int32)} (C : CK X cX5_longest 4 RX5 7 140) (hRO : RO X.2.2.1 X.1.2.2.2.2.1 X.1.2.2.2.2.1.heap) (hl : X.1.2.1.stackTraces = false) (l0 : Nat) (l1 : Int32) (M : Mem) (l2 : Int32) (l3 : Int32) (h : F_X5_longest_s4 l0 l1 M l2 l3 = some y) (kc : ∀ s' : Int32 × Int32, y = .inl s' → wq X 4 4 [(0, .ref l0), (1, .int l1), (2, .int (s'.1)), (3, .int (s'.2))] [] M) (kx : ∀ e' : Int32, y = (.inr e') → wq X 4 39 [(2, .int (e'))] [] M) : wq X 4 4 [(0, .ref l0), (1, .int l1), (2, .int l2), (3, .int l3)] [] M := by
  unfold F_X5_longest_s4 at h
  refine q_iload_n 3 C dX5_longest_4 rfl ?_
  refine q_aload_n 0 C dX5_longest_5 rfl ?_
  obtain ⟨v1, e2, h⟩ := bindE h
  refine q_getI C fl_RX5_21 rfl e2 dX5_longest_6 ?_
  refine q_icmp_ge (tgt := 39) C dX5_longest_9 (by decide) (fun c3 => ?_) (fun c3 => ?_)
  · have h := ifT c3 h
    exact q_sub (lv' := [(2, .int l2)]) [2] rfl (kx l2 (someI h))
  · have h := ifF c3 h
    refine q_aload_n 0 C dX5_longest_12 rfl ?_
    obtain ⟨v4, e5, h⟩ := bindE h
    refine q_getP C fl_RX5_9 rfl e5 dX5_longest_13 ?_
    refine q_iload_n 3 C dX5_longest_16 rfl ?_
    obtain ⟨v6, e7, h⟩ := bindE h
    refine q_iaload C e7 dX5_longest_17 ?_
    refine q_iload_n 1 C dX5_longest_18 rfl ?_
    refine q_icmp_ne (tgt := 33) C dX5_longest_19 (by decide) (fun c8 => ?_) (fun c8 => ?_)
    · have h := ifF c8 h
      refine q_iinc 3 (v := (l3 + (1 : Int32))) (lv' := [(3, .int (l3 + (1 : Int32))), (0, .ref l0), (1, .int l1), (2, .int l2)]) C dX5_longest_33 rfl rfl (by decide) rfl ?_
      refine q_goto (tgt := 4) C dX5_longest_36 (by decide) ?_
      exact q_sub (lv' := [(0, .ref l0), (1, .int l1), (2, .int l2), (3, .int (l3 + (1 : Int32)))]) [1, 2, 3, 0] rfl (kc (l2, (l3 + (1 : Int32))) (someI h))
    · have h := ifT c8 h
      refine q_iload_n 2 C dX5_longest_22 rfl ?_
      refine q_aload_n 0 C dX5_longest_23 rfl ?_
      obtain ⟨v9, e10, h⟩ := bindE h
      refine q_getP C fl_RX5_15 rfl e10 dX5_longest_24 ?_
      refine q_iload_n 3 C dX5_longest_27 rfl ?_
      obtain ⟨v11, e12, h⟩ := bindE h
      refine q_iaload C e12 dX5_longest_28 ?_
      refine q_mmax C ml_RX5_31 mm_max1 mm_3 mm_max4 (by decide) (Nat.le_of_ble_eq_true rfl) dX5_longest_29 ?_
      refine q_istore_n (i := 2) (lv' := [(2, .int (mxI l2 v11)), (0, .ref l0), (1, .int l1), (3, .int l3)]) C dX5_longest_32 rfl (by decide) rfl ?_
      refine q_iinc 3 (v := (l3 + (1 : Int32))) (lv' := [(3, .int (l3 + (1 : Int32))), (2, .int (mxI l2 v11)), (0, .ref l0), (1, .int l1)]) C dX5_longest_33 rfl rfl (by decide) rfl ?_
      refine q_goto (tgt := 4) C dX5_longest_36 (by decide) ?_
      exact q_sub (lv' := [(0, .ref l0), (1, .int l1), (2, .int (mxI l2 v11)), (3, .int (l3 + (1 : Int32)))]) [2, 3, 1, 0] rfl (kc ((mxI l2 v11), (l3 + (1 : Int32))) (someI h))
theorem w_X5_longest_l4 {X : CX} {r : Int32} (C : CK X cX5_longest 4 RX5 7 140) (hRO : RO X.2.2.1 X.1.2.2.2.2.1 X.1.2.2.2.2.1.heap) (hl : X.1.2.1.stackTraces = false) (l0 : Nat) (l1 : Int32) (M : Mem) (l2 : Int32) (l3 : Int32) (h : loop (fun s => F_X5_longest_s4 l0 l1 M s.1 s.2) (l2, l3) = some r) (kx : ∀ e' : Int32, r = e' → wq X 4 39 [(2, .int (e'))] [] M) : wq X 4 4 [(0, .ref l0), (1, .int l1), (2, .int l2), (3, .int l3)] [] M :=
  loop_ind (P := fun s => wq X 4 4 [(0, .ref l0), (1, .int l1), (2, .int s.1), (3, .int s.2)] [] M) h (fun s y hy kc kr => w_X5_longest_s4 C hRO hl l0 l1 M s.1 s.2 hy kc (fun e' he => kx e' (kr _ he).symm))
set_option maxRecDepth 100000 in
set_option maxHeartbeats 4000000 in
theorem w_X5_longest {X : CX} {y : Int32} (C : CK X cX5_longest 4 RX5 7 140) (hRO : RO X.2.2.1 X.1.2.2.2.2.1 X.1.2.2.2.2.1.heap) (hl : X.1.2.1.stackTraces = false) (l0 : Nat) (l1 : Int32) (M : Mem) (h : F_X5_longest l0 l1 M = some y) (kf : FIN X (some .int) (rs_pI y) M) : wq X 4 0 [(0, .ref l0), (1, .int l1)] [] M := by
  unfold F_X5_longest at h
  refine q_iconst (v := (-1 : Int32)) C dX5_longest_0 (by decide) ?_
  refine q_istore_n (i := 2) (lv' := [(2, .int (-1 : Int32)), (0, .ref l0), (1, .int l1)]) C dX5_longest_1 rfl (by decide) rfl ?_
  refine q_iconst (v := (0 : Int32)) C dX5_longest_2 (by decide) ?_
  refine q_istore_n (i := 3) (lv' := [(3, .int (0 : Int32)), (2, .int (-1 : Int32)), (0, .ref l0), (1, .int l1)]) C dX5_longest_3 rfl (by decide) rfl ?_
  obtain ⟨x15, e14, h⟩ := bindE h
  refine q_sub (lv' := [(0, .ref l0), (1, .int l1), (2, .int (-1 : Int32)), (3, .int (0 : Int32))]) [2, 3, 1, 0] rfl (w_X5_longest_l4 C hRO hl l0 l1 M (-1 : Int32) (0 : Int32) e14 (fun r13 he => ?_))
  subst he
  show wq X 4 39 [(2, .int x15)] [] M
  refine q_iload_n 0 C dX5_longest_39 rfl ?_
  cases h
  exact q_iret C kf dX5_longest_40
theorem k_X5_longest (l : Launch) (hl : l.stackTraces = false) (G : GG) (l0 : Nat) (l1 : Int32) (M : Mem) (x : Int32) (h : F_X5_longest l0 l1 M = some x) : Ct l G yX5_longest (.code yX5_longest cX5_longest 4 (some .int)) 7 140 [.ref l0, .int l1] M (rs_pI x) M := by
  refine Ct_of (by decide +kernel) (Nat.le_of_ble_eq_true rfl) fun X e1 e2 e3 C FN hnm => ?_
  subst e1; subst e2
  show wq X 4 0 [(0, .ref l0), (1, .int l1)] [] M
  exact w_X5_longest C FN.2.2.2 hl l0 l1 M h FN
/-! X6_isBurst -/
set_option maxRecDepth 100000 in
set_option maxHeartbeats 4000000 in
theorem w_X6_isBurst {X : CX} {y : Int32} (C : CK X cX6_isBurst 2 RX6 7 140) (hRO : RO X.2.2.1 X.1.2.2.2.2.1 X.1.2.2.2.2.1.heap) (hl : X.1.2.1.stackTraces = false) (l0 : Nat) (l1 : Int32) (M : Mem) (h : F_X6_isBurst l0 l1 M = some y) (kf : FIN X (some .boolean) (rs_pI y) M) : wq X 2 0 [(0, .ref l0), (1, .int l1)] [] M := by
  unfold F_X6_isBurst at h
  refine q_aload_n 0 C dX6_isBurst_0 rfl ?_
  obtain ⟨v1, e2, h⟩ := bindE h
  refine q_getI C fl_RX6_19 rfl e2 dX6_isBurst_1 ?_
  refine q_iload_n 1 C dX6_isBurst_4 rfl ?_
  refine q_ishr C dX6_isBurst_5 ?_
  refine q_iconst (v := (1 : Int32)) C dX6_isBurst_6 (by decide) ?_
  refine q_iand C dX6_isBurst_7 ?_
  refine q_iconst (v := (1 : Int32)) C dX6_isBurst_8 (by decide) ?_
  refine q_icmp_ne (tgt := 16) C dX6_isBurst_9 (by decide) (fun c3 => ?_) (fun c3 => ?_)
  · have h := ifF c3 h
    refine q_iconst (v := (0 : Int32)) C dX6_isBurst_16 (by decide) ?_
    cases h
    exact q_zretE (w := (0 : Int32)) (by decide) C kf dX6_isBurst_17
  · have h := ifT c3 h
    refine q_iconst (v := (1 : Int32)) C dX6_isBurst_12 (by decide) ?_
    refine q_goto (tgt := 17) C dX6_isBurst_13 (by decide) ?_
    cases h
    exact q_zretE (w := (1 : Int32)) (by decide) C kf dX6_isBurst_17
theorem k_X6_isBurst (l : Launch) (hl : l.stackTraces = false) (G : GG) (l0 : Nat) (l1 : Int32) (M : Mem) (x : Int32) (h : F_X6_isBurst l0 l1 M = some x) : Ct l G yX6_isBurst (.code yX6_isBurst cX6_isBurst 2 (some .boolean)) 7 140 [.ref l0, .int l1] M (rs_pI x) M := by
  refine Ct_of (by decide +kernel) (Nat.le_of_ble_eq_true rfl) fun X e1 e2 e3 C FN hnm => ?_
  subst e1; subst e2
  show wq X 2 0 [(0, .ref l0), (1, .int l1)] [] M
  exact w_X6_isBurst C FN.2.2.2 hl l0 l1 M h FN
/-! X2_easing -/
set_option maxRecDepth 100000 in
set_option maxHeartbeats 4000000 in
theorem w_X2_easing {X : CX} {y : Int32 × Mem} (C : CK X cX2_easing 6 RX2 9 187) (hRO : RO X.2.2.1 X.1.2.2.2.2.1 X.1.2.2.2.2.1.heap) (hl : X.1.2.1.stackTraces = false) (l0 : Nat) (l1 : Nat) (l2 : Int32) (l3 : Int32) (l4 : Int32) (M : Mem) (h : F_X2_easing l0 l1 l2 l3 l4 M = some y) (kf : FIN X (some .int) (rs_mI y) (ms_mI y)) : wq X 6 0 [(0, .ref l0), (1, .ref l1), (2, .int l2), (3, .int l3), (4, .int l4)] [] M := by
  unfold F_X2_easing at h
  refine q_aload_n 0 C dX2_easing_0 rfl ?_
  rcases bdQE h with ⟨e1, h⟩ | ⟨k2, e1, h⟩
  · refine q_getQ0 C fl_RX2_43 rfl e1 dX2_easing_1 ?_
    refine q_nstore (i := 5) (lv' := [(5, .null), (0, .ref l0), (1, .ref l1), (2, .int l2), (3, .int l3), (4, .int l4)]) C dX2_easing_4 (by decide) rfl ?_
    refine q_nload 0 C dX2_easing_6 rfl ?_
    refine q_ifnonnullN C dX2_easing_8 ?_
    refine q_aload_n 1 C dX2_easing_11 rfl ?_
    obtain ⟨v3, e4, h⟩ := bindE h
    refine q_getP C fl_RX2_25 rfl e4 dX2_easing_12 ?_
    refine q_iload_n 4 C dX2_easing_15 rfl ?_
    obtain ⟨v5, e6, h⟩ := bindE h
    refine q_iaload C e6 dX2_easing_16 ?_
    refine q_iload 5 C dX2_easing_17 rfl ?_
    refine q_iadd C dX2_easing_19 ?_
    refine q_aload_n 2 C dX2_easing_20 rfl ?_
    obtain ⟨v7, e8, h⟩ := bindE h
    refine q_getP C fl_RX2_70 rfl e8 dX2_easing_21 ?_
    refine q_iload_n 4 C dX2_easing_24 rfl ?_
    obtain ⟨v9, e10, h⟩ := bindE h
    refine q_iaload C e10 dX2_easing_25 ?_
    refine q_bipush (v := (10 : Int32)) C dX2_easing_26 (by decide) ?_
    refine q_idiv C (by decide) dX2_easing_28 ?_
    refine q_iadd C dX2_easing_29 ?_
    cases h
    exact q_iret C kf dX2_easing_30
  · refine q_getQ1 C fl_RX2_43 rfl e1 dX2_easing_1 ?_
    refine q_astore (i := 5) (lv' := [(5, .ref k2), (0, .ref l0), (1, .ref l1), (2, .int l2), (3, .int l3), (4, .int l4)]) C dX2_easing_4 (by decide) rfl ?_
    refine q_aload 0 C dX2_easing_6 rfl ?_
    refine q_ifnonnull (tgt := 31) C dX2_easing_8 (by decide) ?_
    refine q_aload_n 1 C dX2_easing_31 rfl ?_
    refine q_aload_n 2 C dX2_easing_32 rfl ?_
    refine q_iload_n 3 C dX2_easing_33 rfl ?_
    refine q_iload_n 4 C dX2_easing_34 rfl ?_
    refine q_iload 5 C dX2_easing_35 rfl ?_
    obtain ⟨e11, h⟩ := ckOE h
    obtain ⟨M13, e12, h⟩ := bindE h
    refine q_callV (v := none) [.ref l1, .int l2, .int l3, .int l4] C hRO lk_RX2_110 vk_X2_tellFacts e11 rfl rfl rfl (Nat.le_of_ble_eq_true rfl) (by decide) (by decide) dX2_easing_37 (k_X2_tellFacts X.1.2.1 hl X.2.2.1 l0 l1 l2 l3 l4 M _ e12) ?_
    refine q_bipush (v := (30 : Int32)) C dX2_easing_40 (by decide) ?_
    refine q_iconst (v := (0 : Int32)) C dX2_easing_42 (by decide) ?_
    refine q_aload 0 C dX2_easing_43 rfl ?_
    refine q_aload_n 1 C dX2_easing_45 rfl ?_
    obtain ⟨v15, e16, h⟩ := bindE h
    refine q_getP C fl_RX2_52 rfl e16 dX2_easing_46 ?_
    refine q_aload_n 1 C dX2_easing_49 rfl ?_
    obtain ⟨v17, e18, h⟩ := bindE h
    refine q_getP C fl_RX2_55 rfl e18 dX2_easing_50 ?_
    obtain ⟨e19, h⟩ := ckOE h
    obtain ⟨v22, M21, e20, h⟩ := bd2E h
    refine q_callV (v := some (.int v22)) [.ref v15, .ref v17] C hRO lk_RX2_114 vk_X4_value e19 rfl rfl rfl (Nat.le_of_ble_eq_true rfl) (by decide) (by decide) dX2_easing_53 (k_X4_value X.1.2.1 hl X.2.2.1 k2 v15 v17 M13 _ e20) ?_
    refine q_mmax C ml_RX2_118 mm_max1 mm_3 mm_max4 (by decide) (Nat.le_of_ble_eq_true rfl) dX2_easing_56 ?_
    refine q_mmin C ml_RX2_121 mm_min1 mm_3 mm_min4 (by decide) (Nat.le_of_ble_eq_true rfl) dX2_easing_59 ?_
    cases h
    exact q_iret C kf dX2_easing_62
theorem k_X2_easing (l : Launch) (hl : l.stackTraces = false) (G : GG) (l0 : Nat) (l1 : Nat) (l2 : Int32) (l3 : Int32) (l4 : Int32) (M : Mem) (x : Int32 × Mem) (h : F_X2_easing l0 l1 l2 l3 l4 M = some x) : Ct l G yX2_easing (.code yX2_easing cX2_easing 6 (some .int)) 9 187 [.ref l0, .ref l1, .int l2, .int l3, .int l4] M (rs_mI x) (ms_mI x) := by
  refine Ct_of (by decide +kernel) (Nat.le_of_ble_eq_true rfl) fun X e1 e2 e3 C FN hnm => ?_
  subst e1; subst e2
  show wq X 6 0 [(0, .ref l0), (1, .ref l1), (2, .int l2), (3, .int l3), (4, .int l4)] [] M
  exact w_X2_easing C FN.2.2.2 hl l0 l1 l2 l3 l4 M h FN
/-! X2_enters -/
set_option maxRecDepth 100000 in
set_option maxHeartbeats 4000000 in
theorem w_X2_enters {X : CX} {y : Int32 × Mem} (C : CK X cX2_enters 5 RX2 10 212) (hRO : RO X.2.2.1 X.1.2.2.2.2.1 X.1.2.2.2.2.1.heap) (hl : X.1.2.1.stackTraces = false) (l0 : Nat) (l1 : Nat) (l2 : Int32) (l3 : Int32) (l4 : Int32) (M : Mem) (h : F_X2_enters l0 l1 l2 l3 l4 M = some y) (kf : FIN X (some .boolean) (rs_mI y) (ms_mI y)) : wq X 5 0 [(0, .ref l0), (1, .ref l1), (2, .int l2), (3, .int l3), (4, .int l4)] [] M := by
  unfold F_X2_enters at h
  refine q_aload_n 1 C dX2_enters_0 rfl ?_
  refine q_iload_n 3 C dX2_enters_1 rfl ?_
  obtain ⟨e1, h⟩ := ckOE h
  obtain ⟨v3, e2, h⟩ := bindE h
  refine q_callV (v := some (.int v3)) [.int l3] C hRO lk_RX2_124 vk_X6_isBurst e1 rfl rfl rfl (Nat.le_of_ble_eq_true rfl) (by decide) (by decide) dX2_enters_2 (k_X6_isBurst X.1.2.1 hl X.2.2.1 l1 l3 M _ e2) ?_
  refine q_if_ne (tgt := 30) C dX2_enters_5 (by decide) (fun c4 => ?_) (fun c4 => ?_)
  · have h := ifF c4 h
    refine q_iconst (v := (0 : Int32)) C dX2_enters_30 (by decide) ?_
    cases h
    exact q_zretE (w := (0 : Int32)) (by decide) C kf dX2_enters_31
  · have h := ifT c4 h
    refine q_aload_n 1 C dX2_enters_8 rfl ?_
    refine q_iload_n 2 C dX2_enters_9 rfl ?_
    refine q_iload_n 3 C dX2_enters_10 rfl ?_
    obtain ⟨e5, h⟩ := ckOE h
    obtain ⟨v7, e6, h⟩ := bindE h
    refine q_callV (v := some (.int v7)) [.int l2, .int l3] C hRO lk_RX2_128 vk_X6_tight e5 rfl rfl rfl (Nat.le_of_ble_eq_true rfl) (by decide) (by decide) dX2_enters_11 (k_X6_tight X.1.2.1 hl X.2.2.1 l1 l2 l3 M _ e6) ?_
    refine q_aload_n 0 C dX2_enters_14 rfl ?_
    refine q_aload_n 1 C dX2_enters_15 rfl ?_
    refine q_iload_n 2 C dX2_enters_16 rfl ?_
    refine q_iload_n 3 C dX2_enters_17 rfl ?_
    refine q_iload 4 C dX2_enters_18 rfl ?_
    obtain ⟨e8, h⟩ := ckOE h
    obtain ⟨v11, M10, e9, h⟩ := bd2E h
    refine q_callV (v := some (.int v11)) [.ref l1, .int l2, .int l3, .int l4] C hRO lk_RX2_131 vk_X2_easing e8 rfl rfl rfl (Nat.le_of_ble_eq_true rfl) (by decide) (by decide) dX2_enters_20 (k_X2_easing X.1.2.1 hl X.2.2.1 l0 l1 l2 l3 l4 M _ e9) ?_
    refine q_icmp_gt (tgt := 30) C dX2_enters_23 (by decide) (fun c12 => ?_) (fun c12 => ?_)
    · have h := ifT c12 h
      refine q_iconst (v := (0 : Int32)) C dX2_enters_30 (by decide) ?_
      cases h
      exact q_zretE (w := (0 : Int32)) (by decide) C kf dX2_enters_31
    · have h := ifF c12 h
      refine q_iconst (v := (1 : Int32)) C dX2_enters_26 (by decide) ?_
      refine q_goto (tgt := 31) C dX2_enters_27 (by decide) ?_
      cases h
      exact q_zretE (w := (1 : Int32)) (by decide) C kf dX2_enters_31
theorem k_X2_enters (l : Launch) (hl : l.stackTraces = false) (G : GG) (l0 : Nat) (l1 : Nat) (l2 : Int32) (l3 : Int32) (l4 : Int32) (M : Mem) (x : Int32 × Mem) (h : F_X2_enters l0 l1 l2 l3 l4 M = some x) : Ct l G yX2_enters (.code yX2_enters cX2_enters 5 (some .boolean)) 10 212 [.ref l0, .ref l1, .int l2, .int l3, .int l4] M (rs_mI x) (ms_mI x) := by
  refine Ct_of (by decide +kernel) (Nat.le_of_ble_eq_true rfl) fun X e1 e2 e3 C FN hnm => ?_
  subst e1; subst e2
  show wq X 5 0 [(0, .ref l0), (1, .ref l1), (2, .int l2), (3, .int l3), (4, .int l4)] [] M
  exact w_X2_enters C FN.2.2.2 hl l0 l1 l2 l3 l4 M h FN
/-! X6_settle -/
set_option maxRecDepth 100000 in
set_option maxHeartbeats 4000000 in
theorem w_X6_settle {X : CX} {y : Mem} (C : CK X cX6_settle 3 RX6 7 140) (hRO : RO X.2.2.1 X.1.2.2.2.2.1 X.1.2.2.2.2.1.heap) (hl : X.1.2.1.stackTraces = false) (l0 : Nat) (l1 : Int32) (l2 : Int32) (M : Mem) (h : F_X6_settle l0 l1 l2 M = some y) (kf : FIN X none (rs_mV y) (ms_mV y)) : wq X 3 0 [(0, .ref l0), (1, .int l1), (2, .int l2)] [] M := by
  unfold F_X6_settle at h
  refine q_aload_n 0 C dX6_settle_0 rfl ?_
  obtain ⟨v1, e2, h⟩ := bindE h
  refine q_getP C fl_RX6_35 rfl e2 dX6_settle_1 ?_
  refine q_iload_n 1 C dX6_settle_4 rfl ?_
  refine q_iload_n 2 C dX6_settle_5 rfl ?_
  obtain ⟨M3, e4, h⟩ := bindE h
  refine q_iastore C e4 dX6_settle_6 ?_
  refine q_aload_n 0 C dX6_settle_7 rfl ?_
  obtain ⟨v5, e6, h⟩ := bindE h
  refine q_getP C fl_RX6_29 rfl e6 dX6_settle_8 ?_
  refine q_iload_n 2 C dX6_settle_11 rfl ?_
  refine q_iload_n 1 C dX6_settle_12 rfl ?_
  obtain ⟨M7, e8, h⟩ := bindE h
  refine q_iastore C e8 dX6_settle_13 ?_
  cases h
  exact q_vret C kf dX6_settle_14
theorem k_X6_settle (l : Launch) (hl : l.stackTraces = false) (G : GG) (l0 : Nat) (l1 : Int32) (l2 : Int32) (M : Mem) (x : Mem) (h : F_X6_settle l0 l1 l2 M = some x) : Ct l G yX6_settle (.code yX6_settle cX6_settle 3 none) 7 140 [.ref l0, .int l1, .int l2] M (rs_mV x) (ms_mV x) := by
  refine Ct_of (by decide +kernel) (Nat.le_of_ble_eq_true rfl) fun X e1 e2 e3 C FN hnm => ?_
  subst e1; subst e2
  show wq X 3 0 [(0, .ref l0), (1, .int l1), (2, .int l2)] [] M
  exact w_X6_settle C FN.2.2.2 hl l0 l1 l2 M h FN
/-! X0_row -/
set_option maxRecDepth 100000 in
set_option maxHeartbeats 4000000 in
theorem w_X0_row {X : CX} {y : Nat × Mem} (C : CK X cX0_row 3 RX0 9 183) (hRO : RO X.2.2.1 X.1.2.2.2.2.1 X.1.2.2.2.2.1.heap) (hl : X.1.2.1.stackTraces = false) (l0 : Nat) (l1 : Int32) (M : Mem) (h : F_X0_row l0 l1 M = some y) (kf : FIN X (some (.object "HornHouses$State")) (rs_mR y) (ms_mR y)) : wq X 3 0 [(0, .ref l0), (1, .int l1)] [] M := by
  unfold F_X0_row at h
  refine q_aload_n 0 C dX0_row_0 rfl ?_
  obtain ⟨v1, e2, h⟩ := bindE h
  refine q_getP C fl_RX0_11 rfl e2 dX0_row_1 ?_
  refine q_iload_n 1 C dX0_row_4 rfl ?_
  rcases bdQE h with ⟨e3, h⟩ | ⟨k4, e3, h⟩
  · refine q_aaload0 C e3 dX0_row_5 ?_
    refine q_nstore_n (i := 2) (lv' := [(2, .null), (0, .ref l0), (1, .int l1)]) C dX0_row_6 rfl (by decide) rfl ?_
    refine q_nload_n 0 C dX0_row_7 rfl ?_
    refine q_ifnonnullN C dX0_row_8 ?_
    obtain ⟨M5, e6, h⟩ := bindE h
    refine q_new (ci := 6) C rfl cl_RX0_9 ib_6 in_6 e6 dX0_row_11 ?_
    refine q_dup C dX0_row_14 rfl ?_
    obtain ⟨M8, e7, h⟩ := bindE h
    refine q_callI [] C hRO rfl lk_RX0_32 ik_X6_init rfl rfl (Nat.le_of_ble_eq_true rfl) (by decide) (by decide) dX0_row_15 (k_X6_init X.1.2.1 hl X.2.2.1 M.1.length M5 _ e7) ?_
    refine q_astore_n (i := 2) (lv' := [(2, .ref M.1.length), (0, .ref l0), (1, .int l1)]) C dX0_row_18 rfl (by decide) rfl ?_
    refine q_aload_n 1 C dX0_row_19 rfl ?_
    obtain ⟨v10, e11, h⟩ := bindE h
    refine q_getP C fl_RX0_11 rfl e11 dX0_row_20 ?_
    refine q_iload_n 2 C dX0_row_23 rfl ?_
    refine q_aload_n 0 C dX0_row_24 rfl ?_
    obtain ⟨M12, e13, h⟩ := bindE h
    refine q_aastore C e13 dX0_row_25 ?_
    refine q_aload_n 0 C dX0_row_26 rfl ?_
    cases h
    exact q_aret (Or.inl ⟨_, rfl⟩) C kf dX0_row_27
  · refine q_aaload1 C e3 dX0_row_5 ?_
    refine q_astore_n (i := 2) (lv' := [(2, .ref k4), (0, .ref l0), (1, .int l1)]) C dX0_row_6 rfl (by decide) rfl ?_
    refine q_aload_n 0 C dX0_row_7 rfl ?_
    refine q_ifnonnull (tgt := 26) C dX0_row_8 (by decide) ?_
    refine q_aload_n 0 C dX0_row_26 rfl ?_
    cases h
    exact q_aret (Or.inl ⟨_, rfl⟩) C kf dX0_row_27
theorem k_X0_row (l : Launch) (hl : l.stackTraces = false) (G : GG) (l0 : Nat) (l1 : Int32) (M : Mem) (x : Nat × Mem) (h : F_X0_row l0 l1 M = some x) : Ct l G yX0_row (.code yX0_row cX0_row 3 (some (.object "HornHouses$State"))) 9 183 [.ref l0, .int l1] M (rs_mR x) (ms_mR x) := by
  refine Ct_of (by decide +kernel) (Nat.le_of_ble_eq_true rfl) fun X e1 e2 e3 C FN hnm => ?_
  subst e1; subst e2
  show wq X 3 0 [(0, .ref l0), (1, .int l1)] [] M
  exact w_X0_row C FN.2.2.2 hl l0 l1 M h FN
/-! X0_keep -/
set_option maxRecDepth 100000 in
set_option maxHeartbeats 4000000 in
theorem w_X0_keep_j32 {X : CX} {y : Mem} (C : CK X cX0_keep 2 RX0 10 205) (hRO : RO X.2.2.1 X.1.2.2.2.2.1 X.1.2.2.2.2.1.heap) (hl : X.1.2.1.stackTraces = false) (l0 : Nat) (l1 : Nat) (M : Mem) (h : F_X0_keep_j32 l0 l1 M = some y) (kf : FIN X none (rs_mV y) (ms_mV y)) : wq X 2 32 [(0, .ref l0), (1, .ref l1)] [] M := by
  unfold F_X0_keep_j32 at h
  refine q_aload_n 0 C dX0_keep_32 rfl ?_
  refine q_aload_n 0 C dX0_keep_33 rfl ?_
  obtain ⟨v4, e5, h⟩ := bindE h
  refine q_getI C fl_RX0_17 rfl e5 dX0_keep_34 ?_
  refine q_aload_n 0 C dX0_keep_37 rfl ?_
  obtain ⟨v6, e7, h⟩ := bindE h
  refine q_getI C fl_RX0_21 rfl e7 dX0_keep_38 ?_
  refine q_iadd C dX0_keep_41 ?_
  refine q_bipush (v := (40 : Int32)) C dX0_keep_42 (by decide) ?_
  refine q_irem C (by decide) dX0_keep_44 ?_
  obtain ⟨e8, h⟩ := ckOE h
  obtain ⟨v11, M10, e9, h⟩ := bd2E h
  refine q_callV (v := some (.ref v11)) [.int ((v4 + v6) - (v4 + v6) / (40 : Int32) * (40 : Int32))] C hRO lk_RX0_24 vk_X0_row e8 rfl rfl rfl (Nat.le_of_ble_eq_true rfl) (by decide) (by decide) dX0_keep_45 (k_X0_row X.1.2.1 hl X.2.2.1 l0 ((v4 + v6) - (v4 + v6) / (40 : Int32) * (40 : Int32)) M _ e9) ?_
  refine q_aload_n 1 C dX0_keep_48 rfl ?_
  obtain ⟨e12, h⟩ := ckOE h
  obtain ⟨M14, e13, h⟩ := bindE h
  refine q_callV (v := none) [.ref l1] C hRO lk_RX0_28 vk_X6_copy e12 rfl rfl rfl (Nat.le_of_ble_eq_true rfl) (by decide) (by decide) dX0_keep_49 (k_X6_copy X.1.2.1 hl X.2.2.1 v11 l1 M10 _ e13) ?_
  refine q_aload_n 0 C dX0_keep_52 rfl ?_
  refine q_dup C dX0_keep_53 rfl ?_
  obtain ⟨v16, e17, h⟩ := bindE h
  refine q_getI C fl_RX0_21 rfl e17 dX0_keep_54 ?_
  refine q_iconst (v := (1 : Int32)) C dX0_keep_57 (by decide) ?_
  refine q_iadd C dX0_keep_58 ?_
  obtain ⟨M18, e19, h⟩ := bindE h
  refine q_putI C fp_RX0_21 rfl e19 dX0_keep_59 ?_
  cases h
  exact q_vret C kf dX0_keep_62
set_option maxRecDepth 100000 in
set_option maxHeartbeats 4000000 in
theorem w_X0_keep {X : CX} {y : Mem} (C : CK X cX0_keep 2 RX0 10 205) (hRO : RO X.2.2.1 X.1.2.2.2.2.1 X.1.2.2.2.2.1.heap) (hl : X.1.2.1.stackTraces = false) (l0 : Nat) (l1 : Nat) (M : Mem) (h : F_X0_keep l0 l1 M = some y) (kf : FIN X none (rs_mV y) (ms_mV y)) : wq X 2 0 [(0, .ref l0), (1, .ref l1)] [] M := by
  unfold F_X0_keep at h
  refine q_aload_n 0 C dX0_keep_0 rfl ?_
  obtain ⟨v1, e2, h⟩ := bindE h
  refine q_getI C fl_RX0_21 rfl e2 dX0_keep_1 ?_
  refine q_bipush (v := (40 : Int32)) C dX0_keep_4 (by decide) ?_
  refine q_icmp_lt (tgt := 32) C dX0_keep_6 (by decide) (fun c3 => ?_) (fun c3 => ?_)
  · have h := ifT c3 h
    exact q_sub (lv' := [(0, .ref l0), (1, .ref l1)]) [0, 1] rfl (w_X0_keep_j32 C hRO hl l0 l1 M h kf)
  · have h := ifF c3 h
    refine q_aload_n 0 C dX0_keep_9 rfl ?_
    refine q_aload_n 0 C dX0_keep_10 rfl ?_
    obtain ⟨v20, e21, h⟩ := bindE h
    refine q_getI C fl_RX0_17 rfl e21 dX0_keep_11 ?_
    refine q_iconst (v := (1 : Int32)) C dX0_keep_14 (by decide) ?_
    refine q_iadd C dX0_keep_15 ?_
    refine q_bipush (v := (40 : Int32)) C dX0_keep_16 (by decide) ?_
    refine q_irem C (by decide) dX0_keep_18 ?_
    obtain ⟨M22, e23, h⟩ := bindE h
    refine q_putI C fp_RX0_17 rfl e23 dX0_keep_19 ?_
    refine q_aload_n 0 C dX0_keep_22 rfl ?_
    refine q_dup C dX0_keep_23 rfl ?_
    obtain ⟨v24, e25, h⟩ := bindE h
    refine q_getI C fl_RX0_21 rfl e25 dX0_keep_24 ?_
    refine q_iconst (v := (1 : Int32)) C dX0_keep_27 (by decide) ?_
    refine q_isub C dX0_keep_28 ?_
    obtain ⟨M26, e27, h⟩ := bindE h
    refine q_putI C fp_RX0_21 rfl e27 dX0_keep_29 ?_
    exact q_sub (lv' := [(0, .ref l0), (1, .ref l1)]) [0, 1] rfl (w_X0_keep_j32 C hRO hl l0 l1 M26 h kf)
theorem k_X0_keep (l : Launch) (hl : l.stackTraces = false) (G : GG) (l0 : Nat) (l1 : Nat) (M : Mem) (x : Mem) (h : F_X0_keep l0 l1 M = some x) : Ct l G yX0_keep (.code yX0_keep cX0_keep 2 none) 10 205 [.ref l0, .ref l1] M (rs_mV x) (ms_mV x) := by
  refine Ct_of (by decide +kernel) (Nat.le_of_ble_eq_true rfl) fun X e1 e2 e3 C FN hnm => ?_
  subst e1; subst e2
  show wq X 2 0 [(0, .ref l0), (1, .ref l1)] [] M
  exact w_X0_keep C FN.2.2.2 hl l0 l1 M h FN
/-! X1_all -/
set_option maxRecDepth 100000 in
set_option maxHeartbeats 4000000 in
theorem w_X1_all {X : CX} {y : Int32} (C : CK X cX1_all 1 RX1 7 140) (hRO : RO X.2.2.1 X.1.2.2.2.2.1 X.1.2.2.2.2.1.heap) (hl : X.1.2.1.stackTraces = false) (l0 : Nat) (M : Mem) (h : F_X1_all l0 M = some y) (kf : FIN X (some .int) (rs_pI y) M) : wq X 1 0 [(0, .ref l0)] [] M := by
  unfold F_X1_all at h
  refine q_iconst (v := (1 : Int32)) C dX1_all_0 (by decide) ?_
  refine q_aload_n 0 C dX1_all_1 rfl ?_
  obtain ⟨v1, e2, h⟩ := bindE h
  refine q_getI C fl_RX1_21 rfl e2 dX1_all_2 ?_
  refine q_ishl C dX1_all_5 ?_
  refine q_iconst (v := (1 : Int32)) C dX1_all_6 (by decide) ?_
  refine q_isub C dX1_all_7 ?_
  cases h
  exact q_iret C kf dX1_all_8
theorem k_X1_all (l : Launch) (hl : l.stackTraces = false) (G : GG) (l0 : Nat) (M : Mem) (x : Int32) (h : F_X1_all l0 M = some x) : Ct l G yX1_all (.code yX1_all cX1_all 1 (some .int)) 7 140 [.ref l0] M (rs_pI x) M := by
  refine Ct_of (by decide +kernel) (Nat.le_of_ble_eq_true rfl) fun X e1 e2 e3 C FN hnm => ?_
  subst e1; subst e2
  show wq X 1 0 [(0, .ref l0)] [] M
  exact w_X1_all C FN.2.2.2 hl l0 M h FN
/-! X1_lodge -/
set_option maxRecDepth 100000 in
set_option maxHeartbeats 4000000 in
theorem w_X1_lodge {X : CX} {y : Int32} (C : CK X cX1_lodge 1 RX1 8 160) (hRO : RO X.2.2.1 X.1.2.2.2.2.1 X.1.2.2.2.2.1.heap) (hl : X.1.2.1.stackTraces = false) (l0 : Nat) (M : Mem) (h : F_X1_lodge l0 M = some y) (kf : FIN X (some .int) (rs_pI y) M) : wq X 1 0 [(0, .ref l0)] [] M := by
  unfold F_X1_lodge at h
  refine q_aload_n 0 C dX1_lodge_0 rfl ?_
  obtain ⟨v1, e2, h⟩ := bindE h
  refine q_getP C fl_RX1_11 rfl e2 dX1_lodge_1 ?_
  refine q_aload_n 0 C dX1_lodge_4 rfl ?_
  obtain ⟨e3, h⟩ := ckOE h
  obtain ⟨v5, e4, h⟩ := bindE h
  refine q_callV (v := some (.int v5)) [] C hRO lk_RX1_51 vk_X1_all e3 rfl rfl rfl (Nat.le_of_ble_eq_true rfl) (by decide) (by decide) dX1_lodge_5 (k_X1_all X.1.2.1 hl X.2.2.1 l0 M _ e4) ?_
  obtain ⟨v6, e7, h⟩ := bindE h
  refine q_iaload C e7 dX1_lodge_8 ?_
  refine q_sipush (v := (1000 : Int32)) C dX1_lodge_9 (by decide) ?_
  refine q_idiv C (by decide) dX1_lodge_12 ?_
  cases h
  exact q_iret C kf dX1_lodge_13
theorem k_X1_lodge (l : Launch) (hl : l.stackTraces = false) (G : GG) (l0 : Nat) (M : Mem) (x : Int32) (h : F_X1_lodge l0 M = some x) : Ct l G yX1_lodge (.code yX1_lodge cX1_lodge 1 (some .int)) 8 160 [.ref l0] M (rs_pI x) M := by
  refine Ct_of (by decide +kernel) (Nat.le_of_ble_eq_true rfl) fun X e1 e2 e3 C FN hnm => ?_
  subst e1; subst e2
  show wq X 1 0 [(0, .ref l0)] [] M
  exact w_X1_lodge C FN.2.2.2 hl l0 M h FN
/-! X1_lodgeWithout -/
set_option maxRecDepth 100000 in
set_option maxHeartbeats 4000000 in
theorem w_X1_lodgeWithout {X : CX} {y : Int32} (C : CK X cX1_lodgeWithout 2 RX1 8 160) (hRO : RO X.2.2.1 X.1.2.2.2.2.1 X.1.2.2.2.2.1.heap) (hl : X.1.2.1.stackTraces = false) (l0 : Nat) (l1 : Int32) (M : Mem) (h : F_X1_lodgeWithout l0 l1 M = some y) (kf : FIN X (some .int) (rs_pI y) M) : wq X 2 0 [(0, .ref l0), (1, .int l1)] [] M := by
  unfold F_X1_lodgeWithout at h
  refine q_aload_n 0 C dX1_lodgeWithout_0 rfl ?_
  obtain ⟨v1, e2, h⟩ := bindE h
  refine q_getP C fl_RX1_11 rfl e2 dX1_lodgeWithout_1 ?_
  refine q_aload_n 0 C dX1_lodgeWithout_4 rfl ?_
  obtain ⟨e3, h⟩ := ckOE h
  obtain ⟨v5, e4, h⟩ := bindE h
  refine q_callV (v := some (.int v5)) [] C hRO lk_RX1_51 vk_X1_all e3 rfl rfl rfl (Nat.le_of_ble_eq_true rfl) (by decide) (by decide) dX1_lodgeWithout_5 (k_X1_all X.1.2.1 hl X.2.2.1 l0 M _ e4) ?_
  refine q_iconst (v := (1 : Int32)) C dX1_lodgeWithout_8 (by decide) ?_
  refine q_iload_n 1 C dX1_lodgeWithout_9 rfl ?_
  refine q_ishl C dX1_lodgeWithout_10 ?_
  refine q_iconst (v := (-1 : Int32)) C dX1_lodgeWithout_11 (by decide) ?_
  refine q_ixor C dX1_lodgeWithout_12 ?_
  refine q_iand C dX1_lodgeWithout_13 ?_
  obtain ⟨v6, e7, h⟩ := bindE h
  refine q_iaload C e7 dX1_lodgeWithout_14 ?_
  refine q_sipush (v := (1000 : Int32)) C dX1_lodgeWithout_15 (by decide) ?_
  refine q_idiv C (by decide) dX1_lodgeWithout_18 ?_
  cases h
  exact q_iret C kf dX1_lodgeWithout_19
theorem k_X1_lodgeWithout (l : Launch) (hl : l.stackTraces = false) (G : GG) (l0 : Nat) (l1 : Int32) (M : Mem) (x : Int32) (h : F_X1_lodgeWithout l0 l1 M = some x) : Ct l G yX1_lodgeWithout (.code yX1_lodgeWithout cX1_lodgeWithout 2 (some .int)) 8 160 [.ref l0, .int l1] M (rs_pI x) M := by
  refine Ct_of (by decide +kernel) (Nat.le_of_ble_eq_true rfl) fun X e1 e2 e3 C FN hnm => ?_
  subst e1; subst e2
  show wq X 2 0 [(0, .ref l0), (1, .int l1)] [] M
  exact w_X1_lodgeWithout C FN.2.2.2 hl l0 l1 M h FN
/-! X1_pick -/
set_option maxRecDepth 100000 in
set_option maxHeartbeats 4000000 in
theorem w_X1_pick_s23 {X : CX} {y : (Int32 × Int32 × Int32) ⊕ (Int32 × Int32)} (C : CK X cX1_pick 7 RX1 7 140) (hRO : RO X.2.2.1 X.1.2.2.2.2.1 X.1.2.2.2.2.1.heap) (hl : X.1.2.1.stackTraces = false) (l0 : Nat) (l1 : Int32) (l2 : Int32) (M : Mem) (l3 : Int32) (l4 : Int32) (l5 : Int32) (h : F_X1_pick_s23 l0 l2 M l3 l4 l5 = some y) (kc : ∀ s' : Int32 × Int32 × Int32, y = .inl s' → wq X 7 23 [(0, .ref l0), (1, .int l1), (2, .int l2), (3, .int (s'.1)), (4, .int (s'.2.1)), (5, .int (s'.2.2))] [] M) (kx : ∀ e' : Int32 × Int32, y = (.inr e') → wq X 7 91 [(0, .ref l0), (1, .int l1), (2, .int l2), (3, .int (e'.1)), (4, .int (e'.2))] [] M) : wq X 7 23 [(0, .ref l0), (1, .int l1), (2, .int l2), (3, .int l3), (4, .int l4), (5, .int l5)] [] M := by
  unfold F_X1_pick_s23 at h
  refine q_iload 5 C dX1_pick_23 rfl ?_
  refine q_if_lt (tgt := 91) C dX1_pick_25 (by decide) (fun c7 => ?_) (fun c7 => ?_)
  · have h := ifT c7 h
    exact q_sub (lv' := [(0, .ref l0), (1, .int l1), (2, .int l2), (3, .int l3), (4, .int l4)]) [0, 1, 2, 3, 4] rfl (kx (l3, l4) (someI h))
  · have h := ifF c7 h
    refine q_aload_n 0 C dX1_pick_28 rfl ?_
    obtain ⟨v8, e9, h⟩ := bindE h
    refine q_getP C fl_RX1_18 rfl e9 dX1_pick_29 ?_
    refine q_iload 5 C dX1_pick_32 rfl ?_
    obtain ⟨v10, e11, h⟩ := bindE h
    refine q_iaload C e11 dX1_pick_34 ?_
    refine q_iconst (v := (-1 : Int32)) C dX1_pick_35 (by decide) ?_
    refine q_icmp_eq (tgt := 85) C dX1_pick_36 (by decide) (fun c12 => ?_) (fun c12 => ?_)
    · have h := ifT c12 h
      refine q_iinc 5 (v := (l5 + (-1 : Int32))) (lv' := [(5, .int (l5 + (-1 : Int32))), (0, .ref l0), (1, .int l1), (2, .int l2), (3, .int l3), (4, .int l4)]) C dX1_pick_85 rfl rfl (by decide) rfl ?_
      refine q_goto (tgt := 23) C dX1_pick_88 (by decide) ?_
      exact q_sub (lv' := [(0, .ref l0), (1, .int l1), (2, .int l2), (3, .int l3), (4, .int l4), (5, .int (l5 + (-1 : Int32)))]) [1, 2, 3, 4, 5, 0] rfl (kc (l3, l4, (l5 + (-1 : Int32))) (someI h))
    · have h := ifF c12 h
      refine q_iload_n 2 C dX1_pick_39 rfl ?_
      refine q_iload 5 C dX1_pick_40 rfl ?_
      refine q_ishr C dX1_pick_42 ?_
      refine q_iconst (v := (1 : Int32)) C dX1_pick_43 (by decide) ?_
      refine q_iand C dX1_pick_44 ?_
      refine q_iconst (v := (1 : Int32)) C dX1_pick_45 (by decide) ?_
      refine q_icmp_ne (tgt := 85) C dX1_pick_46 (by decide) (fun c13 => ?_) (fun c13 => ?_)
      · have h := ifF c13 h
        refine q_iinc 5 (v := (l5 + (-1 : Int32))) (lv' := [(5, .int (l5 + (-1 : Int32))), (0, .ref l0), (1, .int l1), (2, .int l2), (3, .int l3), (4, .int l4)]) C dX1_pick_85 rfl rfl (by decide) rfl ?_
        refine q_goto (tgt := 23) C dX1_pick_88 (by decide) ?_
        exact q_sub (lv' := [(0, .ref l0), (1, .int l1), (2, .int l2), (3, .int l3), (4, .int l4), (5, .int (l5 + (-1 : Int32)))]) [1, 2, 3, 4, 5, 0] rfl (kc (l3, l4, (l5 + (-1 : Int32))) (someI h))
      · have h := ifT c13 h
        refine q_aload_n 0 C dX1_pick_49 rfl ?_
        obtain ⟨v14, e15, h⟩ := bindE h
        refine q_getP C fl_RX1_11 rfl e15 dX1_pick_50 ?_
        refine q_iload_n 2 C dX1_pick_53 rfl ?_
        refine q_iconst (v := (1 : Int32)) C dX1_pick_54 (by decide) ?_
        refine q_iload 5 C dX1_pick_55 rfl ?_
        refine q_ishl C dX1_pick_57 ?_
        refine q_iconst (v := (-1 : Int32)) C dX1_pick_58 (by decide) ?_
        refine q_ixor C dX1_pick_59 ?_
        refine q_iand C dX1_pick_60 ?_
        obtain ⟨v16, e17, h⟩ := bindE h
        refine q_iaload C e17 dX1_pick_61 ?_
        refine q_aload_n 0 C dX1_pick_62 rfl ?_
        obtain ⟨v18, e19, h⟩ := bindE h
        refine q_getP C fl_RX1_18 rfl e19 dX1_pick_63 ?_
        refine q_iload 5 C dX1_pick_66 rfl ?_
        obtain ⟨v20, e21, h⟩ := bindE h
        refine q_iaload C e21 dX1_pick_68 ?_
        refine q_iadd C dX1_pick_69 ?_
        refine q_istore (i := 6) (lv' := [(6, .int (v16 + v20)), (0, .ref l0), (1, .int l1), (2, .int l2), (3, .int l3), (4, .int l4), (5, .int l5)]) C dX1_pick_70 (by decide) rfl ?_
        refine q_iload 0 C dX1_pick_72 rfl ?_
        refine q_iload_n 4 C dX1_pick_74 rfl ?_
        refine q_icmp_gt (tgt := 85) C dX1_pick_75 (by decide) (fun c22 => ?_) (fun c22 => ?_)
        · have h := ifT c22 h
          refine q_iinc 6 (v := (l5 + (-1 : Int32))) (lv' := [(5, .int (l5 + (-1 : Int32))), (6, .int (v16 + v20)), (0, .ref l0), (1, .int l1), (2, .int l2), (3, .int l3), (4, .int l4)]) C dX1_pick_85 rfl rfl (by decide) rfl ?_
          refine q_goto (tgt := 23) C dX1_pick_88 (by decide) ?_
          exact q_sub (lv' := [(0, .ref l0), (1, .int l1), (2, .int l2), (3, .int l3), (4, .int l4), (5, .int (l5 + (-1 : Int32)))]) [2, 3, 4, 5, 6, 0] rfl (kc (l3, l4, (l5 + (-1 : Int32))) (someI h))
        · have h := ifF c22 h
          refine q_iload 0 C dX1_pick_78 rfl ?_
          refine q_istore_n (i := 3) (lv' := [(3, .int (v16 + v20)), (6, .int (v16 + v20)), (0, .ref l0), (1, .int l1), (2, .int l2), (4, .int l4), (5, .int l5)]) C dX1_pick_80 rfl (by decide) rfl ?_
          refine q_iload 6 C dX1_pick_81 rfl ?_
          refine q_istore (i := 4) (lv' := [(4, .int l5), (3, .int (v16 + v20)), (6, .int (v16 + v20)), (0, .ref l0), (1, .int l1), (2, .int l2), (5, .int l5)]) C dX1_pick_83 (by decide) rfl ?_
          refine q_iinc 6 (v := (l5 + (-1 : Int32))) (lv' := [(5, .int (l5 + (-1 : Int32))), (4, .int l5), (3, .int (v16 + v20)), (6, .int (v16 + v20)), (0, .ref l0), (1, .int l1), (2, .int l2)]) C dX1_pick_85 rfl rfl (by decide) rfl ?_
          refine q_goto (tgt := 23) C dX1_pick_88 (by decide) ?_
          exact q_sub (lv' := [(0, .ref l0), (1, .int l1), (2, .int l2), (3, .int (v16 + v20)), (4, .int l5), (5, .int (l5 + (-1 : Int32)))]) [4, 5, 6, 2, 1, 0] rfl (kc ((v16 + v20), l5, (l5 + (-1 : Int32))) (someI h))
theorem w_X1_pick_l23 {X : CX} {r : Int32 × Int32} (C : CK X cX1_pick 7 RX1 7 140) (hRO : RO X.2.2.1 X.1.2.2.2.2.1 X.1.2.2.2.2.1.heap) (hl : X.1.2.1.stackTraces = false) (l0 : Nat) (l1 : Int32) (l2 : Int32) (M : Mem) (l3 : Int32) (l4 : Int32) (l5 : Int32) (h : loop (fun s => F_X1_pick_s23 l0 l2 M s.1 s.2.1 s.2.2) (l3, l4, l5) = some r) (kx : ∀ e' : Int32 × Int32, r = e' → wq X 7 91 [(0, .ref l0), (1, .int l1), (2, .int l2), (3, .int (e'.1)), (4, .int (e'.2))] [] M) : wq X 7 23 [(0, .ref l0), (1, .int l1), (2, .int l2), (3, .int l3), (4, .int l4), (5, .int l5)] [] M :=
  loop_ind (P := fun s => wq X 7 23 [(0, .ref l0), (1, .int l1), (2, .int l2), (3, .int s.1), (4, .int s.2.1), (5, .int s.2.2)] [] M) h (fun s y hy kc kr => w_X1_pick_s23 C hRO hl l0 l1 l2 M s.1 s.2.1 s.2.2 hy kc (fun e' he => kx e' (kr _ he).symm))
set_option maxRecDepth 100000 in
set_option maxHeartbeats 4000000 in
theorem w_X1_pick {X : CX} {y : Mem} (C : CK X cX1_pick 7 RX1 7 140) (hRO : RO X.2.2.1 X.1.2.2.2.2.1 X.1.2.2.2.2.1.heap) (hl : X.1.2.1.stackTraces = false) (l0 : Nat) (l1 : Int32) (l2 : Int32) (M : Mem) (h : F_X1_pick l0 l1 l2 M = some y) (kf : FIN X none (rs_mV y) (ms_mV y)) : wq X 7 0 [(0, .ref l0), (1, .int l1), (2, .int l2)] [] M := by
  unfold F_X1_pick at h
  refine q_aload_n 0 C dX1_pick_0 rfl ?_
  obtain ⟨v1, e2, h⟩ := bindE h
  refine q_getP C fl_RX1_11 rfl e2 dX1_pick_1 ?_
  refine q_iload_n 2 C dX1_pick_4 rfl ?_
  obtain ⟨v3, e4, h⟩ := bindE h
  refine q_iaload C e4 dX1_pick_5 ?_
  refine q_sipush (v := (1000 : Int32)) C dX1_pick_6 (by decide) ?_
  refine q_iadd C dX1_pick_9 ?_
  refine q_istore_n (i := 3) (lv' := [(3, .int (v3 + (1000 : Int32))), (0, .ref l0), (1, .int l1), (2, .int l2)]) C dX1_pick_10 rfl (by decide) rfl ?_
  refine q_bipush (v := (15 : Int32)) C dX1_pick_11 (by decide) ?_
  refine q_istore (i := 4) (lv' := [(4, .int (15 : Int32)), (3, .int (v3 + (1000 : Int32))), (0, .ref l0), (1, .int l1), (2, .int l2)]) C dX1_pick_13 (by decide) rfl ?_
  refine q_aload_n 2 C dX1_pick_15 rfl ?_
  obtain ⟨v5, e6, h⟩ := bindE h
  refine q_getI C fl_RX1_21 rfl e6 dX1_pick_16 ?_
  refine q_iconst (v := (1 : Int32)) C dX1_pick_19 (by decide) ?_
  refine q_isub C dX1_pick_20 ?_
  refine q_istore (i := 5) (lv' := [(5, .int (v5 - (1 : Int32))), (4, .int (15 : Int32)), (3, .int (v3 + (1000 : Int32))), (0, .ref l0), (1, .int l1), (2, .int l2)]) C dX1_pick_21 (by decide) rfl ?_
  obtain ⟨⟨x25, x26⟩, e24, h⟩ := bindE h
  refine q_sub (lv' := [(0, .ref l0), (1, .int l1), (2, .int l2), (3, .int (v3 + (1000 : Int32))), (4, .int (15 : Int32)), (5, .int (v5 - (1 : Int32)))]) [3, 4, 5, 2, 1, 0] rfl (w_X1_pick_l23 C hRO hl l0 l1 l2 M (v3 + (1000 : Int32)) (15 : Int32) (v5 - (1 : Int32)) e24 (fun r23 he => ?_))
  subst he
  have h := u2E h
  show wq X 7 91 [(0, .ref l0), (1, .int l1), (2, .int l2), (3, .int x25), (4, .int x26)] [] M
  refine q_aload_n 0 C dX1_pick_91 rfl ?_
  obtain ⟨v27, e28, h⟩ := bindE h
  refine q_getP C fl_RX1_11 rfl e28 dX1_pick_92 ?_
  refine q_iload_n 2 C dX1_pick_95 rfl ?_
  refine q_iload_n 3 C dX1_pick_96 rfl ?_
  obtain ⟨M29, e30, h⟩ := bindE h
  refine q_iastore C e30 dX1_pick_97 ?_
  refine q_aload_n 0 C dX1_pick_98 rfl ?_
  obtain ⟨v31, e32, h⟩ := bindE h
  refine q_getP C fl_RX1_15 rfl e32 dX1_pick_99 ?_
  refine q_iload_n 2 C dX1_pick_102 rfl ?_
  refine q_dup2 C dX1_pick_103 rfl rfl ?_
  obtain ⟨v33, e34, h⟩ := bindE h
  refine q_iaload C e34 dX1_pick_104 ?_
  refine q_iload 4 C dX1_pick_105 rfl ?_
  refine q_iconst (v := (4 : Int32)) C dX1_pick_107 (by decide) ?_
  refine q_iload_n 1 C dX1_pick_108 rfl ?_
  refine q_imul C dX1_pick_109 ?_
  refine q_ishl C dX1_pick_110 ?_
  refine q_ior C dX1_pick_111 ?_
  obtain ⟨M35, e36, h⟩ := bindE h
  refine q_iastore C e36 dX1_pick_112 ?_
  cases h
  exact q_vret C kf dX1_pick_113
theorem k_X1_pick (l : Launch) (hl : l.stackTraces = false) (G : GG) (l0 : Nat) (l1 : Int32) (l2 : Int32) (M : Mem) (x : Mem) (h : F_X1_pick l0 l1 l2 M = some x) : Ct l G yX1_pick (.code yX1_pick cX1_pick 7 none) 7 140 [.ref l0, .int l1, .int l2] M (rs_mV x) (ms_mV x) := by
  refine Ct_of (by decide +kernel) (Nat.le_of_ble_eq_true rfl) fun X e1 e2 e3 C FN hnm => ?_
  subst e1; subst e2
  show wq X 7 0 [(0, .ref l0), (1, .int l1), (2, .int l2)] [] M
  exact w_X1_pick C FN.2.2.2 hl l0 l1 l2 M h FN
/-! X1_solve -/
set_option maxRecDepth 100000 in
set_option maxHeartbeats 4000000 in
theorem w_X1_solve_s46 {X : CX} {y : (Int32 × Mem) ⊕ (Mem)} (C : CK X cX1_solve 7 RX1 11 236) (hRO : RO X.2.2.1 X.1.2.2.2.2.1 X.1.2.2.2.2.1.heap) (hl : X.1.2.1.stackTraces = false) (l0 : Nat) (l1 : Nat) (l2 : Nat) (l3 : Int32) (l4 : Int32) (l5 : Int32) (M : Mem) (h : F_X1_solve_s46 l0 l1 l2 l3 l4 l5 M = some y) (kc : ∀ s' : Int32 × Mem, y = .inl s' → wq X 7 46 [(0, .ref l0), (1, .ref l1), (2, .ref l2), (3, .int l3), (4, .int l4), (5, .int (s'.1))] [] s'.2) (kx : ∀ e' : Mem, y = (.inr e') → wq X 7 97 [(0, .ref l0), (1, .ref l1), (2, .ref l2), (3, .int l3), (4, .int l4)] [] e') : wq X 7 46 [(0, .ref l0), (1, .ref l1), (2, .ref l2), (3, .int l3), (4, .int l4), (5, .int l5)] [] M := by
  unfold F_X1_solve_s46 at h
  refine q_iload 5 C dX1_solve_46 rfl ?_
  refine q_aload_n 0 C dX1_solve_48 rfl ?_
  obtain ⟨v21, e22, h⟩ := bindE h
  refine q_getI C fl_RX1_21 rfl e22 dX1_solve_49 ?_
  refine q_icmp_ge (tgt := 97) C dX1_solve_52 (by decide) (fun c23 => ?_) (fun c23 => ?_)
  · have h := ifT c23 h
    exact q_sub (lv' := [(0, .ref l0), (1, .ref l1), (2, .ref l2), (3, .int l3), (4, .int l4)]) [0, 1, 2, 3, 4] rfl (kx M (someI h))
  · have h := ifF c23 h
    refine q_aload_n 1 C dX1_solve_55 rfl ?_
    refine q_aload_n 2 C dX1_solve_56 rfl ?_
    refine q_iload 4 C dX1_solve_57 rfl ?_
    refine q_iload 5 C dX1_solve_59 rfl ?_
    refine q_iload_n 3 C dX1_solve_61 rfl ?_
    obtain ⟨e24, h⟩ := ckOE h
    obtain ⟨v27, M26, e25, h⟩ := bd2E h
    refine q_callV (v := some (.int v27)) [.ref l2, .int l4, .int l5, .int l3] C hRO lk_RX1_41 vk_X2_enters e24 rfl rfl rfl (Nat.le_of_ble_eq_true rfl) (by decide) (by decide) dX1_solve_62 (k_X2_enters X.1.2.1 hl X.2.2.1 l1 l2 l4 l5 l3 M _ e25) ?_
    refine q_istore (i := 6) (lv' := [(6, .int v27), (0, .ref l0), (1, .ref l1), (2, .ref l2), (3, .int l3), (4, .int l4), (5, .int l5)]) C dX1_solve_65 (by decide) rfl ?_
    refine q_aload_n 1 C dX1_solve_67 rfl ?_
    obtain ⟨v28, e29, h⟩ := bindE h
    refine q_getP C fl_RX1_18 rfl e29 dX1_solve_68 ?_
    refine q_iload 6 C dX1_solve_71 rfl ?_
    refine q_iload 0 C dX1_solve_73 rfl ?_
    refine q_if_eq (tgt := 89) C dX1_solve_75 (by decide) (fun c30 => ?_) (fun c30 => ?_)
    · have h := ifT c30 h
      refine q_iconst (v := (-1 : Int32)) C dX1_solve_89 (by decide) ?_
      obtain ⟨M31, e32, h⟩ := bindE h
      refine q_iastore C e32 dX1_solve_90 ?_
      refine q_iinc 6 (v := (l5 + (1 : Int32))) (lv' := [(5, .int (l5 + (1 : Int32))), (6, .int v27), (0, .ref l0), (1, .ref l1), (2, .ref l2), (3, .int l3), (4, .int l4)]) C dX1_solve_91 rfl rfl (by decide) rfl ?_
      refine q_goto (tgt := 46) C dX1_solve_94 (by decide) ?_
      exact q_sub (lv' := [(0, .ref l0), (1, .ref l1), (2, .ref l2), (3, .int l3), (4, .int l4), (5, .int (l5 + (1 : Int32)))]) [2, 3, 4, 5, 6, 0] rfl (kc ((l5 + (1 : Int32)), M31) (someI h))
    · have h := ifF c30 h
      refine q_aload_n 3 C dX1_solve_78 rfl ?_
      refine q_iload 5 C dX1_solve_79 rfl ?_
      refine q_iload 6 C dX1_solve_81 rfl ?_
      obtain ⟨e33, h⟩ := ckOE h
      obtain ⟨v35, e34, h⟩ := bindE h
      refine q_callV (v := some (.int v35)) [.int l4, .int l5] C hRO lk_RX1_45 vk_X6_tight e33 rfl rfl rfl (Nat.le_of_ble_eq_true rfl) (by decide) (by decide) dX1_solve_83 (k_X6_tight X.1.2.1 hl X.2.2.1 l2 l4 l5 M26 _ e34) ?_
      refine q_goto (tgt := 90) C dX1_solve_86 (by decide) ?_
      obtain ⟨M36, e37, h⟩ := bindE h
      refine q_iastore C e37 dX1_solve_90 ?_
      refine q_iinc 6 (v := (l5 + (1 : Int32))) (lv' := [(5, .int (l5 + (1 : Int32))), (6, .int v27), (0, .ref l0), (1, .ref l1), (2, .ref l2), (3, .int l3), (4, .int l4)]) C dX1_solve_91 rfl rfl (by decide) rfl ?_
      refine q_goto (tgt := 46) C dX1_solve_94 (by decide) ?_
      exact q_sub (lv' := [(0, .ref l0), (1, .ref l1), (2, .ref l2), (3, .int l3), (4, .int l4), (5, .int (l5 + (1 : Int32)))]) [2, 3, 4, 5, 6, 0] rfl (kc ((l5 + (1 : Int32)), M36) (someI h))
theorem w_X1_solve_l46 {X : CX} {r : Mem} (C : CK X cX1_solve 7 RX1 11 236) (hRO : RO X.2.2.1 X.1.2.2.2.2.1 X.1.2.2.2.2.1.heap) (hl : X.1.2.1.stackTraces = false) (l0 : Nat) (l1 : Nat) (l2 : Nat) (l3 : Int32) (l4 : Int32) (l5 : Int32) (M : Mem) (h : loop (fun s => F_X1_solve_s46 l0 l1 l2 l3 l4 s.1 s.2) (l5, M) = some r) (kx : ∀ e' : Mem, r = e' → wq X 7 97 [(0, .ref l0), (1, .ref l1), (2, .ref l2), (3, .int l3), (4, .int l4)] [] e') : wq X 7 46 [(0, .ref l0), (1, .ref l1), (2, .ref l2), (3, .int l3), (4, .int l4), (5, .int l5)] [] M :=
  loop_ind (P := fun s => wq X 7 46 [(0, .ref l0), (1, .ref l1), (2, .ref l2), (3, .int l3), (4, .int l4), (5, .int s.1)] [] s.2) h (fun s y hy kc kr => w_X1_solve_s46 C hRO hl l0 l1 l2 l3 l4 s.1 s.2 hy kc (fun e' he => kx e' (kr _ he).symm))
set_option maxRecDepth 100000 in
set_option maxHeartbeats 4000000 in
theorem w_X1_solve_s103 {X : CX} {y : (Int32 × Mem) ⊕ (Mem)} (C : CK X cX1_solve 7 RX1 11 236) (hRO : RO X.2.2.1 X.1.2.2.2.2.1 X.1.2.2.2.2.1.heap) (hl : X.1.2.1.stackTraces = false) (l0 : Nat) (l1 : Nat) (l2 : Nat) (l3 : Int32) (l4 : Int32) (l5 : Int32) (M : Mem) (h : F_X1_solve_s103 l0 l4 l5 M = some y) (kc : ∀ s' : Int32 × Mem, y = .inl s' → wq X 7 103 [(0, .ref l0), (1, .ref l1), (2, .ref l2), (3, .int l3), (4, .int l4), (5, .int (s'.1))] [] s'.2) (kx : ∀ e' : Mem, y = (.inr e') → wq X 7 122 [(0, .ref l0), (1, .ref l1), (2, .ref l2), (3, .int l3), (4, .int l4)] [] e') : wq X 7 103 [(0, .ref l0), (1, .ref l1), (2, .ref l2), (3, .int l3), (4, .int l4), (5, .int l5)] [] M := by
  unfold F_X1_solve_s103 at h
  refine q_iload 5 C dX1_solve_103 rfl ?_
  refine q_if_lt (tgt := 122) C dX1_solve_105 (by decide) (fun c44 => ?_) (fun c44 => ?_)
  · have h := ifT c44 h
    exact q_sub (lv' := [(0, .ref l0), (1, .ref l1), (2, .ref l2), (3, .int l3), (4, .int l4)]) [0, 1, 2, 3, 4] rfl (kx M (someI h))
  · have h := ifF c44 h
    refine q_aload_n 0 C dX1_solve_108 rfl ?_
    refine q_iload 4 C dX1_solve_109 rfl ?_
    refine q_iload 5 C dX1_solve_111 rfl ?_
    obtain ⟨e45, h⟩ := ckOE h
    obtain ⟨M47, e46, h⟩ := bindE h
    refine q_callV (v := none) [.int l4, .int l5] C hRO lk_RX1_55 vk_X1_pick e45 rfl rfl rfl (Nat.le_of_ble_eq_true rfl) (by decide) (by decide) dX1_solve_113 (k_X1_pick X.1.2.1 hl X.2.2.1 l0 l4 l5 M _ e46) ?_
    refine q_iinc 5 (v := (l5 + (-1 : Int32))) (lv' := [(5, .int (l5 + (-1 : Int32))), (0, .ref l0), (1, .ref l1), (2, .ref l2), (3, .int l3), (4, .int l4)]) C dX1_solve_116 rfl rfl (by decide) rfl ?_
    refine q_goto (tgt := 103) C dX1_solve_119 (by decide) ?_
    exact q_sub (lv' := [(0, .ref l0), (1, .ref l1), (2, .ref l2), (3, .int l3), (4, .int l4), (5, .int (l5 + (-1 : Int32)))]) [1, 2, 3, 4, 5, 0] rfl (kc ((l5 + (-1 : Int32)), M47) (someI h))
theorem w_X1_solve_l103 {X : CX} {r : Mem} (C : CK X cX1_solve 7 RX1 11 236) (hRO : RO X.2.2.1 X.1.2.2.2.2.1 X.1.2.2.2.2.1.heap) (hl : X.1.2.1.stackTraces = false) (l0 : Nat) (l1 : Nat) (l2 : Nat) (l3 : Int32) (l4 : Int32) (l5 : Int32) (M : Mem) (h : loop (fun s => F_X1_solve_s103 l0 l4 s.1 s.2) (l5, M) = some r) (kx : ∀ e' : Mem, r = e' → wq X 7 122 [(0, .ref l0), (1, .ref l1), (2, .ref l2), (3, .int l3), (4, .int l4)] [] e') : wq X 7 103 [(0, .ref l0), (1, .ref l1), (2, .ref l2), (3, .int l3), (4, .int l4), (5, .int l5)] [] M :=
  loop_ind (P := fun s => wq X 7 103 [(0, .ref l0), (1, .ref l1), (2, .ref l2), (3, .int l3), (4, .int l4), (5, .int s.1)] [] s.2) h (fun s y hy kc kr => w_X1_solve_s103 C hRO hl l0 l1 l2 l3 l4 s.1 s.2 hy kc (fun e' he => kx e' (kr _ he).symm))
set_option maxRecDepth 100000 in
set_option maxHeartbeats 4000000 in
theorem w_X1_solve_s38 {X : CX} {y : (Int32 × Mem) ⊕ (Mem)} (C : CK X cX1_solve 7 RX1 11 236) (hRO : RO X.2.2.1 X.1.2.2.2.2.1 X.1.2.2.2.2.1.heap) (hl : X.1.2.1.stackTraces = false) (l0 : Nat) (l1 : Nat) (l2 : Nat) (l3 : Int32) (l4 : Int32) (M : Mem) (h : F_X1_solve_s38 l0 l1 l2 l3 l4 M = some y) (kc : ∀ s' : Int32 × Mem, y = .inl s' → wq X 7 38 [(0, .ref l0), (1, .ref l1), (2, .ref l2), (3, .int l3), (4, .int (s'.1))] [] s'.2) (kx : ∀ e' : Mem, y = (.inr e') → wq X 7 128 [] [] e') : wq X 7 38 [(0, .ref l0), (1, .ref l1), (2, .ref l2), (3, .int l3), (4, .int l4)] [] M := by
  unfold F_X1_solve_s38 at h
  refine q_iload 4 C dX1_solve_38 rfl ?_
  refine q_if_lt (tgt := 128) C dX1_solve_40 (by decide) (fun c20 => ?_) (fun c20 => ?_)
  · have h := ifT c20 h
    exact q_sub (lv' := []) [] rfl (kx M (someI h))
  · have h := ifF c20 h
    refine q_iconst (v := (0 : Int32)) C dX1_solve_43 (by decide) ?_
    refine q_istore (i := 5) (lv' := [(5, .int (0 : Int32)), (0, .ref l0), (1, .ref l1), (2, .ref l2), (3, .int l3), (4, .int l4)]) C dX1_solve_44 (by decide) rfl ?_
    obtain ⟨M40, e39, h⟩ := bindE h
    refine q_sub (lv' := [(0, .ref l0), (1, .ref l1), (2, .ref l2), (3, .int l3), (4, .int l4), (5, .int (0 : Int32))]) [1, 2, 3, 4, 5, 0] rfl (w_X1_solve_l46 C hRO hl l0 l1 l2 l3 l4 (0 : Int32) M e39 (fun r38 he => ?_))
    subst he
    show wq X 7 97 [(0, .ref l0), (1, .ref l1), (2, .ref l2), (3, .int l3), (4, .int l4)] [] M40
    refine q_aload_n 0 C dX1_solve_97 rfl ?_
    obtain ⟨e41, h⟩ := ckOE h
    obtain ⟨v43, e42, h⟩ := bindE h
    refine q_callV (v := some (.int v43)) [] C hRO lk_RX1_51 vk_X1_all e41 rfl rfl rfl (Nat.le_of_ble_eq_true rfl) (by decide) (by decide) dX1_solve_98 (k_X1_all X.1.2.1 hl X.2.2.1 l0 M40 _ e42) ?_
    refine q_istore (i := 5) (lv' := [(5, .int v43), (0, .ref l0), (1, .ref l1), (2, .ref l2), (3, .int l3), (4, .int l4)]) C dX1_solve_101 (by decide) rfl ?_
    obtain ⟨M51, e50, h⟩ := bindE h
    refine q_sub (lv' := [(0, .ref l0), (1, .ref l1), (2, .ref l2), (3, .int l3), (4, .int l4), (5, .int v43)]) [1, 2, 3, 4, 5, 0] rfl (w_X1_solve_l103 C hRO hl l0 l1 l2 l3 l4 v43 M40 e50 (fun r49 he => ?_))
    subst he
    show wq X 7 122 [(0, .ref l0), (1, .ref l1), (2, .ref l2), (3, .int l3), (4, .int l4)] [] M51
    refine q_iinc 4 (v := (l4 + (-1 : Int32))) (lv' := [(4, .int (l4 + (-1 : Int32))), (0, .ref l0), (1, .ref l1), (2, .ref l2), (3, .int l3)]) C dX1_solve_122 rfl rfl (by decide) rfl ?_
    refine q_goto (tgt := 38) C dX1_solve_125 (by decide) ?_
    exact q_sub (lv' := [(0, .ref l0), (1, .ref l1), (2, .ref l2), (3, .int l3), (4, .int (l4 + (-1 : Int32)))]) [1, 2, 3, 4, 0] rfl (kc ((l4 + (-1 : Int32)), M51) (someI h))
theorem w_X1_solve_l38 {X : CX} {r : Mem} (C : CK X cX1_solve 7 RX1 11 236) (hRO : RO X.2.2.1 X.1.2.2.2.2.1 X.1.2.2.2.2.1.heap) (hl : X.1.2.1.stackTraces = false) (l0 : Nat) (l1 : Nat) (l2 : Nat) (l3 : Int32) (l4 : Int32) (M : Mem) (h : loop (fun s => F_X1_solve_s38 l0 l1 l2 l3 s.1 s.2) (l4, M) = some r) (kx : ∀ e' : Mem, r = e' → wq X 7 128 [] [] e') : wq X 7 38 [(0, .ref l0), (1, .ref l1), (2, .ref l2), (3, .int l3), (4, .int l4)] [] M :=
  loop_ind (P := fun s => wq X 7 38 [(0, .ref l0), (1, .ref l1), (2, .ref l2), (3, .int l3), (4, .int s.1)] [] s.2) h (fun s y hy kc kr => w_X1_solve_s38 C hRO hl l0 l1 l2 l3 s.1 s.2 hy kc (fun e' he => kx e' (kr _ he).symm))
set_option maxRecDepth 100000 in
set_option maxHeartbeats 4000000 in
theorem w_X1_solve {X : CX} {y : Mem} (C : CK X cX1_solve 7 RX1 11 236) (hRO : RO X.2.2.1 X.1.2.2.2.2.1 X.1.2.2.2.2.1.heap) (hl : X.1.2.1.stackTraces = false) (l0 : Nat) (l1 : Nat) (l2 : Nat) (M : Mem) (h : F_X1_solve l0 l1 l2 M = some y) (kf : FIN X none (rs_mV y) (ms_mV y)) : wq X 7 0 [(0, .ref l0), (1, .ref l1), (2, .ref l2)] [] M := by
  unfold F_X1_solve at h
  refine q_aload_n 0 C dX1_solve_0 rfl ?_
  refine q_aload_n 1 C dX1_solve_1 rfl ?_
  obtain ⟨v1, e2, h⟩ := bindE h
  refine q_getI C fl_RX1_25 rfl e2 dX1_solve_2 ?_
  obtain ⟨M3, e4, h⟩ := bindE h
  refine q_putI C fp_RX1_21 rfl e4 dX1_solve_5 ?_
  refine q_aload_n 0 C dX1_solve_8 rfl ?_
  obtain ⟨v5, e6, h⟩ := bindE h
  refine q_getP C fl_RX1_11 rfl e6 dX1_solve_9 ?_
  refine q_iconst (v := (0 : Int32)) C dX1_solve_12 (by decide) ?_
  obtain ⟨M8, e7, h⟩ := bindE h
  refine q_callS (v := none) [.ref v5, .int (0 : Int32)] C hRO lk_RX1_28 sk_J7_fill_53178 rfl rfl (Nat.le_of_ble_eq_true rfl) (by decide) (by decide) dX1_solve_13 (k_J7_fill_53178 X.1.2.1 hl X.2.2.1 v5 (0 : Int32) M3 _ e7) ?_
  refine q_aload_n 0 C dX1_solve_16 rfl ?_
  obtain ⟨v10, e11, h⟩ := bindE h
  refine q_getP C fl_RX1_15 rfl e11 dX1_solve_17 ?_
  refine q_iconst (v := (0 : Int32)) C dX1_solve_20 (by decide) ?_
  obtain ⟨M13, e12, h⟩ := bindE h
  refine q_callS (v := none) [.ref v10, .int (0 : Int32)] C hRO lk_RX1_28 sk_J7_fill_53178 rfl rfl (Nat.le_of_ble_eq_true rfl) (by decide) (by decide) dX1_solve_21 (k_J7_fill_53178 X.1.2.1 hl X.2.2.1 v10 (0 : Int32) M8 _ e12) ?_
  refine q_aload_n 1 C dX1_solve_24 rfl ?_
  refine q_aload_n 2 C dX1_solve_25 rfl ?_
  obtain ⟨e15, h⟩ := ckOE h
  obtain ⟨v17, e16, h⟩ := bindE h
  refine q_callV (v := some (.int v17)) [.ref l2] C hRO lk_RX1_34 vk_X2_dampOf e15 rfl rfl rfl (Nat.le_of_ble_eq_true rfl) (by decide) (by decide) dX1_solve_26 (k_X2_dampOf X.1.2.1 hl X.2.2.1 l1 l2 M13 _ e16) ?_
  refine q_istore_n (i := 3) (lv' := [(3, .int v17), (0, .ref l0), (1, .ref l1), (2, .ref l2)]) C dX1_solve_29 rfl (by decide) rfl ?_
  refine q_aload_n 2 C dX1_solve_30 rfl ?_
  obtain ⟨v18, e19, h⟩ := bindE h
  refine q_getI C fl_RX1_38 rfl e19 dX1_solve_31 ?_
  refine q_iconst (v := (1 : Int32)) C dX1_solve_34 (by decide) ?_
  refine q_isub C dX1_solve_35 ?_
  refine q_istore (i := 4) (lv' := [(4, .int (v18 - (1 : Int32))), (3, .int v17), (0, .ref l0), (1, .ref l1), (2, .ref l2)]) C dX1_solve_36 (by decide) rfl ?_
  obtain ⟨M56, e55, h⟩ := bindE h
  refine q_sub (lv' := [(0, .ref l0), (1, .ref l1), (2, .ref l2), (3, .int v17), (4, .int (v18 - (1 : Int32)))]) [2, 3, 4, 1, 0] rfl (w_X1_solve_l38 C hRO hl l0 l1 l2 v17 (v18 - (1 : Int32)) M13 e55 (fun r54 he => ?_))
  subst he
  show wq X 7 128 [] [] M56
  cases h
  exact q_vret C kf dX1_solve_128
theorem k_X1_solve (l : Launch) (hl : l.stackTraces = false) (G : GG) (l0 : Nat) (l1 : Nat) (l2 : Nat) (M : Mem) (x : Mem) (h : F_X1_solve l0 l1 l2 M = some x) : Ct l G yX1_solve (.code yX1_solve cX1_solve 7 none) 11 236 [.ref l0, .ref l1, .ref l2] M (rs_mV x) (ms_mV x) := by
  refine Ct_of (by decide +kernel) (Nat.le_of_ble_eq_true rfl) fun X e1 e2 e3 C FN hnm => ?_
  subst e1; subst e2
  show wq X 7 0 [(0, .ref l0), (1, .ref l1), (2, .ref l2)] [] M
  exact w_X1_solve C FN.2.2.2 hl l0 l1 l2 M h FN
/-! X0_many -/
set_option maxRecDepth 100000 in
set_option maxHeartbeats 4000000 in
theorem w_X0_many {X : CX} {y : Int32} (C : CK X cX0_many 1 RX0 7 140) (hRO : RO X.2.2.1 X.1.2.2.2.2.1 X.1.2.2.2.2.1.heap) (hl : X.1.2.1.stackTraces = false) (l0 : Nat) (M : Mem) (h : F_X0_many l0 M = some y) (kf : FIN X (some .int) (rs_pI y) M) : wq X 1 0 [(0, .ref l0)] [] M := by
  unfold F_X0_many at h
  refine q_aload_n 0 C dX0_many_0 rfl ?_
  obtain ⟨v1, e2, h⟩ := bindE h
  refine q_getI C fl_RX0_21 rfl e2 dX0_many_1 ?_
  cases h
  exact q_iret C kf dX0_many_4
theorem k_X0_many (l : Launch) (hl : l.stackTraces = false) (G : GG) (l0 : Nat) (M : Mem) (x : Int32) (h : F_X0_many l0 M = some x) : Ct l G yX0_many (.code yX0_many cX0_many 1 (some .int)) 7 140 [.ref l0] M (rs_pI x) M := by
  refine Ct_of (by decide +kernel) (Nat.le_of_ble_eq_true rfl) fun X e1 e2 e3 C FN hnm => ?_
  subst e1; subst e2
  show wq X 1 0 [(0, .ref l0)] [] M
  exact w_X0_many C FN.2.2.2 hl l0 M h FN
/-! X5_many -/
set_option maxRecDepth 100000 in
set_option maxHeartbeats 4000000 in
theorem w_X5_many {X : CX} {y : Int32} (C : CK X cX5_many 1 RX5 7 140) (hRO : RO X.2.2.1 X.1.2.2.2.2.1 X.1.2.2.2.2.1.heap) (hl : X.1.2.1.stackTraces = false) (l0 : Nat) (M : Mem) (h : F_X5_many l0 M = some y) (kf : FIN X (some .int) (rs_pI y) M) : wq X 1 0 [(0, .ref l0)] [] M := by
  unfold F_X5_many at h
  refine q_aload_n 0 C dX5_many_0 rfl ?_
  obtain ⟨v1, e2, h⟩ := bindE h
  refine q_getI C fl_RX5_21 rfl e2 dX5_many_1 ?_
  cases h
  exact q_iret C kf dX5_many_4
theorem k_X5_many (l : Launch) (hl : l.stackTraces = false) (G : GG) (l0 : Nat) (M : Mem) (x : Int32) (h : F_X5_many l0 M = some x) : Ct l G yX5_many (.code yX5_many cX5_many 1 (some .int)) 7 140 [.ref l0] M (rs_pI x) M := by
  refine Ct_of (by decide +kernel) (Nat.le_of_ble_eq_true rfl) fun X e1 e2 e3 C FN hnm => ?_
  subst e1; subst e2
  show wq X 1 0 [(0, .ref l0)] [] M
  exact w_X5_many C FN.2.2.2 hl l0 M h FN
/-! X5_clear -/
set_option maxRecDepth 100000 in
set_option maxHeartbeats 4000000 in
theorem w_X5_clear {X : CX} {y : Mem} (C : CK X cX5_clear 1 RX5 7 140) (hRO : RO X.2.2.1 X.1.2.2.2.2.1 X.1.2.2.2.2.1.heap) (hl : X.1.2.1.stackTraces = false) (l0 : Nat) (M : Mem) (h : F_X5_clear l0 M = some y) (kf : FIN X none (rs_mV y) (ms_mV y)) : wq X 1 0 [(0, .ref l0)] [] M := by
  unfold F_X5_clear at h
  refine q_aload_n 0 C dX5_clear_0 rfl ?_
  refine q_iconst (v := (0 : Int32)) C dX5_clear_1 (by decide) ?_
  obtain ⟨M1, e2, h⟩ := bindE h
  refine q_putI C fp_RX5_21 rfl e2 dX5_clear_2 ?_
  cases h
  exact q_vret C kf dX5_clear_5
theorem k_X5_clear (l : Launch) (hl : l.stackTraces = false) (G : GG) (l0 : Nat) (M : Mem) (x : Mem) (h : F_X5_clear l0 M = some x) : Ct l G yX5_clear (.code yX5_clear cX5_clear 1 none) 7 140 [.ref l0] M (rs_mV x) (ms_mV x) := by
  refine Ct_of (by decide +kernel) (Nat.le_of_ble_eq_true rfl) fun X e1 e2 e3 C FN hnm => ?_
  subst e1; subst e2
  show wq X 1 0 [(0, .ref l0)] [] M
  exact w_X5_clear C FN.2.2.2 hl l0 M h FN
/-! X0_copy -/
set_option maxRecDepth 100000 in
set_option maxHeartbeats 4000000 in
theorem w_X0_copy_s15 {X : CX} {y : (Int32 × Mem) ⊕ (Mem)} (C : CK X cX0_copy 3 RX0 10 205) (hRO : RO X.2.2.1 X.1.2.2.2.2.1 X.1.2.2.2.2.1.heap) (hl : X.1.2.1.stackTraces = false) (l0 : Nat) (l1 : Nat) (l2 : Int32) (M : Mem) (h : F_X0_copy_s15 l0 l1 l2 M = some y) (kc : ∀ s' : Int32 × Mem, y = .inl s' → wq X 3 15 [(0, .ref l0), (1, .ref l1), (2, .int (s'.1))] [] s'.2) (kx : ∀ e' : Mem, y = (.inr e') → wq X 3 50 [] [] e') : wq X 3 15 [(0, .ref l0), (1, .ref l1), (2, .int l2)] [] M := by
  unfold F_X0_copy_s15 at h
  refine q_iload_n 2 C dX0_copy_15 rfl ?_
  refine q_aload_n 0 C dX0_copy_16 rfl ?_
  obtain ⟨v7, e8, h⟩ := bindE h
  refine q_getI C fl_RX0_21 rfl e8 dX0_copy_17 ?_
  refine q_icmp_ge (tgt := 50) C dX0_copy_20 (by decide) (fun c9 => ?_) (fun c9 => ?_)
  · have h := ifT c9 h
    exact q_sub (lv' := []) [] rfl (kx M (someI h))
  · have h := ifF c9 h
    refine q_aload_n 0 C dX0_copy_23 rfl ?_
    refine q_iload_n 2 C dX0_copy_24 rfl ?_
    obtain ⟨e10, h⟩ := ckOE h
    obtain ⟨v13, M12, e11, h⟩ := bd2E h
    refine q_callV (v := some (.ref v13)) [.int l2] C hRO lk_RX0_24 vk_X0_row e10 rfl rfl rfl (Nat.le_of_ble_eq_true rfl) (by decide) (by decide) dX0_copy_25 (k_X0_row X.1.2.1 hl X.2.2.1 l0 l2 M _ e11) ?_
    refine q_aload_n 1 C dX0_copy_28 rfl ?_
    refine q_aload_n 1 C dX0_copy_29 rfl ?_
    obtain ⟨v14, e15, h⟩ := bindE h
    refine q_getI C fl_RX0_17 rfl e15 dX0_copy_30 ?_
    refine q_iload_n 2 C dX0_copy_33 rfl ?_
    refine q_iadd C dX0_copy_34 ?_
    refine q_bipush (v := (40 : Int32)) C dX0_copy_35 (by decide) ?_
    refine q_irem C (by decide) dX0_copy_37 ?_
    obtain ⟨e16, h⟩ := ckOE h
    obtain ⟨v19, M18, e17, h⟩ := bd2E h
    refine q_callV (v := some (.ref v19)) [.int ((v14 + l2) - (v14 + l2) / (40 : Int32) * (40 : Int32))] C hRO lk_RX0_24 vk_X0_row e16 rfl rfl rfl (Nat.le_of_ble_eq_true rfl) (by decide) (by decide) dX0_copy_38 (k_X0_row X.1.2.1 hl X.2.2.1 l1 ((v14 + l2) - (v14 + l2) / (40 : Int32) * (40 : Int32)) M12 _ e17) ?_
    obtain ⟨e20, h⟩ := ckOE h
    obtain ⟨M22, e21, h⟩ := bindE h
    refine q_callV (v := none) [.ref v19] C hRO lk_RX0_28 vk_X6_copy e20 rfl rfl rfl (Nat.le_of_ble_eq_true rfl) (by decide) (by decide) dX0_copy_41 (k_X6_copy X.1.2.1 hl X.2.2.1 v13 v19 M18 _ e21) ?_
    refine q_iinc 2 (v := (l2 + (1 : Int32))) (lv' := [(2, .int (l2 + (1 : Int32))), (0, .ref l0), (1, .ref l1)]) C dX0_copy_44 rfl rfl (by decide) rfl ?_
    refine q_goto (tgt := 15) C dX0_copy_47 (by decide) ?_
    exact q_sub (lv' := [(0, .ref l0), (1, .ref l1), (2, .int (l2 + (1 : Int32)))]) [1, 2, 0] rfl (kc ((l2 + (1 : Int32)), M22) (someI h))
theorem w_X0_copy_l15 {X : CX} {r : Mem} (C : CK X cX0_copy 3 RX0 10 205) (hRO : RO X.2.2.1 X.1.2.2.2.2.1 X.1.2.2.2.2.1.heap) (hl : X.1.2.1.stackTraces = false) (l0 : Nat) (l1 : Nat) (l2 : Int32) (M : Mem) (h : loop (fun s => F_X0_copy_s15 l0 l1 s.1 s.2) (l2, M) = some r) (kx : ∀ e' : Mem, r = e' → wq X 3 50 [] [] e') : wq X 3 15 [(0, .ref l0), (1, .ref l1), (2, .int l2)] [] M :=
  loop_ind (P := fun s => wq X 3 15 [(0, .ref l0), (1, .ref l1), (2, .int s.1)] [] s.2) h (fun s y hy kc kr => w_X0_copy_s15 C hRO hl l0 l1 s.1 s.2 hy kc (fun e' he => kx e' (kr _ he).symm))
set_option maxRecDepth 100000 in
set_option maxHeartbeats 4000000 in
theorem w_X0_copy {X : CX} {y : Mem} (C : CK X cX0_copy 3 RX0 10 205) (hRO : RO X.2.2.1 X.1.2.2.2.2.1 X.1.2.2.2.2.1.heap) (hl : X.1.2.1.stackTraces = false) (l0 : Nat) (l1 : Nat) (M : Mem) (h : F_X0_copy l0 l1 M = some y) (kf : FIN X none (rs_mV y) (ms_mV y)) : wq X 3 0 [(0, .ref l0), (1, .ref l1)] [] M := by
  unfold F_X0_copy at h
  refine q_aload_n 0 C dX0_copy_0 rfl ?_
  refine q_iconst (v := (0 : Int32)) C dX0_copy_1 (by decide) ?_
  obtain ⟨M1, e2, h⟩ := bindE h
  refine q_putI C fp_RX0_17 rfl e2 dX0_copy_2 ?_
  refine q_aload_n 0 C dX0_copy_5 rfl ?_
  refine q_aload_n 1 C dX0_copy_6 rfl ?_
  obtain ⟨v3, e4, h⟩ := bindE h
  refine q_getI C fl_RX0_21 rfl e4 dX0_copy_7 ?_
  obtain ⟨M5, e6, h⟩ := bindE h
  refine q_putI C fp_RX0_21 rfl e6 dX0_copy_10 ?_
  refine q_iconst (v := (0 : Int32)) C dX0_copy_13 (by decide) ?_
  refine q_istore_n (i := 2) (lv' := [(2, .int (0 : Int32)), (0, .ref l0), (1, .ref l1)]) C dX0_copy_14 rfl (by decide) rfl ?_
  obtain ⟨M26, e25, h⟩ := bindE h
  refine q_sub (lv' := [(0, .ref l0), (1, .ref l1), (2, .int (0 : Int32))]) [1, 2, 0] rfl (w_X0_copy_l15 C hRO hl l0 l1 (0 : Int32) M5 e25 (fun r24 he => ?_))
  subst he
  show wq X 3 50 [] [] M26
  cases h
  exact q_vret C kf dX0_copy_50
theorem k_X0_copy (l : Launch) (hl : l.stackTraces = false) (G : GG) (l0 : Nat) (l1 : Nat) (M : Mem) (x : Mem) (h : F_X0_copy l0 l1 M = some x) : Ct l G yX0_copy (.code yX0_copy cX0_copy 3 none) 10 205 [.ref l0, .ref l1] M (rs_mV x) (ms_mV x) := by
  refine Ct_of (by decide +kernel) (Nat.le_of_ble_eq_true rfl) fun X e1 e2 e3 C FN hnm => ?_
  subst e1; subst e2
  show wq X 3 0 [(0, .ref l0), (1, .ref l1)] [] M
  exact w_X0_copy C FN.2.2.2 hl l0 l1 M h FN
/-! X5_copy -/
set_option maxRecDepth 100000 in
set_option maxHeartbeats 4000000 in
theorem w_X5_copy {X : CX} {y : Mem} (C : CK X cX5_copy 2 RX5 7 140) (hRO : RO X.2.2.1 X.1.2.2.2.2.1 X.1.2.2.2.2.1.heap) (hl : X.1.2.1.stackTraces = false) (l0 : Nat) (l1 : Nat) (M : Mem) (h : F_X5_copy l0 l1 M = some y) (kf : FIN X none (rs_mV y) (ms_mV y)) : wq X 2 0 [(0, .ref l0), (1, .ref l1)] [] M := by
  unfold F_X5_copy at h
  refine q_aload_n 0 C dX5_copy_0 rfl ?_
  refine q_aload_n 1 C dX5_copy_1 rfl ?_
  obtain ⟨v1, e2, h⟩ := bindE h
  refine q_getI C fl_RX5_21 rfl e2 dX5_copy_2 ?_
  obtain ⟨M3, e4, h⟩ := bindE h
  refine q_putI C fp_RX5_21 rfl e4 dX5_copy_5 ?_
  refine q_aload_n 1 C dX5_copy_8 rfl ?_
  obtain ⟨v5, e6, h⟩ := bindE h
  refine q_getP C fl_RX5_9 rfl e6 dX5_copy_9 ?_
  refine q_iconst (v := (0 : Int32)) C dX5_copy_12 (by decide) ?_
  refine q_aload_n 0 C dX5_copy_13 rfl ?_
  obtain ⟨v7, e8, h⟩ := bindE h
  refine q_getP C fl_RX5_9 rfl e8 dX5_copy_14 ?_
  refine q_iconst (v := (0 : Int32)) C dX5_copy_17 (by decide) ?_
  refine q_bipush (v := (8 : Int32)) C dX5_copy_18 (by decide) ?_
  obtain ⟨M9, e10, h⟩ := bindE h
  refine q_copy C ml_RX5_25 ac_1 ac_2 ac_3 (by decide) (Nat.le_of_ble_eq_true rfl) e10 dX5_copy_20 ?_
  refine q_aload_n 1 C dX5_copy_23 rfl ?_
  obtain ⟨v11, e12, h⟩ := bindE h
  refine q_getP C fl_RX5_15 rfl e12 dX5_copy_24 ?_
  refine q_iconst (v := (0 : Int32)) C dX5_copy_27 (by decide) ?_
  refine q_aload_n 0 C dX5_copy_28 rfl ?_
  obtain ⟨v13, e14, h⟩ := bindE h
  refine q_getP C fl_RX5_15 rfl e14 dX5_copy_29 ?_
  refine q_iconst (v := (0 : Int32)) C dX5_copy_32 (by decide) ?_
  refine q_bipush (v := (8 : Int32)) C dX5_copy_33 (by decide) ?_
  obtain ⟨M15, e16, h⟩ := bindE h
  refine q_copy C ml_RX5_25 ac_1 ac_2 ac_3 (by decide) (Nat.le_of_ble_eq_true rfl) e16 dX5_copy_35 ?_
  refine q_aload_n 1 C dX5_copy_38 rfl ?_
  obtain ⟨v17, e18, h⟩ := bindE h
  refine q_getP C fl_RX5_18 rfl e18 dX5_copy_39 ?_
  refine q_iconst (v := (0 : Int32)) C dX5_copy_42 (by decide) ?_
  refine q_aload_n 0 C dX5_copy_43 rfl ?_
  obtain ⟨v19, e20, h⟩ := bindE h
  refine q_getP C fl_RX5_18 rfl e20 dX5_copy_44 ?_
  refine q_iconst (v := (0 : Int32)) C dX5_copy_47 (by decide) ?_
  refine q_bipush (v := (8 : Int32)) C dX5_copy_48 (by decide) ?_
  obtain ⟨M21, e22, h⟩ := bindE h
  refine q_copy C ml_RX5_25 ac_1 ac_2 ac_3 (by decide) (Nat.le_of_ble_eq_true rfl) e22 dX5_copy_50 ?_
  cases h
  exact q_vret C kf dX5_copy_53
theorem k_X5_copy (l : Launch) (hl : l.stackTraces = false) (G : GG) (l0 : Nat) (l1 : Nat) (M : Mem) (x : Mem) (h : F_X5_copy l0 l1 M = some x) : Ct l G yX5_copy (.code yX5_copy cX5_copy 2 none) 7 140 [.ref l0, .ref l1] M (rs_mV x) (ms_mV x) := by
  refine Ct_of (by decide +kernel) (Nat.le_of_ble_eq_true rfl) fun X e1 e2 e3 C FN hnm => ?_
  subst e1; subst e2
  show wq X 2 0 [(0, .ref l0), (1, .ref l1)] [] M
  exact w_X5_copy C FN.2.2.2 hl l0 l1 M h FN
/-! X1_tight -/
set_option maxRecDepth 100000 in
set_option maxHeartbeats 4000000 in
theorem w_X1_tight {X : CX} {y : Int32} (C : CK X cX1_tight 1 RX1 8 160) (hRO : RO X.2.2.1 X.1.2.2.2.2.1 X.1.2.2.2.2.1.heap) (hl : X.1.2.1.stackTraces = false) (l0 : Nat) (M : Mem) (h : F_X1_tight l0 M = some y) (kf : FIN X (some .int) (rs_pI y) M) : wq X 1 0 [(0, .ref l0)] [] M := by
  unfold F_X1_tight at h
  refine q_aload_n 0 C dX1_tight_0 rfl ?_
  obtain ⟨v1, e2, h⟩ := bindE h
  refine q_getP C fl_RX1_11 rfl e2 dX1_tight_1 ?_
  refine q_aload_n 0 C dX1_tight_4 rfl ?_
  obtain ⟨e3, h⟩ := ckOE h
  obtain ⟨v5, e4, h⟩ := bindE h
  refine q_callV (v := some (.int v5)) [] C hRO lk_RX1_51 vk_X1_all e3 rfl rfl rfl (Nat.le_of_ble_eq_true rfl) (by decide) (by decide) dX1_tight_5 (k_X1_all X.1.2.1 hl X.2.2.1 l0 M _ e4) ?_
  obtain ⟨v6, e7, h⟩ := bindE h
  refine q_iaload C e7 dX1_tight_8 ?_
  refine q_sipush (v := (1000 : Int32)) C dX1_tight_9 (by decide) ?_
  refine q_irem C (by decide) dX1_tight_12 ?_
  cases h
  exact q_iret C kf dX1_tight_13
theorem k_X1_tight (l : Launch) (hl : l.stackTraces = false) (G : GG) (l0 : Nat) (M : Mem) (x : Int32) (h : F_X1_tight l0 M = some x) : Ct l G yX1_tight (.code yX1_tight cX1_tight 1 (some .int)) 8 160 [.ref l0] M (rs_pI x) M := by
  refine Ct_of (by decide +kernel) (Nat.le_of_ble_eq_true rfl) fun X e1 e2 e3 C FN hnm => ?_
  subst e1; subst e2
  show wq X 1 0 [(0, .ref l0)] [] M
  exact w_X1_tight C FN.2.2.2 hl l0 M h FN
/-! X1_houseOf -/
set_option maxRecDepth 100000 in
set_option maxHeartbeats 4000000 in
theorem w_X1_houseOf_s7 {X : CX} {y : (Int32 × Int32) ⊕ ((Unit) ⊕ (Int32))} (C : CK X cX1_houseOf 5 RX1 8 160) (hRO : RO X.2.2.1 X.1.2.2.2.2.1 X.1.2.2.2.2.1.heap) (hl : X.1.2.1.stackTraces = false) (l0 : Nat) (l1 : Int32) (M : Mem) (l2 : Int32) (l3 : Int32) (h : F_X1_houseOf_s7 l0 l1 M l2 l3 = some y) (kc : ∀ s' : Int32 × Int32, y = .inl s' → wq X 5 7 [(0, .ref l0), (1, .int l1), (2, .int (s'.1)), (3, .int (s'.2))] [] M) (kx : ∀ e' : Unit, y = (.inr (.inl e')) → wq X 5 68 [] [] M) (kf : ∀ f' : Int32, y = (.inr (.inr f')) → FIN X (some .int) (rs_pI f') M) : wq X 5 7 [(0, .ref l0), (1, .int l1), (2, .int l2), (3, .int l3)] [] M := by
  unfold F_X1_houseOf_s7 at h
  refine q_iload_n 3 C dX1_houseOf_7 rfl ?_
  refine q_iload_n 1 C dX1_houseOf_8 rfl ?_
  refine q_icmp_gt (tgt := 68) C dX1_houseOf_9 (by decide) (fun c4 => ?_) (fun c4 => ?_)
  · have h := ifT c4 h
    exact q_sub (lv' := []) [] rfl (kx () (someI h))
  · have h := ifF c4 h
    refine q_aload_n 0 C dX1_houseOf_12 rfl ?_
    obtain ⟨v5, e6, h⟩ := bindE h
    refine q_getP C fl_RX1_15 rfl e6 dX1_houseOf_13 ?_
    refine q_iload_n 2 C dX1_houseOf_16 rfl ?_
    obtain ⟨v7, e8, h⟩ := bindE h
    refine q_iaload C e8 dX1_houseOf_17 ?_
    refine q_iconst (v := (4 : Int32)) C dX1_houseOf_18 (by decide) ?_
    refine q_iload_n 3 C dX1_houseOf_19 rfl ?_
    refine q_imul C dX1_houseOf_20 ?_
    refine q_iushr C dX1_houseOf_21 ?_
    refine q_bipush (v := (15 : Int32)) C dX1_houseOf_22 (by decide) ?_
    refine q_iand C dX1_houseOf_24 ?_
    obtain ⟨n9, e10, h⟩ := nmE h
    refine q_topI e10 ?_
    refine q_istore (i := 4) (lv' := [(4, .int n9), (0, .ref l0), (1, .int l1), (2, .int l2), (3, .int l3)]) C dX1_houseOf_25 (by decide) rfl ?_
    refine q_iload_n 4 C dX1_houseOf_27 rfl ?_
    refine q_iload_n 2 C dX1_houseOf_28 rfl ?_
    refine q_icmp_ne (tgt := 46) C dX1_houseOf_29 (by decide) (fun c11 => ?_) (fun c11 => ?_)
    · have h := ifF c11 h
      refine q_iload 0 C dX1_houseOf_46 rfl ?_
      refine q_bipush (v := (15 : Int32)) C dX1_houseOf_48 (by decide) ?_
      refine q_icmp_eq (tgt := 62) C dX1_houseOf_50 (by decide) (fun c12 => ?_) (fun c12 => ?_)
      · have h := ifT c12 h
        refine q_iinc 4 (v := (l3 + (1 : Int32))) (lv' := [(3, .int (l3 + (1 : Int32))), (4, .int n9), (0, .ref l0), (1, .int l1), (2, .int l2)]) C dX1_houseOf_62 rfl rfl (by decide) rfl ?_
        refine q_goto (tgt := 7) C dX1_houseOf_65 (by decide) ?_
        exact q_sub (lv' := [(0, .ref l0), (1, .int l1), (2, .int l2), (3, .int (l3 + (1 : Int32)))]) [2, 3, 4, 0] rfl (kc (l2, (l3 + (1 : Int32))) (someI h))
      · have h := ifF c12 h
        refine q_iload_n 3 C dX1_houseOf_53 rfl ?_
        refine q_iconst (v := (1 : Int32)) C dX1_houseOf_54 (by decide) ?_
        refine q_iload 0 C dX1_houseOf_55 rfl ?_
        refine q_ishl C dX1_houseOf_57 ?_
        refine q_iconst (v := (-1 : Int32)) C dX1_houseOf_58 (by decide) ?_
        refine q_ixor C dX1_houseOf_59 ?_
        refine q_iand C dX1_houseOf_60 ?_
        obtain ⟨n13, e14, h⟩ := nmE h
        refine q_topI e14 ?_
        refine q_istore_n (i := 2) (lv' := [(2, .int n13), (4, .int n9), (0, .ref l0), (1, .int l1), (3, .int l3)]) C dX1_houseOf_61 rfl (by decide) rfl ?_
        refine q_iinc 4 (v := (l3 + (1 : Int32))) (lv' := [(3, .int (l3 + (1 : Int32))), (2, .int n13), (4, .int n9), (0, .ref l0), (1, .int l1)]) C dX1_houseOf_62 rfl rfl (by decide) rfl ?_
        refine q_goto (tgt := 7) C dX1_houseOf_65 (by decide) ?_
        exact q_sub (lv' := [(0, .ref l0), (1, .int l1), (2, .int n13), (3, .int (l3 + (1 : Int32)))]) [3, 4, 1, 0] rfl (kc (n13, (l3 + (1 : Int32))) (someI h))
    · have h := ifT c11 h
      refine q_iload 0 C dX1_houseOf_32 rfl ?_
      refine q_bipush (v := (15 : Int32)) C dX1_houseOf_34 (by decide) ?_
      refine q_icmp_ne (tgt := 43) C dX1_houseOf_36 (by decide) (fun c15 => ?_) (fun c15 => ?_)
      · have h := ifF c15 h
        refine q_iload 0 C dX1_houseOf_43 rfl ?_
        exact q_iret C (kf _ (someI h)) dX1_houseOf_45
      · have h := ifT c15 h
        refine q_iconst (v := (-1 : Int32)) C dX1_houseOf_39 (by decide) ?_
        refine q_goto (tgt := 45) C dX1_houseOf_40 (by decide) ?_
        exact q_iret C (kf _ (someI h)) dX1_houseOf_45
theorem w_X1_houseOf_l7 {X : CX} {r : (Unit) ⊕ (Int32)} (C : CK X cX1_houseOf 5 RX1 8 160) (hRO : RO X.2.2.1 X.1.2.2.2.2.1 X.1.2.2.2.2.1.heap) (hl : X.1.2.1.stackTraces = false) (l0 : Nat) (l1 : Int32) (M : Mem) (l2 : Int32) (l3 : Int32) (h : loop (fun s => F_X1_houseOf_s7 l0 l1 M s.1 s.2) (l2, l3) = some r) (kx : ∀ e' : Unit, r = .inl e' → wq X 5 68 [] [] M) (kf : ∀ f' : Int32, r = .inr f' → FIN X (some .int) (rs_pI f') M) : wq X 5 7 [(0, .ref l0), (1, .int l1), (2, .int l2), (3, .int l3)] [] M :=
  loop_ind (P := fun s => wq X 5 7 [(0, .ref l0), (1, .int l1), (2, .int s.1), (3, .int s.2)] [] M) h (fun s y hy kc kr => w_X1_houseOf_s7 C hRO hl l0 l1 M s.1 s.2 hy kc (fun e' he => kx e' (kr _ he).symm) (fun f' he => kf f' (kr _ he).symm))
set_option maxRecDepth 100000 in
set_option maxHeartbeats 4000000 in
theorem w_X1_houseOf {X : CX} {y : Int32} (C : CK X cX1_houseOf 5 RX1 8 160) (hRO : RO X.2.2.1 X.1.2.2.2.2.1 X.1.2.2.2.2.1.heap) (hl : X.1.2.1.stackTraces = false) (l0 : Nat) (l1 : Int32) (M : Mem) (h : F_X1_houseOf l0 l1 M = some y) (kf : FIN X (some .int) (rs_pI y) M) : wq X 5 0 [(0, .ref l0), (1, .int l1)] [] M := by
  unfold F_X1_houseOf at h
  refine q_aload_n 0 C dX1_houseOf_0 rfl ?_
  obtain ⟨e1, h⟩ := ckOE h
  obtain ⟨v3, e2, h⟩ := bindE h
  refine q_callV (v := some (.int v3)) [] C hRO lk_RX1_51 vk_X1_all e1 rfl rfl rfl (Nat.le_of_ble_eq_true rfl) (by decide) (by decide) dX1_houseOf_1 (k_X1_all X.1.2.1 hl X.2.2.1 l0 M _ e2) ?_
  refine q_istore_n (i := 2) (lv' := [(2, .int v3), (0, .ref l0), (1, .int l1)]) C dX1_houseOf_4 rfl (by decide) rfl ?_
  refine q_iconst (v := (0 : Int32)) C dX1_houseOf_5 (by decide) ?_
  refine q_istore_n (i := 3) (lv' := [(3, .int (0 : Int32)), (2, .int v3), (0, .ref l0), (1, .int l1)]) C dX1_houseOf_6 rfl (by decide) rfl ?_
  obtain ⟨r16, e17, h⟩ := bindE h
  refine q_sub (lv' := [(0, .ref l0), (1, .int l1), (2, .int v3), (3, .int (0 : Int32))]) [2, 3, 1, 0] rfl (w_X1_houseOf_l7 C hRO hl l0 l1 M v3 (0 : Int32) e17 (fun q18 he => ?_) (fun f19 he => ?_))
  · subst he
    have h := elimL h
    show wq X 5 68 [] [] M
    refine q_iconst (v := (-1 : Int32)) C dX1_houseOf_68 (by decide) ?_
    cases h
    exact q_iret C kf dX1_houseOf_69
  · subst he
    have h := elimR h
    cases h
    exact kf
theorem k_X1_houseOf (l : Launch) (hl : l.stackTraces = false) (G : GG) (l0 : Nat) (l1 : Int32) (M : Mem) (x : Int32) (h : F_X1_houseOf l0 l1 M = some x) : Ct l G yX1_houseOf (.code yX1_houseOf cX1_houseOf 5 (some .int)) 8 160 [.ref l0, .int l1] M (rs_pI x) M := by
  refine Ct_of (by decide +kernel) (Nat.le_of_ble_eq_true rfl) fun X e1 e2 e3 C FN hnm => ?_
  subst e1; subst e2
  show wq X 5 0 [(0, .ref l0), (1, .int l1)] [] M
  exact w_X1_houseOf C FN.2.2.2 hl l0 l1 M h FN
/-! X7_ringSteps -/
set_option maxRecDepth 100000 in
set_option maxHeartbeats 4000000 in
theorem w_X7_ringSteps_s5 {X : CX} {y : (Int32 × Int32) ⊕ ((Unit) ⊕ (Int32))} (C : CK X cX7_ringSteps 5 RX7 7 140) (hRO : RO X.2.2.1 X.1.2.2.2.2.1 X.1.2.2.2.2.1.heap) (hl : X.1.2.1.stackTraces = false) (l0 : Nat) (l1 : Nat) (l2 : Int32) (M : Mem) (l3 : Int32) (l4 : Int32) (h : F_X7_ringSteps_s5 l0 l1 l2 M l3 l4 = some y) (kc : ∀ s' : Int32 × Int32, y = .inl s' → wq X 5 5 [(0, .ref l0), (1, .ref l1), (2, .int l2), (3, .int (s'.1)), (4, .int (s'.2))] [] M) (kx : ∀ e' : Unit, y = (.inr (.inl e')) → wq X 5 53 [] [] M) (kf : ∀ f' : Int32, y = (.inr (.inr f')) → FIN X (some .int) (rs_pI f') M) : wq X 5 5 [(0, .ref l0), (1, .ref l1), (2, .int l2), (3, .int l3), (4, .int l4)] [] M := by
  unfold F_X7_ringSteps_s5 at h
  refine q_iload 4 C dX7_ringSteps_5 rfl ?_
  refine q_bipush (v := (8 : Int32)) C dX7_ringSteps_7 (by decide) ?_
  refine q_icmp_gt (tgt := 53) C dX7_ringSteps_9 (by decide) (fun c1 => ?_) (fun c1 => ?_)
  · have h := ifT c1 h
    exact q_sub (lv' := []) [] rfl (kx () (someI h))
  · have h := ifF c1 h
    refine q_iload_n 3 C dX7_ringSteps_12 rfl ?_
    refine q_iconst (v := (-1 : Int32)) C dX7_ringSteps_13 (by decide) ?_
    refine q_icmp_eq (tgt := 53) C dX7_ringSteps_14 (by decide) (fun c2 => ?_) (fun c2 => ?_)
    · have h := ifT c2 h
      exact q_sub (lv' := []) [] rfl (kx () (someI h))
    · have h := ifF c2 h
      refine q_aload_n 0 C dX7_ringSteps_17 rfl ?_
      obtain ⟨v3, e4, h⟩ := bindE h
      refine q_getP C fl_RX7_18 rfl e4 dX7_ringSteps_18 ?_
      refine q_iload_n 3 C dX7_ringSteps_21 rfl ?_
      obtain ⟨v5, e6, h⟩ := bindE h
      refine q_iaload C e6 dX7_ringSteps_22 ?_
      refine q_iconst (v := (-1 : Int32)) C dX7_ringSteps_23 (by decide) ?_
      refine q_icmp_eq (tgt := 53) C dX7_ringSteps_24 (by decide) (fun c7 => ?_) (fun c7 => ?_)
      · have h := ifT c7 h
        exact q_sub (lv' := []) [] rfl (kx () (someI h))
      · have h := ifF c7 h
        refine q_aload_n 1 C dX7_ringSteps_27 rfl ?_
        obtain ⟨v8, e9, h⟩ := bindE h
        refine q_getP C fl_RX7_53 rfl e9 dX7_ringSteps_28 ?_
        refine q_aload_n 0 C dX7_ringSteps_31 rfl ?_
        obtain ⟨v10, e11, h⟩ := bindE h
        refine q_getP C fl_RX7_18 rfl e11 dX7_ringSteps_32 ?_
        refine q_iload_n 3 C dX7_ringSteps_35 rfl ?_
        obtain ⟨v12, e13, h⟩ := bindE h
        refine q_iaload C e13 dX7_ringSteps_36 ?_
        obtain ⟨v14, e15, h⟩ := bindE h
        refine q_iaload C e15 dX7_ringSteps_37 ?_
        refine q_istore_n (i := 3) (lv' := [(3, .int v14), (0, .ref l0), (1, .ref l1), (2, .int l2), (4, .int l4)]) C dX7_ringSteps_38 rfl (by decide) rfl ?_
        refine q_iload_n 0 C dX7_ringSteps_39 rfl ?_
        refine q_iload_n 3 C dX7_ringSteps_40 rfl ?_
        refine q_icmp_ne (tgt := 47) C dX7_ringSteps_41 (by decide) (fun c16 => ?_) (fun c16 => ?_)
        · have h := ifF c16 h
          refine q_iinc 4 (v := (l4 + (1 : Int32))) (lv' := [(4, .int (l4 + (1 : Int32))), (3, .int v14), (0, .ref l0), (1, .ref l1), (2, .int l2)]) C dX7_ringSteps_47 rfl rfl (by decide) rfl ?_
          refine q_goto (tgt := 5) C dX7_ringSteps_50 (by decide) ?_
          exact q_sub (lv' := [(0, .ref l0), (1, .ref l1), (2, .int l2), (3, .int v14), (4, .int (l4 + (1 : Int32)))]) [2, 3, 4, 1, 0] rfl (kc (v14, (l4 + (1 : Int32))) (someI h))
        · have h := ifT c16 h
          refine q_iload 4 C dX7_ringSteps_44 rfl ?_
          exact q_iret C (kf _ (someI h)) dX7_ringSteps_46
theorem w_X7_ringSteps_l5 {X : CX} {r : (Unit) ⊕ (Int32)} (C : CK X cX7_ringSteps 5 RX7 7 140) (hRO : RO X.2.2.1 X.1.2.2.2.2.1 X.1.2.2.2.2.1.heap) (hl : X.1.2.1.stackTraces = false) (l0 : Nat) (l1 : Nat) (l2 : Int32) (M : Mem) (l3 : Int32) (l4 : Int32) (h : loop (fun s => F_X7_ringSteps_s5 l0 l1 l2 M s.1 s.2) (l3, l4) = some r) (kx : ∀ e' : Unit, r = .inl e' → wq X 5 53 [] [] M) (kf : ∀ f' : Int32, r = .inr f' → FIN X (some .int) (rs_pI f') M) : wq X 5 5 [(0, .ref l0), (1, .ref l1), (2, .int l2), (3, .int l3), (4, .int l4)] [] M :=
  loop_ind (P := fun s => wq X 5 5 [(0, .ref l0), (1, .ref l1), (2, .int l2), (3, .int s.1), (4, .int s.2)] [] M) h (fun s y hy kc kr => w_X7_ringSteps_s5 C hRO hl l0 l1 l2 M s.1 s.2 hy kc (fun e' he => kx e' (kr _ he).symm) (fun f' he => kf f' (kr _ he).symm))
set_option maxRecDepth 100000 in
set_option maxHeartbeats 4000000 in
theorem w_X7_ringSteps {X : CX} {y : Int32} (C : CK X cX7_ringSteps 5 RX7 7 140) (hRO : RO X.2.2.1 X.1.2.2.2.2.1 X.1.2.2.2.2.1.heap) (hl : X.1.2.1.stackTraces = false) (l0 : Nat) (l1 : Nat) (l2 : Int32) (M : Mem) (h : F_X7_ringSteps l0 l1 l2 M = some y) (kf : FIN X (some .int) (rs_pI y) M) : wq X 5 0 [(0, .ref l0), (1, .ref l1), (2, .int l2)] [] M := by
  unfold F_X7_ringSteps at h
  refine q_iload_n 2 C dX7_ringSteps_0 rfl ?_
  refine q_istore_n (i := 3) (lv' := [(3, .int l2), (0, .ref l0), (1, .ref l1), (2, .int l2)]) C dX7_ringSteps_1 rfl (by decide) rfl ?_
  refine q_iconst (v := (1 : Int32)) C dX7_ringSteps_2 (by decide) ?_
  refine q_istore (i := 4) (lv' := [(4, .int (1 : Int32)), (3, .int l2), (0, .ref l0), (1, .ref l1), (2, .int l2)]) C dX7_ringSteps_3 (by decide) rfl ?_
  obtain ⟨r17, e18, h⟩ := bindE h
  refine q_sub (lv' := [(0, .ref l0), (1, .ref l1), (2, .int l2), (3, .int l2), (4, .int (1 : Int32))]) [2, 3, 4, 1, 0] rfl (w_X7_ringSteps_l5 C hRO hl l0 l1 l2 M l2 (1 : Int32) e18 (fun q19 he => ?_) (fun f20 he => ?_))
  · subst he
    have h := elimL h
    show wq X 5 53 [] [] M
    refine q_iconst (v := (0 : Int32)) C dX7_ringSteps_53 (by decide) ?_
    cases h
    exact q_iret C kf dX7_ringSteps_54
  · subst he
    have h := elimR h
    cases h
    exact kf
theorem k_X7_ringSteps (l : Launch) (hl : l.stackTraces = false) (G : GG) (l0 : Nat) (l1 : Nat) (l2 : Int32) (M : Mem) (x : Int32) (h : F_X7_ringSteps l0 l1 l2 M = some x) : Ct l G yX7_ringSteps (.code yX7_ringSteps cX7_ringSteps 5 (some .int)) 7 140 [.ref l0, .ref l1, .int l2] M (rs_pI x) M := by
  refine Ct_of (by decide +kernel) (Nat.le_of_ble_eq_true rfl) fun X e1 e2 e3 C FN hnm => ?_
  subst e1; subst e2
  show wq X 5 0 [(0, .ref l0), (1, .ref l1), (2, .int l2)] [] M
  exact w_X7_ringSteps C FN.2.2.2 hl l0 l1 l2 M h FN
/-! X7_closeRings -/
set_option maxRecDepth 100000 in
set_option maxHeartbeats 4000000 in
theorem w_X7_closeRings_j36_6 {X : CX} {y : (Int32 × Int32 × Mem) ⊕ (Int32 × Mem)} (C : CK X cX7_closeRings 7 RX7 8 164) (hRO : RO X.2.2.1 X.1.2.2.2.2.1 X.1.2.2.2.2.1.heap) (hl : X.1.2.1.stackTraces = false) (l0 : Nat) (l1 : Nat) (l2 : Nat) (l3 : Int32) (l4 : Int32) (l5 : Int32) (t0 : Int32) (M : Mem) (h : F_X7_closeRings_j36_6 l0 l1 l2 l3 l4 l5 t0 M = some y) (kc : ∀ s' : Int32 × Int32 × Mem, y = .inl s' → wq X 7 6 [(0, .ref l0), (1, .ref l1), (2, .ref l2), (3, .int l3), (4, .int (s'.1)), (5, .int (s'.2.1))] [] s'.2.2) (kx : ∀ e' : Int32 × Mem, y = (.inr e') → wq X 7 81 [(4, .int (e'.1))] [] e'.2) : wq X 7 36 [(0, .ref l0), (1, .ref l1), (2, .ref l2), (3, .int l3), (4, .int l4), (5, .int l5)] [.int t0] M := by
  unfold F_X7_closeRings_j36_6 at h
  refine q_istore (i := 6) (lv' := [(6, .int t0), (0, .ref l0), (1, .ref l1), (2, .ref l2), (3, .int l3), (4, .int l4), (5, .int l5)]) C dX7_closeRings_36 (by decide) rfl ?_
  refine q_iload 0 C dX7_closeRings_38 rfl ?_
  refine q_if_le (tgt := 75) C dX7_closeRings_40 (by decide) (fun c5 => ?_) (fun c5 => ?_)
  · have h := ifT c5 h
    refine q_iinc 6 (v := (l5 + (1 : Int32))) (lv' := [(5, .int (l5 + (1 : Int32))), (6, .int t0), (0, .ref l0), (1, .ref l1), (2, .ref l2), (3, .int l3), (4, .int l4)]) C dX7_closeRings_75 rfl rfl (by decide) rfl ?_
    refine q_goto (tgt := 6) C dX7_closeRings_78 (by decide) ?_
    exact q_sub (lv' := [(0, .ref l0), (1, .ref l1), (2, .ref l2), (3, .int l3), (4, .int l4), (5, .int (l5 + (1 : Int32)))]) [2, 3, 4, 5, 6, 0] rfl (kc (l4, (l5 + (1 : Int32)), M) (someI h))
  · have h := ifF c5 h
    refine q_aload_n 1 C dX7_closeRings_43 rfl ?_
    obtain ⟨v6, e7, h⟩ := bindE h
    refine q_getP C fl_RX7_9 rfl e7 dX7_closeRings_44 ?_
    refine q_iload 6 C dX7_closeRings_47 rfl ?_
    refine q_aload_n 1 C dX7_closeRings_49 rfl ?_
    obtain ⟨v8, e9, h⟩ := bindE h
    refine q_getP C fl_RX7_18 rfl e9 dX7_closeRings_50 ?_
    refine q_iload 6 C dX7_closeRings_53 rfl ?_
    obtain ⟨v10, e11, h⟩ := bindE h
    refine q_iaload C e11 dX7_closeRings_55 ?_
    obtain ⟨M12, e13, h⟩ := bindE h
    refine q_iastore C e13 dX7_closeRings_56 ?_
    refine q_aload_n 1 C dX7_closeRings_57 rfl ?_
    obtain ⟨v14, e15, h⟩ := bindE h
    refine q_getP C fl_RX7_15 rfl e15 dX7_closeRings_58 ?_
    refine q_iload 6 C dX7_closeRings_61 rfl ?_
    refine q_iload 0 C dX7_closeRings_63 rfl ?_
    obtain ⟨M16, e17, h⟩ := bindE h
    refine q_iastore C e17 dX7_closeRings_65 ?_
    refine q_iload 5 C dX7_closeRings_66 rfl ?_
    refine q_iconst (v := (1 : Int32)) C dX7_closeRings_68 (by decide) ?_
    refine q_iload 6 C dX7_closeRings_69 rfl ?_
    refine q_ishl C dX7_closeRings_71 ?_
    refine q_ior C dX7_closeRings_72 ?_
    obtain ⟨n18, e19, h⟩ := nmE h
    refine q_topI e19 ?_
    refine q_istore (i := 4) (lv' := [(4, .int n18), (6, .int t0), (0, .ref l0), (1, .ref l1), (2, .ref l2), (3, .int l3), (5, .int l5)]) C dX7_closeRings_73 (by decide) rfl ?_
    refine q_iinc 6 (v := (l5 + (1 : Int32))) (lv' := [(5, .int (l5 + (1 : Int32))), (4, .int n18), (6, .int t0), (0, .ref l0), (1, .ref l1), (2, .ref l2), (3, .int l3)]) C dX7_closeRings_75 rfl rfl (by decide) rfl ?_
    refine q_goto (tgt := 6) C dX7_closeRings_78 (by decide) ?_
    exact q_sub (lv' := [(0, .ref l0), (1, .ref l1), (2, .ref l2), (3, .int l3), (4, .int n18), (5, .int (l5 + (1 : Int32)))]) [3, 4, 5, 6, 1, 0] rfl (kc (n18, (l5 + (1 : Int32)), M16) (someI h))
set_option maxRecDepth 100000 in
set_option maxHeartbeats 4000000 in
theorem w_X7_closeRings_s6 {X : CX} {y : (Int32 × Int32 × Mem) ⊕ (Int32 × Mem)} (C : CK X cX7_closeRings 7 RX7 8 164) (hRO : RO X.2.2.1 X.1.2.2.2.2.1 X.1.2.2.2.2.1.heap) (hl : X.1.2.1.stackTraces = false) (l0 : Nat) (l1 : Nat) (l2 : Nat) (l3 : Int32) (l4 : Int32) (l5 : Int32) (M : Mem) (h : F_X7_closeRings_s6 l0 l1 l2 l3 l4 l5 M = some y) (kc : ∀ s' : Int32 × Int32 × Mem, y = .inl s' → wq X 7 6 [(0, .ref l0), (1, .ref l1), (2, .ref l2), (3, .int l3), (4, .int (s'.1)), (5, .int (s'.2.1))] [] s'.2.2) (kx : ∀ e' : Int32 × Mem, y = (.inr e') → wq X 7 81 [(4, .int (e'.1))] [] e'.2) : wq X 7 6 [(0, .ref l0), (1, .ref l1), (2, .ref l2), (3, .int l3), (4, .int l4), (5, .int l5)] [] M := by
  unfold F_X7_closeRings_s6 at h
  refine q_iload 5 C dX7_closeRings_6 rfl ?_
  refine q_aload_n 1 C dX7_closeRings_8 rfl ?_
  obtain ⟨v1, e2, h⟩ := bindE h
  refine q_getI C fl_RX7_27 rfl e2 dX7_closeRings_9 ?_
  refine q_icmp_ge (tgt := 81) C dX7_closeRings_12 (by decide) (fun c3 => ?_) (fun c3 => ?_)
  · have h := ifT c3 h
    exact q_sub (lv' := [(4, .int l4)]) [4] rfl (kx (l4, M) (someI h))
  · have h := ifF c3 h
    refine q_iload_n 3 C dX7_closeRings_15 rfl ?_
    refine q_iload 5 C dX7_closeRings_16 rfl ?_
    refine q_ishr C dX7_closeRings_18 ?_
    refine q_iconst (v := (1 : Int32)) C dX7_closeRings_19 (by decide) ?_
    refine q_iand C dX7_closeRings_20 ?_
    refine q_iconst (v := (1 : Int32)) C dX7_closeRings_21 (by decide) ?_
    refine q_icmp_ne (tgt := 35) C dX7_closeRings_22 (by decide) (fun c4 => ?_) (fun c4 => ?_)
    · have h := ifF c4 h
      refine q_iconst (v := (0 : Int32)) C dX7_closeRings_35 (by decide) ?_
      exact q_sub (lv' := [(0, .ref l0), (1, .ref l1), (2, .ref l2), (3, .int l3), (4, .int l4), (5, .int l5)]) [0, 1, 2, 3, 4, 5] rfl (w_X7_closeRings_j36_6 C hRO hl l0 l1 l2 l3 l4 l5 (0 : Int32) M h kc kx)
    · have h := ifT c4 h
      refine q_aload_n 0 C dX7_closeRings_25 rfl ?_
      refine q_aload_n 2 C dX7_closeRings_26 rfl ?_
      refine q_iload 5 C dX7_closeRings_27 rfl ?_
      obtain ⟨e20, h⟩ := ckOE h
      obtain ⟨v22, e21, h⟩ := bindE h
      refine q_callV (v := some (.int v22)) [.ref l2, .int l5] C hRO lk_RX7_68 vk_X7_ringSteps e20 rfl rfl rfl (Nat.le_of_ble_eq_true rfl) (by decide) (by decide) dX7_closeRings_29 (k_X7_ringSteps X.1.2.1 hl X.2.2.1 l0 l2 l5 M _ e21) ?_
      refine q_goto (tgt := 36) C dX7_closeRings_32 (by decide) ?_
      exact q_sub (lv' := [(0, .ref l0), (1, .ref l1), (2, .ref l2), (3, .int l3), (4, .int l4), (5, .int l5)]) [0, 1, 2, 3, 4, 5] rfl (w_X7_closeRings_j36_6 C hRO hl l0 l1 l2 l3 l4 l5 v22 M h kc kx)
theorem w_X7_closeRings_l6 {X : CX} {r : Int32 × Mem} (C : CK X cX7_closeRings 7 RX7 8 164) (hRO : RO X.2.2.1 X.1.2.2.2.2.1 X.1.2.2.2.2.1.heap) (hl : X.1.2.1.stackTraces = false) (l0 : Nat) (l1 : Nat) (l2 : Nat) (l3 : Int32) (l4 : Int32) (l5 : Int32) (M : Mem) (h : loop (fun s => F_X7_closeRings_s6 l0 l1 l2 l3 s.1 s.2.1 s.2.2) (l4, l5, M) = some r) (kx : ∀ e' : Int32 × Mem, r = e' → wq X 7 81 [(4, .int (e'.1))] [] e'.2) : wq X 7 6 [(0, .ref l0), (1, .ref l1), (2, .ref l2), (3, .int l3), (4, .int l4), (5, .int l5)] [] M :=
  loop_ind (P := fun s => wq X 7 6 [(0, .ref l0), (1, .ref l1), (2, .ref l2), (3, .int l3), (4, .int s.1), (5, .int s.2.1)] [] s.2.2) h (fun s y hy kc kr => w_X7_closeRings_s6 C hRO hl l0 l1 l2 l3 s.1 s.2.1 s.2.2 hy kc (fun e' he => kx e' (kr _ he).symm))
set_option maxRecDepth 100000 in
set_option maxHeartbeats 4000000 in
theorem w_X7_closeRings {X : CX} {y : Int32 × Mem} (C : CK X cX7_closeRings 7 RX7 8 164) (hRO : RO X.2.2.1 X.1.2.2.2.2.1 X.1.2.2.2.2.1.heap) (hl : X.1.2.1.stackTraces = false) (l0 : Nat) (l1 : Nat) (l2 : Nat) (l3 : Int32) (M : Mem) (h : F_X7_closeRings l0 l1 l2 l3 M = some y) (kf : FIN X (some .int) (rs_mI y) (ms_mI y)) : wq X 7 0 [(0, .ref l0), (1, .ref l1), (2, .ref l2), (3, .int l3)] [] M := by
  unfold F_X7_closeRings at h
  refine q_iconst (v := (0 : Int32)) C dX7_closeRings_0 (by decide) ?_
  refine q_istore (i := 4) (lv' := [(4, .int (0 : Int32)), (0, .ref l0), (1, .ref l1), (2, .ref l2), (3, .int l3)]) C dX7_closeRings_1 (by decide) rfl ?_
  refine q_iconst (v := (0 : Int32)) C dX7_closeRings_3 (by decide) ?_
  refine q_istore (i := 5) (lv' := [(5, .int (0 : Int32)), (4, .int (0 : Int32)), (0, .ref l0), (1, .ref l1), (2, .ref l2), (3, .int l3)]) C dX7_closeRings_4 (by decide) rfl ?_
  obtain ⟨⟨x25, M26⟩, e24, h⟩ := bindE h
  refine q_sub (lv' := [(0, .ref l0), (1, .ref l1), (2, .ref l2), (3, .int l3), (4, .int (0 : Int32)), (5, .int (0 : Int32))]) [2, 3, 4, 5, 1, 0] rfl (w_X7_closeRings_l6 C hRO hl l0 l1 l2 l3 (0 : Int32) (0 : Int32) M e24 (fun r23 he => ?_))
  subst he
  have h := u2E h
  show wq X 7 81 [(4, .int x25)] [] M26
  refine q_iload 0 C dX7_closeRings_81 rfl ?_
  cases h
  exact q_iret C kf dX7_closeRings_83
theorem k_X7_closeRings (l : Launch) (hl : l.stackTraces = false) (G : GG) (l0 : Nat) (l1 : Nat) (l2 : Nat) (l3 : Int32) (M : Mem) (x : Int32 × Mem) (h : F_X7_closeRings l0 l1 l2 l3 M = some x) : Ct l G yX7_closeRings (.code yX7_closeRings cX7_closeRings 7 (some .int)) 8 164 [.ref l0, .ref l1, .ref l2, .int l3] M (rs_mI x) (ms_mI x) := by
  refine Ct_of (by decide +kernel) (Nat.le_of_ble_eq_true rfl) fun X e1 e2 e3 C FN hnm => ?_
  subst e1; subst e2
  show wq X 7 0 [(0, .ref l0), (1, .ref l1), (2, .ref l2), (3, .int l3)] [] M
  exact w_X7_closeRings C FN.2.2.2 hl l0 l1 l2 l3 M h FN
/-! X7_wanted -/
set_option maxRecDepth 100000 in
set_option maxHeartbeats 4000000 in
theorem w_X7_wanted_s10 {X : CX} {y : (Int32 × Int32 × Int32) ⊕ (Int32)} (C : CK X cX7_wanted 9 RX7 7 140) (hRO : RO X.2.2.1 X.1.2.2.2.2.1 X.1.2.2.2.2.1.heap) (hl : X.1.2.1.stackTraces = false) (l0 : Nat) (l1 : Nat) (l2 : Int32) (l3 : Int32) (M : Mem) (l4 : Int32) (l5 : Int32) (l6 : Int32) (h : F_X7_wanted_s10 l0 l1 l2 l3 M l4 l5 l6 = some y) (kc : ∀ s' : Int32 × Int32 × Int32, y = .inl s' → wq X 9 10 [(0, .ref l0), (1, .ref l1), (2, .int l2), (3, .int l3), (4, .int (s'.1)), (5, .int (s'.2.1)), (6, .int (s'.2.2))] [] M) (kx : ∀ e' : Int32, y = (.inr e') → wq X 9 84 [(4, .int (e'))] [] M) : wq X 9 10 [(0, .ref l0), (1, .ref l1), (2, .int l2), (3, .int l3), (4, .int l4), (5, .int l5), (6, .int l6)] [] M := by
  unfold F_X7_wanted_s10 at h
  refine q_iload 6 C dX7_wanted_10 rfl ?_
  refine q_aload_n 0 C dX7_wanted_12 rfl ?_
  obtain ⟨v1, e2, h⟩ := bindE h
  refine q_getI C fl_RX7_50 rfl e2 dX7_wanted_13 ?_
  refine q_icmp_ge (tgt := 84) C dX7_wanted_16 (by decide) (fun c3 => ?_) (fun c3 => ?_)
  · have h := ifT c3 h
    exact q_sub (lv' := [(4, .int l4)]) [4] rfl (kx l4 (someI h))
  · have h := ifF c3 h
    refine q_aload_n 1 C dX7_wanted_19 rfl ?_
    obtain ⟨v4, e5, h⟩ := bindE h
    refine q_getP C fl_RX7_53 rfl e5 dX7_wanted_20 ?_
    refine q_iload 6 C dX7_wanted_23 rfl ?_
    obtain ⟨v6, e7, h⟩ := bindE h
    refine q_iaload C e7 dX7_wanted_25 ?_
    refine q_istore (i := 7) (lv' := [(7, .int v6), (0, .ref l0), (1, .ref l1), (2, .int l2), (3, .int l3), (4, .int l4), (5, .int l5), (6, .int l6)]) C dX7_wanted_26 (by decide) rfl ?_
    refine q_aload_n 2 C dX7_wanted_28 rfl ?_
    obtain ⟨v8, e9, h⟩ := bindE h
    refine q_getP C fl_RX7_56 rfl e9 dX7_wanted_29 ?_
    refine q_iload 7 C dX7_wanted_32 rfl ?_
    obtain ⟨v10, e11, h⟩ := bindE h
    refine q_iaload C e11 dX7_wanted_34 ?_
    refine q_aload_n 2 C dX7_wanted_35 rfl ?_
    obtain ⟨v12, e13, h⟩ := bindE h
    refine q_getP C fl_RX7_59 rfl e13 dX7_wanted_36 ?_
    refine q_iload_n 4 C dX7_wanted_39 rfl ?_
    obtain ⟨v14, e15, h⟩ := bindE h
    refine q_iaload C e15 dX7_wanted_40 ?_
    refine q_isub C dX7_wanted_41 ?_
    refine q_mabs C ml_RX7_62 mm_abs1 mm_3 mm_abs4 (by decide) (Nat.le_of_ble_eq_true rfl) dX7_wanted_42 ?_
    refine q_istore (i := 8) (lv' := [(8, .int (abI (v10 - v14))), (7, .int v6), (0, .ref l0), (1, .ref l1), (2, .int l2), (3, .int l3), (4, .int l4), (5, .int l5), (6, .int l6)]) C dX7_wanted_45 (by decide) rfl ?_
    refine q_iload 1 C dX7_wanted_47 rfl ?_
    refine q_iconst (v := (-1 : Int32)) C dX7_wanted_49 (by decide) ?_
    refine q_icmp_eq (tgt := 78) C dX7_wanted_50 (by decide) (fun c16 => ?_) (fun c16 => ?_)
    · have h := ifT c16 h
      refine q_iinc 8 (v := (l6 + (1 : Int32))) (lv' := [(6, .int (l6 + (1 : Int32))), (8, .int (abI (v10 - v14))), (7, .int v6), (0, .ref l0), (1, .ref l1), (2, .int l2), (3, .int l3), (4, .int l4), (5, .int l5)]) C dX7_wanted_78 rfl rfl (by decide) rfl ?_
      refine q_goto (tgt := 10) C dX7_wanted_81 (by decide) ?_
      exact q_sub (lv' := [(0, .ref l0), (1, .ref l1), (2, .int l2), (3, .int l3), (4, .int l4), (5, .int l5), (6, .int (l6 + (1 : Int32)))]) [3, 4, 5, 6, 7, 8, 0] rfl (kc (l4, l5, (l6 + (1 : Int32))) (someI h))
    · have h := ifF c16 h
      refine q_iload_n 4 C dX7_wanted_53 rfl ?_
      refine q_iload 1 C dX7_wanted_54 rfl ?_
      refine q_ishr C dX7_wanted_56 ?_
      refine q_iconst (v := (1 : Int32)) C dX7_wanted_57 (by decide) ?_
      refine q_iand C dX7_wanted_58 ?_
      refine q_iconst (v := (1 : Int32)) C dX7_wanted_59 (by decide) ?_
      refine q_icmp_ne (tgt := 78) C dX7_wanted_60 (by decide) (fun c17 => ?_) (fun c17 => ?_)
      · have h := ifF c17 h
        refine q_iinc 8 (v := (l6 + (1 : Int32))) (lv' := [(6, .int (l6 + (1 : Int32))), (8, .int (abI (v10 - v14))), (7, .int v6), (0, .ref l0), (1, .ref l1), (2, .int l2), (3, .int l3), (4, .int l4), (5, .int l5)]) C dX7_wanted_78 rfl rfl (by decide) rfl ?_
        refine q_goto (tgt := 10) C dX7_wanted_81 (by decide) ?_
        exact q_sub (lv' := [(0, .ref l0), (1, .ref l1), (2, .int l2), (3, .int l3), (4, .int l4), (5, .int l5), (6, .int (l6 + (1 : Int32)))]) [3, 4, 5, 6, 7, 8, 0] rfl (kc (l4, l5, (l6 + (1 : Int32))) (someI h))
      · have h := ifT c17 h
        refine q_iload 0 C dX7_wanted_63 rfl ?_
        refine q_iload 7 C dX7_wanted_65 rfl ?_
        refine q_icmp_ge (tgt := 78) C dX7_wanted_67 (by decide) (fun c18 => ?_) (fun c18 => ?_)
        · have h := ifT c18 h
          refine q_iinc 8 (v := (l6 + (1 : Int32))) (lv' := [(6, .int (l6 + (1 : Int32))), (8, .int (abI (v10 - v14))), (7, .int v6), (0, .ref l0), (1, .ref l1), (2, .int l2), (3, .int l3), (4, .int l4), (5, .int l5)]) C dX7_wanted_78 rfl rfl (by decide) rfl ?_
          refine q_goto (tgt := 10) C dX7_wanted_81 (by decide) ?_
          exact q_sub (lv' := [(0, .ref l0), (1, .ref l1), (2, .int l2), (3, .int l3), (4, .int l4), (5, .int l5), (6, .int (l6 + (1 : Int32)))]) [3, 4, 5, 6, 7, 8, 0] rfl (kc (l4, l5, (l6 + (1 : Int32))) (someI h))
        · have h := ifF c18 h
          refine q_iload 0 C dX7_wanted_70 rfl ?_
          refine q_istore (i := 5) (lv' := [(5, .int (abI (v10 - v14))), (8, .int (abI (v10 - v14))), (7, .int v6), (0, .ref l0), (1, .ref l1), (2, .int l2), (3, .int l3), (4, .int l4), (6, .int l6)]) C dX7_wanted_72 (by decide) rfl ?_
          refine q_iload 8 C dX7_wanted_74 rfl ?_
          refine q_istore (i := 4) (lv' := [(4, .int l6), (5, .int (abI (v10 - v14))), (8, .int (abI (v10 - v14))), (7, .int v6), (0, .ref l0), (1, .ref l1), (2, .int l2), (3, .int l3), (6, .int l6)]) C dX7_wanted_76 (by decide) rfl ?_
          refine q_iinc 8 (v := (l6 + (1 : Int32))) (lv' := [(6, .int (l6 + (1 : Int32))), (4, .int l6), (5, .int (abI (v10 - v14))), (8, .int (abI (v10 - v14))), (7, .int v6), (0, .ref l0), (1, .ref l1), (2, .int l2), (3, .int l3)]) C dX7_wanted_78 rfl rfl (by decide) rfl ?_
          refine q_goto (tgt := 10) C dX7_wanted_81 (by decide) ?_
          exact q_sub (lv' := [(0, .ref l0), (1, .ref l1), (2, .int l2), (3, .int l3), (4, .int l6), (5, .int (abI (v10 - v14))), (6, .int (l6 + (1 : Int32)))]) [5, 6, 7, 8, 1, 2, 0] rfl (kc (l6, (abI (v10 - v14)), (l6 + (1 : Int32))) (someI h))
theorem w_X7_wanted_l10 {X : CX} {r : Int32} (C : CK X cX7_wanted 9 RX7 7 140) (hRO : RO X.2.2.1 X.1.2.2.2.2.1 X.1.2.2.2.2.1.heap) (hl : X.1.2.1.stackTraces = false) (l0 : Nat) (l1 : Nat) (l2 : Int32) (l3 : Int32) (M : Mem) (l4 : Int32) (l5 : Int32) (l6 : Int32) (h : loop (fun s => F_X7_wanted_s10 l0 l1 l2 l3 M s.1 s.2.1 s.2.2) (l4, l5, l6) = some r) (kx : ∀ e' : Int32, r = e' → wq X 9 84 [(4, .int (e'))] [] M) : wq X 9 10 [(0, .ref l0), (1, .ref l1), (2, .int l2), (3, .int l3), (4, .int l4), (5, .int l5), (6, .int l6)] [] M :=
  loop_ind (P := fun s => wq X 9 10 [(0, .ref l0), (1, .ref l1), (2, .int l2), (3, .int l3), (4, .int s.1), (5, .int s.2.1), (6, .int s.2.2)] [] M) h (fun s y hy kc kr => w_X7_wanted_s10 C hRO hl l0 l1 l2 l3 M s.1 s.2.1 s.2.2 hy kc (fun e' he => kx e' (kr _ he).symm))
set_option maxRecDepth 100000 in
set_option maxHeartbeats 4000000 in
theorem w_X7_wanted {X : CX} {y : Int32} (C : CK X cX7_wanted 9 RX7 7 140) (hRO : RO X.2.2.1 X.1.2.2.2.2.1 X.1.2.2.2.2.1.heap) (hl : X.1.2.1.stackTraces = false) (l0 : Nat) (l1 : Nat) (l2 : Int32) (l3 : Int32) (M : Mem) (h : F_X7_wanted l0 l1 l2 l3 M = some y) (kf : FIN X (some .int) (rs_pI y) M) : wq X 9 0 [(0, .ref l0), (1, .ref l1), (2, .int l2), (3, .int l3)] [] M := by
  unfold F_X7_wanted at h
  refine q_iconst (v := (-1 : Int32)) C dX7_wanted_0 (by decide) ?_
  refine q_istore (i := 4) (lv' := [(4, .int (-1 : Int32)), (0, .ref l0), (1, .ref l1), (2, .int l2), (3, .int l3)]) C dX7_wanted_1 (by decide) rfl ?_
  refine q_bipush (v := (100 : Int32)) C dX7_wanted_3 (by decide) ?_
  refine q_istore (i := 5) (lv' := [(5, .int (100 : Int32)), (4, .int (-1 : Int32)), (0, .ref l0), (1, .ref l1), (2, .int l2), (3, .int l3)]) C dX7_wanted_5 (by decide) rfl ?_
  refine q_iconst (v := (0 : Int32)) C dX7_wanted_7 (by decide) ?_
  refine q_istore (i := 6) (lv' := [(6, .int (0 : Int32)), (5, .int (100 : Int32)), (4, .int (-1 : Int32)), (0, .ref l0), (1, .ref l1), (2, .int l2), (3, .int l3)]) C dX7_wanted_8 (by decide) rfl ?_
  obtain ⟨x21, e20, h⟩ := bindE h
  refine q_sub (lv' := [(0, .ref l0), (1, .ref l1), (2, .int l2), (3, .int l3), (4, .int (-1 : Int32)), (5, .int (100 : Int32)), (6, .int (0 : Int32))]) [3, 4, 5, 6, 2, 1, 0] rfl (w_X7_wanted_l10 C hRO hl l0 l1 l2 l3 M (-1 : Int32) (100 : Int32) (0 : Int32) e20 (fun r19 he => ?_))
  subst he
  show wq X 9 84 [(4, .int x21)] [] M
  refine q_iload 0 C dX7_wanted_84 rfl ?_
  cases h
  exact q_iret C kf dX7_wanted_86
theorem k_X7_wanted (l : Launch) (hl : l.stackTraces = false) (G : GG) (l0 : Nat) (l1 : Nat) (l2 : Int32) (l3 : Int32) (M : Mem) (x : Int32) (h : F_X7_wanted l0 l1 l2 l3 M = some x) : Ct l G yX7_wanted (.code yX7_wanted cX7_wanted 9 (some .int)) 7 140 [.ref l0, .ref l1, .int l2, .int l3] M (rs_pI x) M := by
  refine Ct_of (by decide +kernel) (Nat.le_of_ble_eq_true rfl) fun X e1 e2 e3 C FN hnm => ?_
  subst e1; subst e2
  show wq X 9 0 [(0, .ref l0), (1, .ref l1), (2, .int l2), (3, .int l3)] [] M
  exact w_X7_wanted C FN.2.2.2 hl l0 l1 l2 l3 M h FN
/-! X7_wish -/
set_option maxRecDepth 100000 in
set_option maxHeartbeats 4000000 in
theorem w_X7_wish_s3 {X : CX} {y : (Int32 × Mem) ⊕ (Mem)} (C : CK X cX7_wish 5 RX7 8 168) (hRO : RO X.2.2.1 X.1.2.2.2.2.1 X.1.2.2.2.2.1.heap) (hl : X.1.2.1.stackTraces = false) (l0 : Nat) (l1 : Nat) (l2 : Nat) (l3 : Int32) (l4 : Int32) (M : Mem) (h : F_X7_wish_s3 l0 l1 l2 l3 l4 M = some y) (kc : ∀ s' : Int32 × Mem, y = .inl s' → wq X 5 3 [(0, .ref l0), (1, .ref l1), (2, .ref l2), (3, .int l3), (4, .int (s'.1))] [] s'.2) (kx : ∀ e' : Mem, y = (.inr e') → wq X 5 47 [] [] e') : wq X 5 3 [(0, .ref l0), (1, .ref l1), (2, .ref l2), (3, .int l3), (4, .int l4)] [] M := by
  unfold F_X7_wish_s3 at h
  refine q_iload 4 C dX7_wish_3 rfl ?_
  refine q_aload_n 1 C dX7_wish_5 rfl ?_
  obtain ⟨v1, e2, h⟩ := bindE h
  refine q_getI C fl_RX7_27 rfl e2 dX7_wish_6 ?_
  refine q_icmp_ge (tgt := 47) C dX7_wish_9 (by decide) (fun c3 => ?_) (fun c3 => ?_)
  · have h := ifT c3 h
    exact q_sub (lv' := []) [] rfl (kx M (someI h))
  · have h := ifF c3 h
    refine q_aload_n 0 C dX7_wish_12 rfl ?_
    obtain ⟨v4, e5, h⟩ := bindE h
    refine q_getP C fl_RX7_18 rfl e5 dX7_wish_13 ?_
    refine q_iload 4 C dX7_wish_16 rfl ?_
    refine q_iload_n 3 C dX7_wish_18 rfl ?_
    refine q_iload 4 C dX7_wish_19 rfl ?_
    refine q_ishr C dX7_wish_21 ?_
    refine q_iconst (v := (1 : Int32)) C dX7_wish_22 (by decide) ?_
    refine q_iand C dX7_wish_23 ?_
    refine q_iconst (v := (1 : Int32)) C dX7_wish_24 (by decide) ?_
    refine q_icmp_ne (tgt := 39) C dX7_wish_25 (by decide) (fun c6 => ?_) (fun c6 => ?_)
    · have h := ifF c6 h
      refine q_iconst (v := (-1 : Int32)) C dX7_wish_39 (by decide) ?_
      obtain ⟨M7, e8, h⟩ := bindE h
      refine q_iastore C e8 dX7_wish_40 ?_
      refine q_iinc 4 (v := (l4 + (1 : Int32))) (lv' := [(4, .int (l4 + (1 : Int32))), (0, .ref l0), (1, .ref l1), (2, .ref l2), (3, .int l3)]) C dX7_wish_41 rfl rfl (by decide) rfl ?_
      refine q_goto (tgt := 3) C dX7_wish_44 (by decide) ?_
      exact q_sub (lv' := [(0, .ref l0), (1, .ref l1), (2, .ref l2), (3, .int l3), (4, .int (l4 + (1 : Int32)))]) [1, 2, 3, 4, 0] rfl (kc ((l4 + (1 : Int32)), M7) (someI h))
    · have h := ifT c6 h
      refine q_aload_n 1 C dX7_wish_28 rfl ?_
      refine q_aload_n 2 C dX7_wish_29 rfl ?_
      refine q_iload_n 3 C dX7_wish_30 rfl ?_
      refine q_iload 4 C dX7_wish_31 rfl ?_
      obtain ⟨v10, e9, h⟩ := bindE h
      refine q_callS (v := some (.int v10)) [.ref l1, .ref l2, .int l3, .int l4] C hRO lk_RX7_46 sk_X7_wanted rfl rfl (Nat.le_of_ble_eq_true rfl) (by decide) (by decide) dX7_wish_33 (k_X7_wanted X.1.2.1 hl X.2.2.1 l1 l2 l3 l4 M _ e9) ?_
      refine q_goto (tgt := 40) C dX7_wish_36 (by decide) ?_
      obtain ⟨M11, e12, h⟩ := bindE h
      refine q_iastore C e12 dX7_wish_40 ?_
      refine q_iinc 4 (v := (l4 + (1 : Int32))) (lv' := [(4, .int (l4 + (1 : Int32))), (0, .ref l0), (1, .ref l1), (2, .ref l2), (3, .int l3)]) C dX7_wish_41 rfl rfl (by decide) rfl ?_
      refine q_goto (tgt := 3) C dX7_wish_44 (by decide) ?_
      exact q_sub (lv' := [(0, .ref l0), (1, .ref l1), (2, .ref l2), (3, .int l3), (4, .int (l4 + (1 : Int32)))]) [1, 2, 3, 4, 0] rfl (kc ((l4 + (1 : Int32)), M11) (someI h))
theorem w_X7_wish_l3 {X : CX} {r : Mem} (C : CK X cX7_wish 5 RX7 8 168) (hRO : RO X.2.2.1 X.1.2.2.2.2.1 X.1.2.2.2.2.1.heap) (hl : X.1.2.1.stackTraces = false) (l0 : Nat) (l1 : Nat) (l2 : Nat) (l3 : Int32) (l4 : Int32) (M : Mem) (h : loop (fun s => F_X7_wish_s3 l0 l1 l2 l3 s.1 s.2) (l4, M) = some r) (kx : ∀ e' : Mem, r = e' → wq X 5 47 [] [] e') : wq X 5 3 [(0, .ref l0), (1, .ref l1), (2, .ref l2), (3, .int l3), (4, .int l4)] [] M :=
  loop_ind (P := fun s => wq X 5 3 [(0, .ref l0), (1, .ref l1), (2, .ref l2), (3, .int l3), (4, .int s.1)] [] s.2) h (fun s y hy kc kr => w_X7_wish_s3 C hRO hl l0 l1 l2 l3 s.1 s.2 hy kc (fun e' he => kx e' (kr _ he).symm))
set_option maxRecDepth 100000 in
set_option maxHeartbeats 4000000 in
theorem w_X7_wish {X : CX} {y : Mem} (C : CK X cX7_wish 5 RX7 8 168) (hRO : RO X.2.2.1 X.1.2.2.2.2.1 X.1.2.2.2.2.1.heap) (hl : X.1.2.1.stackTraces = false) (l0 : Nat) (l1 : Nat) (l2 : Nat) (l3 : Int32) (M : Mem) (h : F_X7_wish l0 l1 l2 l3 M = some y) (kf : FIN X none (rs_mV y) (ms_mV y)) : wq X 5 0 [(0, .ref l0), (1, .ref l1), (2, .ref l2), (3, .int l3)] [] M := by
  unfold F_X7_wish at h
  refine q_iconst (v := (0 : Int32)) C dX7_wish_0 (by decide) ?_
  refine q_istore (i := 4) (lv' := [(4, .int (0 : Int32)), (0, .ref l0), (1, .ref l1), (2, .ref l2), (3, .int l3)]) C dX7_wish_1 (by decide) rfl ?_
  obtain ⟨M15, e14, h⟩ := bindE h
  refine q_sub (lv' := [(0, .ref l0), (1, .ref l1), (2, .ref l2), (3, .int l3), (4, .int (0 : Int32))]) [1, 2, 3, 4, 0] rfl (w_X7_wish_l3 C hRO hl l0 l1 l2 l3 (0 : Int32) M e14 (fun r13 he => ?_))
  subst he
  show wq X 5 47 [] [] M15
  cases h
  exact q_vret C kf dX7_wish_47
theorem k_X7_wish (l : Launch) (hl : l.stackTraces = false) (G : GG) (l0 : Nat) (l1 : Nat) (l2 : Nat) (l3 : Int32) (M : Mem) (x : Mem) (h : F_X7_wish l0 l1 l2 l3 M = some x) : Ct l G yX7_wish (.code yX7_wish cX7_wish 5 none) 8 168 [.ref l0, .ref l1, .ref l2, .int l3] M (rs_mV x) (ms_mV x) := by
  refine Ct_of (by decide +kernel) (Nat.le_of_ble_eq_true rfl) fun X e1 e2 e3 C FN hnm => ?_
  subst e1; subst e2
  show wq X 5 0 [(0, .ref l0), (1, .ref l1), (2, .ref l2), (3, .int l3)] [] M
  exact w_X7_wish C FN.2.2.2 hl l0 l1 l2 l3 M h FN
/-! X7_solve -/
set_option maxRecDepth 100000 in
set_option maxHeartbeats 4000000 in
theorem w_X7_solve_s21 {X : CX} {y : (Int32 × Int32) ⊕ (Int32)} (C : CK X cX7_solve 5 RX7 9 192) (hRO : RO X.2.2.1 X.1.2.2.2.2.1 X.1.2.2.2.2.1.heap) (hl : X.1.2.1.stackTraces = false) (l0 : Nat) (l1 : Nat) (l2 : Nat) (M : Mem) (l3 : Int32) (l4 : Int32) (h : F_X7_solve_s21 l1 l2 M l3 l4 = some y) (kc : ∀ s' : Int32 × Int32, y = .inl s' → wq X 5 21 [(0, .ref l0), (1, .ref l1), (2, .ref l2), (3, .int (s'.1)), (4, .int (s'.2))] [] M) (kx : ∀ e' : Int32, y = (.inr e') → wq X 5 54 [(0, .ref l0), (1, .ref l1), (2, .ref l2), (3, .int (e'))] [] M) : wq X 5 21 [(0, .ref l0), (1, .ref l1), (2, .ref l2), (3, .int l3), (4, .int l4)] [] M := by
  unfold F_X7_solve_s21 at h
  refine q_iload 4 C dX7_solve_21 rfl ?_
  refine q_aload_n 1 C dX7_solve_23 rfl ?_
  obtain ⟨v11, e12, h⟩ := bindE h
  refine q_getI C fl_RX7_27 rfl e12 dX7_solve_24 ?_
  refine q_icmp_ge (tgt := 54) C dX7_solve_27 (by decide) (fun c13 => ?_) (fun c13 => ?_)
  · have h := ifT c13 h
    exact q_sub (lv' := [(0, .ref l0), (1, .ref l1), (2, .ref l2), (3, .int l3)]) [0, 1, 2, 3] rfl (kx l3 (someI h))
  · have h := ifF c13 h
    refine q_aload_n 2 C dX7_solve_30 rfl ?_
    obtain ⟨v14, e15, h⟩ := bindE h
    refine q_getP C fl_RX7_33 rfl e15 dX7_solve_31 ?_
    refine q_iload 4 C dX7_solve_34 rfl ?_
    obtain ⟨v16, e17, h⟩ := bindE h
    refine q_iaload C e17 dX7_solve_36 ?_
    refine q_iconst (v := (-1 : Int32)) C dX7_solve_37 (by decide) ?_
    refine q_icmp_eq (tgt := 48) C dX7_solve_38 (by decide) (fun c18 => ?_) (fun c18 => ?_)
    · have h := ifT c18 h
      refine q_iinc 4 (v := (l4 + (1 : Int32))) (lv' := [(4, .int (l4 + (1 : Int32))), (0, .ref l0), (1, .ref l1), (2, .ref l2), (3, .int l3)]) C dX7_solve_48 rfl rfl (by decide) rfl ?_
      refine q_goto (tgt := 21) C dX7_solve_51 (by decide) ?_
      exact q_sub (lv' := [(0, .ref l0), (1, .ref l1), (2, .ref l2), (3, .int l3), (4, .int (l4 + (1 : Int32)))]) [1, 2, 3, 4, 0] rfl (kc (l3, (l4 + (1 : Int32))) (someI h))
    · have h := ifF c18 h
      refine q_iload_n 3 C dX7_solve_41 rfl ?_
      refine q_iconst (v := (1 : Int32)) C dX7_solve_42 (by decide) ?_
      refine q_iload 4 C dX7_solve_43 rfl ?_
      refine q_ishl C dX7_solve_45 ?_
      refine q_ior C dX7_solve_46 ?_
      obtain ⟨n19, e20, h⟩ := nmE h
      refine q_topI e20 ?_
      refine q_istore_n (i := 3) (lv' := [(3, .int n19), (0, .ref l0), (1, .ref l1), (2, .ref l2), (4, .int l4)]) C dX7_solve_47 rfl (by decide) rfl ?_
      refine q_iinc 4 (v := (l4 + (1 : Int32))) (lv' := [(4, .int (l4 + (1 : Int32))), (3, .int n19), (0, .ref l0), (1, .ref l1), (2, .ref l2)]) C dX7_solve_48 rfl rfl (by decide) rfl ?_
      refine q_goto (tgt := 21) C dX7_solve_51 (by decide) ?_
      exact q_sub (lv' := [(0, .ref l0), (1, .ref l1), (2, .ref l2), (3, .int n19), (4, .int (l4 + (1 : Int32)))]) [2, 3, 4, 1, 0] rfl (kc (n19, (l4 + (1 : Int32))) (someI h))
theorem w_X7_solve_l21 {X : CX} {r : Int32} (C : CK X cX7_solve 5 RX7 9 192) (hRO : RO X.2.2.1 X.1.2.2.2.2.1 X.1.2.2.2.2.1.heap) (hl : X.1.2.1.stackTraces = false) (l0 : Nat) (l1 : Nat) (l2 : Nat) (M : Mem) (l3 : Int32) (l4 : Int32) (h : loop (fun s => F_X7_solve_s21 l1 l2 M s.1 s.2) (l3, l4) = some r) (kx : ∀ e' : Int32, r = e' → wq X 5 54 [(0, .ref l0), (1, .ref l1), (2, .ref l2), (3, .int (e'))] [] M) : wq X 5 21 [(0, .ref l0), (1, .ref l1), (2, .ref l2), (3, .int l3), (4, .int l4)] [] M :=
  loop_ind (P := fun s => wq X 5 21 [(0, .ref l0), (1, .ref l1), (2, .ref l2), (3, .int s.1), (4, .int s.2)] [] M) h (fun s y hy kc kr => w_X7_solve_s21 C hRO hl l0 l1 l2 M s.1 s.2 hy kc (fun e' he => kx e' (kr _ he).symm))
set_option maxRecDepth 100000 in
set_option maxHeartbeats 4000000 in
theorem w_X7_solve_s57 {X : CX} {y : (Int32 × Int32 × Mem) ⊕ (Mem)} (C : CK X cX7_solve 5 RX7 9 192) (hRO : RO X.2.2.1 X.1.2.2.2.2.1 X.1.2.2.2.2.1.heap) (hl : X.1.2.1.stackTraces = false) (l0 : Nat) (l1 : Nat) (l2 : Nat) (l3 : Int32) (l4 : Int32) (M : Mem) (h : F_X7_solve_s57 l0 l1 l2 l3 l4 M = some y) (kc : ∀ s' : Int32 × Int32 × Mem, y = .inl s' → wq X 5 57 [(0, .ref l0), (1, .ref l1), (2, .ref l2), (3, .int (s'.1)), (4, .int (s'.2.1))] [] s'.2.2) (kx : ∀ e' : Mem, y = (.inr e') → wq X 5 93 [] [] e') : wq X 5 57 [(0, .ref l0), (1, .ref l1), (2, .ref l2), (3, .int l3), (4, .int l4)] [] M := by
  unfold F_X7_solve_s57 at h
  refine q_iload 4 C dX7_solve_57 rfl ?_
  refine q_bipush (v := (8 : Int32)) C dX7_solve_59 (by decide) ?_
  refine q_icmp_ge (tgt := 93) C dX7_solve_61 (by decide) (fun c24 => ?_) (fun c24 => ?_)
  · have h := ifT c24 h
    exact q_sub (lv' := []) [] rfl (kx M (someI h))
  · have h := ifF c24 h
    refine q_iload_n 3 C dX7_solve_64 rfl ?_
    refine q_if_eq (tgt := 93) C dX7_solve_65 (by decide) (fun c25 => ?_) (fun c25 => ?_)
    · have h := ifT c25 h
      exact q_sub (lv' := []) [] rfl (kx M (someI h))
    · have h := ifF c25 h
      refine q_aload_n 0 C dX7_solve_68 rfl ?_
      refine q_aload_n 1 C dX7_solve_69 rfl ?_
      refine q_aload_n 2 C dX7_solve_70 rfl ?_
      refine q_iload_n 3 C dX7_solve_71 rfl ?_
      obtain ⟨e26, h⟩ := ckOE h
      obtain ⟨M28, e27, h⟩ := bindE h
      refine q_callV (v := none) [.ref l1, .ref l2, .int l3] C hRO lk_RX7_38 vk_X7_wish e26 rfl rfl rfl (Nat.le_of_ble_eq_true rfl) (by decide) (by decide) dX7_solve_72 (k_X7_wish X.1.2.1 hl X.2.2.1 l0 l1 l2 l3 M _ e27) ?_
      refine q_iload_n 3 C dX7_solve_75 rfl ?_
      refine q_aload_n 0 C dX7_solve_76 rfl ?_
      refine q_aload_n 1 C dX7_solve_77 rfl ?_
      refine q_aload_n 2 C dX7_solve_78 rfl ?_
      refine q_iload_n 3 C dX7_solve_79 rfl ?_
      obtain ⟨e30, h⟩ := ckOE h
      obtain ⟨v33, M32, e31, h⟩ := bd2E h
      refine q_callV (v := some (.int v33)) [.ref l1, .ref l2, .int l3] C hRO lk_RX7_42 vk_X7_closeRings e30 rfl rfl rfl (Nat.le_of_ble_eq_true rfl) (by decide) (by decide) dX7_solve_80 (k_X7_closeRings X.1.2.1 hl X.2.2.1 l0 l1 l2 l3 M28 _ e31) ?_
      refine q_iconst (v := (-1 : Int32)) C dX7_solve_83 (by decide) ?_
      refine q_ixor C dX7_solve_84 ?_
      refine q_iand C dX7_solve_85 ?_
      obtain ⟨n34, e35, h⟩ := nmE h
      refine q_topI e35 ?_
      refine q_istore_n (i := 3) (lv' := [(3, .int n34), (0, .ref l0), (1, .ref l1), (2, .ref l2), (4, .int l4)]) C dX7_solve_86 rfl (by decide) rfl ?_
      refine q_iinc 4 (v := (l4 + (1 : Int32))) (lv' := [(4, .int (l4 + (1 : Int32))), (3, .int n34), (0, .ref l0), (1, .ref l1), (2, .ref l2)]) C dX7_solve_87 rfl rfl (by decide) rfl ?_
      refine q_goto (tgt := 57) C dX7_solve_90 (by decide) ?_
      exact q_sub (lv' := [(0, .ref l0), (1, .ref l1), (2, .ref l2), (3, .int n34), (4, .int (l4 + (1 : Int32)))]) [2, 3, 4, 1, 0] rfl (kc (n34, (l4 + (1 : Int32)), M32) (someI h))
theorem w_X7_solve_l57 {X : CX} {r : Mem} (C : CK X cX7_solve 5 RX7 9 192) (hRO : RO X.2.2.1 X.1.2.2.2.2.1 X.1.2.2.2.2.1.heap) (hl : X.1.2.1.stackTraces = false) (l0 : Nat) (l1 : Nat) (l2 : Nat) (l3 : Int32) (l4 : Int32) (M : Mem) (h : loop (fun s => F_X7_solve_s57 l0 l1 l2 s.1 s.2.1 s.2.2) (l3, l4, M) = some r) (kx : ∀ e' : Mem, r = e' → wq X 5 93 [] [] e') : wq X 5 57 [(0, .ref l0), (1, .ref l1), (2, .ref l2), (3, .int l3), (4, .int l4)] [] M :=
  loop_ind (P := fun s => wq X 5 57 [(0, .ref l0), (1, .ref l1), (2, .ref l2), (3, .int s.1), (4, .int s.2.1)] [] s.2.2) h (fun s y hy kc kr => w_X7_solve_s57 C hRO hl l0 l1 l2 s.1 s.2.1 s.2.2 hy kc (fun e' he => kx e' (kr _ he).symm))
set_option maxRecDepth 100000 in
set_option maxHeartbeats 4000000 in
theorem w_X7_solve {X : CX} {y : Mem} (C : CK X cX7_solve 5 RX7 9 192) (hRO : RO X.2.2.1 X.1.2.2.2.2.1 X.1.2.2.2.2.1.heap) (hl : X.1.2.1.stackTraces = false) (l0 : Nat) (l1 : Nat) (l2 : Nat) (M : Mem) (h : F_X7_solve l0 l1 l2 M = some y) (kf : FIN X none (rs_mV y) (ms_mV y)) : wq X 5 0 [(0, .ref l0), (1, .ref l1), (2, .ref l2)] [] M := by
  unfold F_X7_solve at h
  refine q_aload_n 0 C dX7_solve_0 rfl ?_
  obtain ⟨v1, e2, h⟩ := bindE h
  refine q_getP C fl_RX7_9 rfl e2 dX7_solve_1 ?_
  refine q_iconst (v := (-1 : Int32)) C dX7_solve_4 (by decide) ?_
  obtain ⟨M4, e3, h⟩ := bindE h
  refine q_callS (v := none) [.ref v1, .int (-1 : Int32)] C hRO lk_RX7_21 sk_J7_fill_53178 rfl rfl (Nat.le_of_ble_eq_true rfl) (by decide) (by decide) dX7_solve_5 (k_J7_fill_53178 X.1.2.1 hl X.2.2.1 v1 (-1 : Int32) M _ e3) ?_
  refine q_aload_n 0 C dX7_solve_8 rfl ?_
  obtain ⟨v6, e7, h⟩ := bindE h
  refine q_getP C fl_RX7_15 rfl e7 dX7_solve_9 ?_
  refine q_iconst (v := (0 : Int32)) C dX7_solve_12 (by decide) ?_
  obtain ⟨M9, e8, h⟩ := bindE h
  refine q_callS (v := none) [.ref v6, .int (0 : Int32)] C hRO lk_RX7_21 sk_J7_fill_53178 rfl rfl (Nat.le_of_ble_eq_true rfl) (by decide) (by decide) dX7_solve_13 (k_J7_fill_53178 X.1.2.1 hl X.2.2.1 v6 (0 : Int32) M4 _ e8) ?_
  refine q_iconst (v := (0 : Int32)) C dX7_solve_16 (by decide) ?_
  refine q_istore_n (i := 3) (lv' := [(3, .int (0 : Int32)), (0, .ref l0), (1, .ref l1), (2, .ref l2)]) C dX7_solve_17 rfl (by decide) rfl ?_
  refine q_iconst (v := (0 : Int32)) C dX7_solve_18 (by decide) ?_
  refine q_istore (i := 4) (lv' := [(4, .int (0 : Int32)), (3, .int (0 : Int32)), (0, .ref l0), (1, .ref l1), (2, .ref l2)]) C dX7_solve_19 (by decide) rfl ?_
  obtain ⟨x23, e22, h⟩ := bindE h
  refine q_sub (lv' := [(0, .ref l0), (1, .ref l1), (2, .ref l2), (3, .int (0 : Int32)), (4, .int (0 : Int32))]) [2, 3, 4, 1, 0] rfl (w_X7_solve_l21 C hRO hl l0 l1 l2 M9 (0 : Int32) (0 : Int32) e22 (fun r21 he => ?_))
  subst he
  show wq X 5 54 [(0, .ref l0), (1, .ref l1), (2, .ref l2), (3, .int x23)] [] M9
  refine q_iconst (v := (0 : Int32)) C dX7_solve_54 (by decide) ?_
  refine q_istore (i := 4) (lv' := [(4, .int (0 : Int32)), (0, .ref l0), (1, .ref l1), (2, .ref l2), (3, .int x23)]) C dX7_solve_55 (by decide) rfl ?_
  obtain ⟨M38, e37, h⟩ := bindE h
  refine q_sub (lv' := [(0, .ref l0), (1, .ref l1), (2, .ref l2), (3, .int x23), (4, .int (0 : Int32))]) [1, 2, 3, 4, 0] rfl (w_X7_solve_l57 C hRO hl l0 l1 l2 x23 (0 : Int32) M9 e37 (fun r36 he => ?_))
  subst he
  show wq X 5 93 [] [] M38
  cases h
  exact q_vret C kf dX7_solve_93
theorem k_X7_solve (l : Launch) (hl : l.stackTraces = false) (G : GG) (l0 : Nat) (l1 : Nat) (l2 : Nat) (M : Mem) (x : Mem) (h : F_X7_solve l0 l1 l2 M = some x) : Ct l G yX7_solve (.code yX7_solve cX7_solve 5 none) 9 192 [.ref l0, .ref l1, .ref l2] M (rs_mV x) (ms_mV x) := by
  refine Ct_of (by decide +kernel) (Nat.le_of_ble_eq_true rfl) fun X e1 e2 e3 C FN hnm => ?_
  subst e1; subst e2
  show wq X 5 0 [(0, .ref l0), (1, .ref l1), (2, .ref l2)] [] M
  exact w_X7_solve C FN.2.2.2 hl l0 l1 l2 M h FN
/-! X5_add -/
set_option maxRecDepth 100000 in
set_option maxHeartbeats 4000000 in
theorem w_X5_add {X : CX} {y : Mem} (C : CK X cX5_add 4 RX5 7 140) (hRO : RO X.2.2.1 X.1.2.2.2.2.1 X.1.2.2.2.2.1.heap) (hl : X.1.2.1.stackTraces = false) (l0 : Nat) (l1 : Int32) (l2 : Int32) (l3 : Int32) (M : Mem) (h : F_X5_add l0 l1 l2 l3 M = some y) (kf : FIN X none (rs_mV y) (ms_mV y)) : wq X 4 0 [(0, .ref l0), (1, .int l1), (2, .int l2), (3, .int l3)] [] M := by
  unfold F_X5_add at h
  refine q_aload_n 0 C dX5_add_0 rfl ?_
  obtain ⟨v1, e2, h⟩ := bindE h
  refine q_getI C fl_RX5_21 rfl e2 dX5_add_1 ?_
  refine q_bipush (v := (8 : Int32)) C dX5_add_4 (by decide) ?_
  refine q_icmp_ge (tgt := 49) C dX5_add_6 (by decide) (fun c3 => ?_) (fun c3 => ?_)
  · have h := ifT c3 h
    cases h
    exact q_vret C kf dX5_add_49
  · have h := ifF c3 h
    refine q_aload_n 0 C dX5_add_9 rfl ?_
    obtain ⟨v4, e5, h⟩ := bindE h
    refine q_getP C fl_RX5_9 rfl e5 dX5_add_10 ?_
    refine q_aload_n 0 C dX5_add_13 rfl ?_
    obtain ⟨v6, e7, h⟩ := bindE h
    refine q_getI C fl_RX5_21 rfl e7 dX5_add_14 ?_
    refine q_iload_n 1 C dX5_add_17 rfl ?_
    obtain ⟨M8, e9, h⟩ := bindE h
    refine q_iastore C e9 dX5_add_18 ?_
    refine q_aload_n 0 C dX5_add_19 rfl ?_
    obtain ⟨v10, e11, h⟩ := bindE h
    refine q_getP C fl_RX5_15 rfl e11 dX5_add_20 ?_
    refine q_aload_n 0 C dX5_add_23 rfl ?_
    obtain ⟨v12, e13, h⟩ := bindE h
    refine q_getI C fl_RX5_21 rfl e13 dX5_add_24 ?_
    refine q_iload_n 2 C dX5_add_27 rfl ?_
    obtain ⟨M14, e15, h⟩ := bindE h
    refine q_iastore C e15 dX5_add_28 ?_
    refine q_aload_n 0 C dX5_add_29 rfl ?_
    obtain ⟨v16, e17, h⟩ := bindE h
    refine q_getP C fl_RX5_18 rfl e17 dX5_add_30 ?_
    refine q_aload_n 0 C dX5_add_33 rfl ?_
    obtain ⟨v18, e19, h⟩ := bindE h
    refine q_getI C fl_RX5_21 rfl e19 dX5_add_34 ?_
    refine q_iload_n 3 C dX5_add_37 rfl ?_
    obtain ⟨M20, e21, h⟩ := bindE h
    refine q_iastore C e21 dX5_add_38 ?_
    refine q_aload_n 0 C dX5_add_39 rfl ?_
    refine q_dup C dX5_add_40 rfl ?_
    obtain ⟨v22, e23, h⟩ := bindE h
    refine q_getI C fl_RX5_21 rfl e23 dX5_add_41 ?_
    refine q_iconst (v := (1 : Int32)) C dX5_add_44 (by decide) ?_
    refine q_iadd C dX5_add_45 ?_
    obtain ⟨M24, e25, h⟩ := bindE h
    refine q_putI C fp_RX5_21 rfl e25 dX5_add_46 ?_
    cases h
    exact q_vret C kf dX5_add_49
theorem k_X5_add (l : Launch) (hl : l.stackTraces = false) (G : GG) (l0 : Nat) (l1 : Int32) (l2 : Int32) (l3 : Int32) (M : Mem) (x : Mem) (h : F_X5_add l0 l1 l2 l3 M = some x) : Ct l G yX5_add (.code yX5_add cX5_add 4 none) 7 140 [.ref l0, .int l1, .int l2, .int l3] M (rs_mV x) (ms_mV x) := by
  refine Ct_of (by decide +kernel) (Nat.le_of_ble_eq_true rfl) fun X e1 e2 e3 C FN hnm => ?_
  subst e1; subst e2
  show wq X 4 0 [(0, .ref l0), (1, .int l1), (2, .int l2), (3, .int l3)] [] M
  exact w_X5_add C FN.2.2.2 hl l0 l1 l2 l3 M h FN
/-! X0_clear -/
set_option maxRecDepth 100000 in
set_option maxHeartbeats 4000000 in
theorem w_X0_clear {X : CX} {y : Mem} (C : CK X cX0_clear 1 RX0 7 140) (hRO : RO X.2.2.1 X.1.2.2.2.2.1 X.1.2.2.2.2.1.heap) (hl : X.1.2.1.stackTraces = false) (l0 : Nat) (M : Mem) (h : F_X0_clear l0 M = some y) (kf : FIN X none (rs_mV y) (ms_mV y)) : wq X 1 0 [(0, .ref l0)] [] M := by
  unfold F_X0_clear at h
  refine q_aload_n 0 C dX0_clear_0 rfl ?_
  refine q_iconst (v := (0 : Int32)) C dX0_clear_1 (by decide) ?_
  obtain ⟨M1, e2, h⟩ := bindE h
  refine q_putI C fp_RX0_17 rfl e2 dX0_clear_2 ?_
  refine q_aload_n 0 C dX0_clear_5 rfl ?_
  refine q_iconst (v := (0 : Int32)) C dX0_clear_6 (by decide) ?_
  obtain ⟨M3, e4, h⟩ := bindE h
  refine q_putI C fp_RX0_21 rfl e4 dX0_clear_7 ?_
  cases h
  exact q_vret C kf dX0_clear_10
theorem k_X0_clear (l : Launch) (hl : l.stackTraces = false) (G : GG) (l0 : Nat) (M : Mem) (x : Mem) (h : F_X0_clear l0 M = some x) : Ct l G yX0_clear (.code yX0_clear cX0_clear 1 none) 7 140 [.ref l0] M (rs_mV x) (ms_mV x) := by
  refine Ct_of (by decide +kernel) (Nat.le_of_ble_eq_true rfl) fun X e1 e2 e3 C FN hnm => ?_
  subst e1; subst e2
  show wq X 1 0 [(0, .ref l0)] [] M
  exact w_X0_clear C FN.2.2.2 hl l0 M h FN
/-! X2_begin -/
set_option maxRecDepth 100000 in
set_option maxHeartbeats 4000000 in
theorem w_X2_begin_s79 {X : CX} {y : (Int32 × Mem) ⊕ (Mem)} (C : CK X cX2_begin 3 RX2 8 163) (hRO : RO X.2.2.1 X.1.2.2.2.2.1 X.1.2.2.2.2.1.heap) (hl : X.1.2.1.stackTraces = false) (l0 : Nat) (l1 : Nat) (l2 : Int32) (M : Mem) (h : F_X2_begin_s79 l0 l1 l2 M = some y) (kc : ∀ s' : Int32 × Mem, y = .inl s' → wq X 3 79 [(0, .ref l0), (1, .ref l1), (2, .int (s'.1))] [] s'.2) (kx : ∀ e' : Mem, y = (.inr e') → wq X 3 114 [] [] e') : wq X 3 79 [(0, .ref l0), (1, .ref l1), (2, .int l2)] [] M := by
  unfold F_X2_begin_s79 at h
  refine q_iload_n 2 C dX2_begin_79 rfl ?_
  refine q_aload_n 0 C dX2_begin_80 rfl ?_
  obtain ⟨v39, e40, h⟩ := bindE h
  refine q_getI C fl_RX2_15 rfl e40 dX2_begin_81 ?_
  refine q_icmp_ge (tgt := 114) C dX2_begin_84 (by decide) (fun c41 => ?_) (fun c41 => ?_)
  · have h := ifT c41 h
    exact q_sub (lv' := []) [] rfl (kx M (someI h))
  · have h := ifF c41 h
    refine q_aload_n 0 C dX2_begin_87 rfl ?_
    obtain ⟨v42, e43, h⟩ := bindE h
    refine q_getP C fl_RX2_37 rfl e43 dX2_begin_88 ?_
    refine q_iload_n 2 C dX2_begin_91 rfl ?_
    obtain ⟨v44, e45, h⟩ := bindE h
    refine q_iaload C e45 dX2_begin_92 ?_
    refine q_iconst (v := (-1 : Int32)) C dX2_begin_93 (by decide) ?_
    refine q_icmp_eq (tgt := 108) C dX2_begin_94 (by decide) (fun c46 => ?_) (fun c46 => ?_)
    · have h := ifT c46 h
      refine q_iinc 2 (v := (l2 + (1 : Int32))) (lv' := [(2, .int (l2 + (1 : Int32))), (0, .ref l0), (1, .ref l1)]) C dX2_begin_108 rfl rfl (by decide) rfl ?_
      refine q_goto (tgt := 79) C dX2_begin_111 (by decide) ?_
      exact q_sub (lv' := [(0, .ref l0), (1, .ref l1), (2, .int (l2 + (1 : Int32)))]) [1, 2, 0] rfl (kc ((l2 + (1 : Int32)), M) (someI h))
    · have h := ifF c46 h
      refine q_aload_n 1 C dX2_begin_97 rfl ?_
      refine q_iload_n 2 C dX2_begin_98 rfl ?_
      refine q_aload_n 0 C dX2_begin_99 rfl ?_
      obtain ⟨v47, e48, h⟩ := bindE h
      refine q_getP C fl_RX2_37 rfl e48 dX2_begin_100 ?_
      refine q_iload_n 2 C dX2_begin_103 rfl ?_
      obtain ⟨v49, e50, h⟩ := bindE h
      refine q_iaload C e50 dX2_begin_104 ?_
      obtain ⟨e51, h⟩ := ckOE h
      obtain ⟨M53, e52, h⟩ := bindE h
      refine q_callV (v := none) [.int l2, .int v49] C hRO lk_RX2_96 vk_X6_settle e51 rfl rfl rfl (Nat.le_of_ble_eq_true rfl) (by decide) (by decide) dX2_begin_105 (k_X6_settle X.1.2.1 hl X.2.2.1 l1 l2 v49 M _ e52) ?_
      refine q_iinc 2 (v := (l2 + (1 : Int32))) (lv' := [(2, .int (l2 + (1 : Int32))), (0, .ref l0), (1, .ref l1)]) C dX2_begin_108 rfl rfl (by decide) rfl ?_
      refine q_goto (tgt := 79) C dX2_begin_111 (by decide) ?_
      exact q_sub (lv' := [(0, .ref l0), (1, .ref l1), (2, .int (l2 + (1 : Int32)))]) [1, 2, 0] rfl (kc ((l2 + (1 : Int32)), M53) (someI h))
theorem w_X2_begin_l79 {X : CX} {r : Mem} (C : CK X cX2_begin 3 RX2 8 163) (hRO : RO X.2.2.1 X.1.2.2.2.2.1 X.1.2.2.2.2.1.heap) (hl : X.1.2.1.stackTraces = false) (l0 : Nat) (l1 : Nat) (l2 : Int32) (M : Mem) (h : loop (fun s => F_X2_begin_s79 l0 l1 s.1 s.2) (l2, M) = some r) (kx : ∀ e' : Mem, r = e' → wq X 3 114 [] [] e') : wq X 3 79 [(0, .ref l0), (1, .ref l1), (2, .int l2)] [] M :=
  loop_ind (P := fun s => wq X 3 79 [(0, .ref l0), (1, .ref l1), (2, .int s.1)] [] s.2) h (fun s y hy kc kr => w_X2_begin_s79 C hRO hl l0 l1 s.1 s.2 hy kc (fun e' he => kx e' (kr _ he).symm))
set_option maxRecDepth 100000 in
set_option maxHeartbeats 4000000 in
theorem w_X2_begin {X : CX} {y : Mem} (C : CK X cX2_begin 3 RX2 8 163) (hRO : RO X.2.2.1 X.1.2.2.2.2.1 X.1.2.2.2.2.1.heap) (hl : X.1.2.1.stackTraces = false) (l0 : Nat) (l1 : Nat) (M : Mem) (h : F_X2_begin l0 l1 M = some y) (kf : FIN X none (rs_mV y) (ms_mV y)) : wq X 3 0 [(0, .ref l0), (1, .ref l1)] [] M := by
  unfold F_X2_begin at h
  refine q_aload_n 1 C dX2_begin_0 rfl ?_
  refine q_iconst (v := (0 : Int32)) C dX2_begin_1 (by decide) ?_
  obtain ⟨M1, e2, h⟩ := bindE h
  refine q_putI C fp_RX2_58 rfl e2 dX2_begin_2 ?_
  refine q_aload_n 1 C dX2_begin_5 rfl ?_
  refine q_iconst (v := (0 : Int32)) C dX2_begin_6 (by decide) ?_
  obtain ⟨M3, e4, h⟩ := bindE h
  refine q_putZ C fp_RX2_63 rfl e4 dX2_begin_7 ?_
  refine q_aload_n 1 C dX2_begin_10 rfl ?_
  refine q_iconst (v := (0 : Int32)) C dX2_begin_11 (by decide) ?_
  obtain ⟨M5, e6, h⟩ := bindE h
  refine q_putI C fp_RX2_67 rfl e6 dX2_begin_12 ?_
  refine q_aload_n 1 C dX2_begin_15 rfl ?_
  obtain ⟨v7, e8, h⟩ := bindE h
  refine q_getP C fl_RX2_70 rfl e8 dX2_begin_16 ?_
  refine q_iconst (v := (0 : Int32)) C dX2_begin_19 (by decide) ?_
  obtain ⟨M10, e9, h⟩ := bindE h
  refine q_callS (v := none) [.ref v7, .int (0 : Int32)] C hRO lk_RX2_73 sk_J7_fill_53178 rfl rfl (Nat.le_of_ble_eq_true rfl) (by decide) (by decide) dX2_begin_20 (k_J7_fill_53178 X.1.2.1 hl X.2.2.1 v7 (0 : Int32) M5 _ e9) ?_
  refine q_aload_n 1 C dX2_begin_23 rfl ?_
  obtain ⟨v12, e13, h⟩ := bindE h
  refine q_getP C fl_RX2_79 rfl e13 dX2_begin_24 ?_
  refine q_iconst (v := (0 : Int32)) C dX2_begin_27 (by decide) ?_
  obtain ⟨M15, e14, h⟩ := bindE h
  refine q_callS (v := none) [.ref v12, .int (0 : Int32)] C hRO lk_RX2_73 sk_J7_fill_53178 rfl rfl (Nat.le_of_ble_eq_true rfl) (by decide) (by decide) dX2_begin_28 (k_J7_fill_53178 X.1.2.1 hl X.2.2.1 v12 (0 : Int32) M10 _ e14) ?_
  refine q_aload_n 1 C dX2_begin_31 rfl ?_
  obtain ⟨v17, e18, h⟩ := bindE h
  refine q_getP C fl_RX2_82 rfl e18 dX2_begin_32 ?_
  refine q_iconst (v := (-1 : Int32)) C dX2_begin_35 (by decide) ?_
  obtain ⟨M20, e19, h⟩ := bindE h
  refine q_callS (v := none) [.ref v17, .int (-1 : Int32)] C hRO lk_RX2_73 sk_J7_fill_53178 rfl rfl (Nat.le_of_ble_eq_true rfl) (by decide) (by decide) dX2_begin_36 (k_J7_fill_53178 X.1.2.1 hl X.2.2.1 v17 (-1 : Int32) M15 _ e19) ?_
  refine q_aload_n 1 C dX2_begin_39 rfl ?_
  obtain ⟨v22, e23, h⟩ := bindE h
  refine q_getP C fl_RX2_85 rfl e23 dX2_begin_40 ?_
  refine q_iconst (v := (-1 : Int32)) C dX2_begin_43 (by decide) ?_
  obtain ⟨M25, e24, h⟩ := bindE h
  refine q_callS (v := none) [.ref v22, .int (-1 : Int32)] C hRO lk_RX2_73 sk_J7_fill_53178 rfl rfl (Nat.le_of_ble_eq_true rfl) (by decide) (by decide) dX2_begin_44 (k_J7_fill_53178 X.1.2.1 hl X.2.2.1 v22 (-1 : Int32) M20 _ e24) ?_
  refine q_aload_n 0 C dX2_begin_47 rfl ?_
  obtain ⟨v27, e28, h⟩ := bindE h
  refine q_getP C fl_RX2_21 rfl e28 dX2_begin_48 ?_
  refine q_iconst (v := (0 : Int32)) C dX2_begin_51 (by decide) ?_
  refine q_aload_n 1 C dX2_begin_52 rfl ?_
  obtain ⟨v29, e30, h⟩ := bindE h
  refine q_getP C fl_RX2_88 rfl e30 dX2_begin_53 ?_
  refine q_iconst (v := (0 : Int32)) C dX2_begin_56 (by decide) ?_
  refine q_bipush (v := (8 : Int32)) C dX2_begin_57 (by decide) ?_
  obtain ⟨M31, e32, h⟩ := bindE h
  refine q_copy C ml_RX2_89 ac_1 ac_2 ac_3 (by decide) (Nat.le_of_ble_eq_true rfl) e32 dX2_begin_59 ?_
  refine q_aload_n 0 C dX2_begin_62 rfl ?_
  obtain ⟨v33, e34, h⟩ := bindE h
  refine q_getP C fl_RX2_31 rfl e34 dX2_begin_63 ?_
  refine q_iconst (v := (0 : Int32)) C dX2_begin_66 (by decide) ?_
  refine q_aload_n 1 C dX2_begin_67 rfl ?_
  obtain ⟨v35, e36, h⟩ := bindE h
  refine q_getP C fl_RX2_95 rfl e36 dX2_begin_68 ?_
  refine q_iconst (v := (0 : Int32)) C dX2_begin_71 (by decide) ?_
  refine q_bipush (v := (8 : Int32)) C dX2_begin_72 (by decide) ?_
  obtain ⟨M37, e38, h⟩ := bindE h
  refine q_copy C ml_RX2_89 ac_1 ac_2 ac_3 (by decide) (Nat.le_of_ble_eq_true rfl) e38 dX2_begin_74 ?_
  refine q_iconst (v := (0 : Int32)) C dX2_begin_77 (by decide) ?_
  refine q_istore_n (i := 2) (lv' := [(2, .int (0 : Int32)), (0, .ref l0), (1, .ref l1)]) C dX2_begin_78 rfl (by decide) rfl ?_
  obtain ⟨M57, e56, h⟩ := bindE h
  refine q_sub (lv' := [(0, .ref l0), (1, .ref l1), (2, .int (0 : Int32))]) [1, 2, 0] rfl (w_X2_begin_l79 C hRO hl l0 l1 (0 : Int32) M37 e56 (fun r55 he => ?_))
  subst he
  show wq X 3 114 [] [] M57
  cases h
  exact q_vret C kf dX2_begin_114
theorem k_X2_begin (l : Launch) (hl : l.stackTraces = false) (G : GG) (l0 : Nat) (l1 : Nat) (M : Mem) (x : Mem) (h : F_X2_begin l0 l1 M = some x) : Ct l G yX2_begin (.code yX2_begin cX2_begin 3 none) 8 163 [.ref l0, .ref l1] M (rs_mV x) (ms_mV x) := by
  refine Ct_of (by decide +kernel) (Nat.le_of_ble_eq_true rfl) fun X e1 e2 e3 C FN hnm => ?_
  subst e1; subst e2
  show wq X 3 0 [(0, .ref l0), (1, .ref l1)] [] M
  exact w_X2_begin C FN.2.2.2 hl l0 l1 M h FN
/-! X2_clear -/
set_option maxRecDepth 100000 in
set_option maxHeartbeats 4000000 in
theorem w_X2_clear {X : CX} {y : Mem} (C : CK X cX2_clear 1 RX2 7 140) (hRO : RO X.2.2.1 X.1.2.2.2.2.1 X.1.2.2.2.2.1.heap) (hl : X.1.2.1.stackTraces = false) (l0 : Nat) (M : Mem) (h : F_X2_clear l0 M = some y) (kf : FIN X none (rs_mV y) (ms_mV y)) : wq X 1 0 [(0, .ref l0)] [] M := by
  unfold F_X2_clear at h
  refine q_aload_n 0 C dX2_clear_0 rfl ?_
  refine q_iconst (v := (0 : Int32)) C dX2_clear_1 (by decide) ?_
  obtain ⟨M1, e2, h⟩ := bindE h
  refine q_putI C fp_RX2_9 rfl e2 dX2_clear_2 ?_
  refine q_aload_n 0 C dX2_clear_5 rfl ?_
  refine q_iconst (v := (0 : Int32)) C dX2_clear_6 (by decide) ?_
  obtain ⟨M3, e4, h⟩ := bindE h
  refine q_putI C fp_RX2_15 rfl e4 dX2_clear_7 ?_
  refine q_aload_n 0 C dX2_clear_10 rfl ?_
  refine q_iconst (v := (0 : Int32)) C dX2_clear_11 (by decide) ?_
  obtain ⟨M5, e6, h⟩ := bindE h
  refine q_putI C fp_RX2_18 rfl e6 dX2_clear_12 ?_
  refine q_aload_n 0 C dX2_clear_15 rfl ?_
  refine q_null C dX2_clear_16 ?_
  obtain ⟨M7, e8, h⟩ := bindE h
  refine q_putN rfl C fp_RX2_43 rfl e8 dX2_clear_17 ?_
  refine q_aload_n 0 C dX2_clear_20 rfl ?_
  refine q_null C dX2_clear_21 ?_
  obtain ⟨M9, e10, h⟩ := bindE h
  refine q_putN rfl C fp_RX2_47 rfl e10 dX2_clear_22 ?_
  cases h
  exact q_vret C kf dX2_clear_25
theorem k_X2_clear (l : Launch) (hl : l.stackTraces = false) (G : GG) (l0 : Nat) (M : Mem) (x : Mem) (h : F_X2_clear l0 M = some x) : Ct l G yX2_clear (.code yX2_clear cX2_clear 1 none) 7 140 [.ref l0] M (rs_mV x) (ms_mV x) := by
  refine Ct_of (by decide +kernel) (Nat.le_of_ble_eq_true rfl) fun X e1 e2 e3 C FN hnm => ?_
  subst e1; subst e2
  show wq X 1 0 [(0, .ref l0)] [] M
  exact w_X2_clear C FN.2.2.2 hl l0 M h FN
/-! X2_hasSomebodyAtFirst -/
set_option maxRecDepth 100000 in
set_option maxHeartbeats 4000000 in
theorem w_X2_hasSomebodyAtFirst_s2 {X : CX} {y : (Int32) ⊕ ((Unit) ⊕ (Int32))} (C : CK X cX2_hasSomebodyAtFirst 3 RX2 7 140) (hRO : RO X.2.2.1 X.1.2.2.2.2.1 X.1.2.2.2.2.1.heap) (hl : X.1.2.1.stackTraces = false) (l0 : Nat) (l1 : Int32) (M : Mem) (l2 : Int32) (h : F_X2_hasSomebodyAtFirst_s2 l0 l1 M l2 = some y) (kc : ∀ s' : Int32, y = .inl s' → wq X 3 2 [(0, .ref l0), (1, .int l1), (2, .int (s'))] [] M) (kx : ∀ e' : Unit, y = (.inr (.inl e')) → wq X 3 28 [] [] M) (kf : ∀ f' : Int32, y = (.inr (.inr f')) → FIN X (some .boolean) (rs_pI f') M) : wq X 3 2 [(0, .ref l0), (1, .int l1), (2, .int l2)] [] M := by
  unfold F_X2_hasSomebodyAtFirst_s2 at h
  refine q_iload_n 2 C dX2_hasSomebodyAtFirst_2 rfl ?_
  refine q_aload_n 0 C dX2_hasSomebodyAtFirst_3 rfl ?_
  obtain ⟨v1, e2, h⟩ := bindE h
  refine q_getI C fl_RX2_15 rfl e2 dX2_hasSomebodyAtFirst_4 ?_
  refine q_icmp_ge (tgt := 28) C dX2_hasSomebodyAtFirst_7 (by decide) (fun c3 => ?_) (fun c3 => ?_)
  · have h := ifT c3 h
    exact q_sub (lv' := []) [] rfl (kx () (someI h))
  · have h := ifF c3 h
    refine q_aload_n 0 C dX2_hasSomebodyAtFirst_10 rfl ?_
    obtain ⟨v4, e5, h⟩ := bindE h
    refine q_getP C fl_RX2_37 rfl e5 dX2_hasSomebodyAtFirst_11 ?_
    refine q_iload_n 2 C dX2_hasSomebodyAtFirst_14 rfl ?_
    obtain ⟨v6, e7, h⟩ := bindE h
    refine q_iaload C e7 dX2_hasSomebodyAtFirst_15 ?_
    refine q_iload_n 1 C dX2_hasSomebodyAtFirst_16 rfl ?_
    refine q_icmp_ne (tgt := 22) C dX2_hasSomebodyAtFirst_17 (by decide) (fun c8 => ?_) (fun c8 => ?_)
    · have h := ifF c8 h
      refine q_iinc 2 (v := (l2 + (1 : Int32))) (lv' := [(2, .int (l2 + (1 : Int32))), (0, .ref l0), (1, .int l1)]) C dX2_hasSomebodyAtFirst_22 rfl rfl (by decide) rfl ?_
      refine q_goto (tgt := 2) C dX2_hasSomebodyAtFirst_25 (by decide) ?_
      exact q_sub (lv' := [(0, .ref l0), (1, .int l1), (2, .int (l2 + (1 : Int32)))]) [1, 2, 0] rfl (kc (l2 + (1 : Int32)) (someI h))
    · have h := ifT c8 h
      refine q_iconst (v := (1 : Int32)) C dX2_hasSomebodyAtFirst_20 (by decide) ?_
      exact q_zretE (w := (1 : Int32)) (by decide) C (kf _ (someI h)) dX2_hasSomebodyAtFirst_21
theorem w_X2_hasSomebodyAtFirst_l2 {X : CX} {r : (Unit) ⊕ (Int32)} (C : CK X cX2_hasSomebodyAtFirst 3 RX2 7 140) (hRO : RO X.2.2.1 X.1.2.2.2.2.1 X.1.2.2.2.2.1.heap) (hl : X.1.2.1.stackTraces = false) (l0 : Nat) (l1 : Int32) (M : Mem) (l2 : Int32) (h : loop (fun s => F_X2_hasSomebodyAtFirst_s2 l0 l1 M s) l2 = some r) (kx : ∀ e' : Unit, r = .inl e' → wq X 3 28 [] [] M) (kf : ∀ f' : Int32, r = .inr f' → FIN X (some .boolean) (rs_pI f') M) : wq X 3 2 [(0, .ref l0), (1, .int l1), (2, .int l2)] [] M :=
  loop_ind (P := fun s => wq X 3 2 [(0, .ref l0), (1, .int l1), (2, .int s)] [] M) h (fun s y hy kc kr => w_X2_hasSomebodyAtFirst_s2 C hRO hl l0 l1 M s hy kc (fun e' he => kx e' (kr _ he).symm) (fun f' he => kf f' (kr _ he).symm))
set_option maxRecDepth 100000 in
set_option maxHeartbeats 4000000 in
theorem w_X2_hasSomebodyAtFirst {X : CX} {y : Int32} (C : CK X cX2_hasSomebodyAtFirst 3 RX2 7 140) (hRO : RO X.2.2.1 X.1.2.2.2.2.1 X.1.2.2.2.2.1.heap) (hl : X.1.2.1.stackTraces = false) (l0 : Nat) (l1 : Int32) (M : Mem) (h : F_X2_hasSomebodyAtFirst l0 l1 M = some y) (kf : FIN X (some .boolean) (rs_pI y) M) : wq X 3 0 [(0, .ref l0), (1, .int l1)] [] M := by
  unfold F_X2_hasSomebodyAtFirst at h
  refine q_iconst (v := (0 : Int32)) C dX2_hasSomebodyAtFirst_0 (by decide) ?_
  refine q_istore_n (i := 2) (lv' := [(2, .int (0 : Int32)), (0, .ref l0), (1, .int l1)]) C dX2_hasSomebodyAtFirst_1 rfl (by decide) rfl ?_
  obtain ⟨r9, e10, h⟩ := bindE h
  refine q_sub (lv' := [(0, .ref l0), (1, .int l1), (2, .int (0 : Int32))]) [1, 2, 0] rfl (w_X2_hasSomebodyAtFirst_l2 C hRO hl l0 l1 M (0 : Int32) e10 (fun q11 he => ?_) (fun f12 he => ?_))
  · subst he
    have h := elimL h
    show wq X 3 28 [] [] M
    refine q_iconst (v := (0 : Int32)) C dX2_hasSomebodyAtFirst_28 (by decide) ?_
    cases h
    exact q_zretE (w := (0 : Int32)) (by decide) C kf dX2_hasSomebodyAtFirst_29
  · subst he
    have h := elimR h
    cases h
    exact kf
theorem k_X2_hasSomebodyAtFirst (l : Launch) (hl : l.stackTraces = false) (G : GG) (l0 : Nat) (l1 : Int32) (M : Mem) (x : Int32) (h : F_X2_hasSomebodyAtFirst l0 l1 M = some x) : Ct l G yX2_hasSomebodyAtFirst (.code yX2_hasSomebodyAtFirst cX2_hasSomebodyAtFirst 3 (some .boolean)) 7 140 [.ref l0, .int l1] M (rs_pI x) M := by
  refine Ct_of (by decide +kernel) (Nat.le_of_ble_eq_true rfl) fun X e1 e2 e3 C FN hnm => ?_
  subst e1; subst e2
  show wq X 3 0 [(0, .ref l0), (1, .int l1)] [] M
  exact w_X2_hasSomebodyAtFirst C FN.2.2.2 hl l0 l1 M h FN
/-! X4_init -/
set_option maxRecDepth 100000 in
set_option maxHeartbeats 4000000 in
theorem w_X4_init {X : CX} {y : Mem} (C : CK X cX4_init 2 RX4 7 140) (hRO : RO X.2.2.1 X.1.2.2.2.2.1 X.1.2.2.2.2.1.heap) (hl : X.1.2.1.stackTraces = false) (hnm : X.2.1.2.2.1.name = "<init>") (l0 : Nat) (l1 : Nat) (M : Mem) (h : F_X4_init l0 l1 M = some y) (kf : FIN X none (rs_mV y) (ms_mV y)) : wq X 2 0 [(0, .ref l0), (1, .ref l1)] [] M := by
  unfold F_X4_init at h
  refine q_aload_n 0 C dX4_init_0 rfl ?_
  refine q_objInit C ml_RX4_1 oi_1 oi_2 (by decide) (Nat.le_of_ble_eq_true rfl) dX4_init_1 ?_
  refine q_aload_n 0 C dX4_init_4 rfl ?_
  refine q_aload_n 1 C dX4_init_5 rfl ?_
  obtain ⟨M1, e2, h⟩ := bindE h
  refine q_putF hnm rfl rfl C fp_RX4_7 rfl e2 dX4_init_6 ?_
  cases h
  exact q_vret C kf dX4_init_9
theorem k_X4_init (l : Launch) (hl : l.stackTraces = false) (G : GG) (l0 : Nat) (l1 : Nat) (M : Mem) (x : Mem) (h : F_X4_init l0 l1 M = some x) : Ct l G yX4_init (.code yX4_init cX4_init 2 none) 7 140 [.ref l0, .ref l1] M (rs_mV x) (ms_mV x) := by
  refine Ct_of (by decide +kernel) (Nat.le_of_ble_eq_true rfl) fun X e1 e2 e3 C FN hnm => ?_
  subst e1; subst e2
  show wq X 2 0 [(0, .ref l0), (1, .ref l1)] [] M
  exact w_X4_init C FN.2.2.2 hl hnm l0 l1 M h FN
/-! X0_takeBack -/
set_option maxRecDepth 100000 in
set_option maxHeartbeats 4000000 in
theorem w_X0_takeBack {X : CX} {y : Int32 × Mem} (C : CK X cX0_takeBack 2 RX0 10 205) (hRO : RO X.2.2.1 X.1.2.2.2.2.1 X.1.2.2.2.2.1.heap) (hl : X.1.2.1.stackTraces = false) (l0 : Nat) (l1 : Nat) (M : Mem) (h : F_X0_takeBack l0 l1 M = some y) (kf : FIN X (some .boolean) (rs_mI y) (ms_mI y)) : wq X 2 0 [(0, .ref l0), (1, .ref l1)] [] M := by
  unfold F_X0_takeBack at h
  refine q_aload_n 0 C dX0_takeBack_0 rfl ?_
  obtain ⟨v1, e2, h⟩ := bindE h
  refine q_getI C fl_RX0_21 rfl e2 dX0_takeBack_1 ?_
  refine q_if_gt (tgt := 9) C dX0_takeBack_4 (by decide) (fun c3 => ?_) (fun c3 => ?_)
  · have h := ifT c3 h
    refine q_aload_n 0 C dX0_takeBack_9 rfl ?_
    refine q_dup C dX0_takeBack_10 rfl ?_
    obtain ⟨v4, e5, h⟩ := bindE h
    refine q_getI C fl_RX0_21 rfl e5 dX0_takeBack_11 ?_
    refine q_iconst (v := (1 : Int32)) C dX0_takeBack_14 (by decide) ?_
    refine q_isub C dX0_takeBack_15 ?_
    obtain ⟨M6, e7, h⟩ := bindE h
    refine q_putI C fp_RX0_21 rfl e7 dX0_takeBack_16 ?_
    refine q_aload_n 1 C dX0_takeBack_19 rfl ?_
    refine q_aload_n 0 C dX0_takeBack_20 rfl ?_
    refine q_aload_n 0 C dX0_takeBack_21 rfl ?_
    obtain ⟨v8, e9, h⟩ := bindE h
    refine q_getI C fl_RX0_17 rfl e9 dX0_takeBack_22 ?_
    refine q_aload_n 0 C dX0_takeBack_25 rfl ?_
    obtain ⟨v10, e11, h⟩ := bindE h
    refine q_getI C fl_RX0_21 rfl e11 dX0_takeBack_26 ?_
    refine q_iadd C dX0_takeBack_29 ?_
    refine q_bipush (v := (40 : Int32)) C dX0_takeBack_30 (by decide) ?_
    refine q_irem C (by decide) dX0_takeBack_32 ?_
    obtain ⟨e12, h⟩ := ckOE h
    obtain ⟨v15, M14, e13, h⟩ := bd2E h
    refine q_callV (v := some (.ref v15)) [.int ((v8 + v10) - (v8 + v10) / (40 : Int32) * (40 : Int32))] C hRO lk_RX0_24 vk_X0_row e12 rfl rfl rfl (Nat.le_of_ble_eq_true rfl) (by decide) (by decide) dX0_takeBack_33 (k_X0_row X.1.2.1 hl X.2.2.1 l0 ((v8 + v10) - (v8 + v10) / (40 : Int32) * (40 : Int32)) M6 _ e13) ?_
    obtain ⟨e16, h⟩ := ckOE h
    obtain ⟨M18, e17, h⟩ := bindE h
    refine q_callV (v := none) [.ref v15] C hRO lk_RX0_28 vk_X6_copy e16 rfl rfl rfl (Nat.le_of_ble_eq_true rfl) (by decide) (by decide) dX0_takeBack_36 (k_X6_copy X.1.2.1 hl X.2.2.1 l1 v15 M14 _ e17) ?_
    refine q_iconst (v := (1 : Int32)) C dX0_takeBack_39 (by decide) ?_
    cases h
    exact q_zretE (w := (1 : Int32)) (by decide) C kf dX0_takeBack_40
  · have h := ifF c3 h
    refine q_iconst (v := (0 : Int32)) C dX0_takeBack_7 (by decide) ?_
    cases h
    exact q_zretE (w := (0 : Int32)) (by decide) C kf dX0_takeBack_8
theorem k_X0_takeBack (l : Launch) (hl : l.stackTraces = false) (G : GG) (l0 : Nat) (l1 : Nat) (M : Mem) (x : Int32 × Mem) (h : F_X0_takeBack l0 l1 M = some x) : Ct l G yX0_takeBack (.code yX0_takeBack cX0_takeBack 2 (some .boolean)) 10 205 [.ref l0, .ref l1] M (rs_mI x) (ms_mI x) := by
  refine Ct_of (by decide +kernel) (Nat.le_of_ble_eq_true rfl) fun X e1 e2 e3 C FN hnm => ?_
  subst e1; subst e2
  show wq X 2 0 [(0, .ref l0), (1, .ref l1)] [] M
  exact w_X0_takeBack C FN.2.2.2 hl l0 l1 M h FN
