/-! X8_init -/
set_option maxRecDepth 100000 in
set_option maxHeartbeats 4000000 in
theorem w_X8_init {X : CX} {y : Mem} (C : CK X cX8_init 1 RX8 9 183) (hRO : RO X.2.2.1 X.1.2.2.2.2.1 X.1.2.2.2.2.1.heap) (hl : X.1.2.1.stackTraces = false) (hnm : X.2.1.2.2.1.name = "<init>") (l0 : Nat) (M : Mem) (h : F_X8_init l0 M = some y) (kf : FIN X none (rs_mV y) (ms_mV y)) : wq X 1 0 [(0, .ref l0)] [] M := by
  unfold F_X8_init at h
  refine q_aload_n 0 C dX8_init_0 rfl ?_
  refine q_objInit C ml_RX8_1 oi_1 oi_2 (by decide) (Nat.le_of_ble_eq_true rfl) dX8_init_1 ?_
  refine q_aload_n 0 C dX8_init_4 rfl ?_
  obtain ⟨M1, e2, h⟩ := bindE h
  refine q_new (ci := 3) C rfl cl_RX8_7 ib_3 in_3 e2 dX8_init_5 ?_
  refine q_dup C dX8_init_8 rfl ?_
  obtain ⟨M4, e3, h⟩ := bindE h
  refine q_callI [] C hRO rfl lk_RX8_9 ik_X3_init rfl rfl (Nat.le_of_ble_eq_true rfl) (by decide) (by decide) dX8_init_9 (k_X3_init X.1.2.1 hl X.2.2.1 M.1.length M1 _ e3) ?_
  obtain ⟨M6, e7, h⟩ := bindE h
  refine q_putF hnm rfl rfl C fp_RX8_10 rfl e7 dX8_init_12 ?_
  refine q_aload_n 0 C dX8_init_15 rfl ?_
  refine q_iconst (v := (-1 : Int32)) C dX8_init_16 (by decide) ?_
  obtain ⟨M8, e9, h⟩ := bindE h
  refine q_putI C fp_RX8_16 rfl e9 dX8_init_17 ?_
  refine q_aload_n 0 C dX8_init_20 rfl ?_
  obtain ⟨M10, e11, h⟩ := bindE h
  refine q_new (ci := 2) C rfl cl_RX8_20 ib_2 in_2 e11 dX8_init_21 ?_
  refine q_dup C dX8_init_24 rfl ?_
  obtain ⟨M13, e12, h⟩ := bindE h
  refine q_callI [] C hRO rfl lk_RX8_22 ik_X2_init rfl rfl (Nat.le_of_ble_eq_true rfl) (by decide) (by decide) dX8_init_25 (k_X2_init X.1.2.1 hl X.2.2.1 M8.1.length M10 _ e12) ?_
  obtain ⟨M15, e16, h⟩ := bindE h
  refine q_putP rfl C fp_RX8_23 rfl e16 dX8_init_28 ?_
  refine q_aload_n 0 C dX8_init_31 rfl ?_
  obtain ⟨M17, e18, h⟩ := bindE h
  refine q_new (ci := 2) C rfl cl_RX8_20 ib_2 in_2 e18 dX8_init_32 ?_
  refine q_dup C dX8_init_35 rfl ?_
  obtain ⟨M20, e19, h⟩ := bindE h
  refine q_callI [] C hRO rfl lk_RX8_22 ik_X2_init rfl rfl (Nat.le_of_ble_eq_true rfl) (by decide) (by decide) dX8_init_36 (k_X2_init X.1.2.1 hl X.2.2.1 M15.1.length M17 _ e19) ?_
  obtain ⟨M22, e23, h⟩ := bindE h
  refine q_putP rfl C fp_RX8_27 rfl e23 dX8_init_39 ?_
  refine q_aload_n 0 C dX8_init_42 rfl ?_
  obtain ⟨M24, e25, h⟩ := bindE h
  refine q_new (ci := 6) C rfl cl_RX8_30 ib_6 in_6 e25 dX8_init_43 ?_
  refine q_dup C dX8_init_46 rfl ?_
  obtain ⟨M27, e26, h⟩ := bindE h
  refine q_callI [] C hRO rfl lk_RX8_32 ik_X6_init rfl rfl (Nat.le_of_ble_eq_true rfl) (by decide) (by decide) dX8_init_47 (k_X6_init X.1.2.1 hl X.2.2.1 M22.1.length M24 _ e26) ?_
  obtain ⟨M29, e30, h⟩ := bindE h
  refine q_putF hnm rfl rfl C fp_RX8_33 rfl e30 dX8_init_50 ?_
  refine q_aload_n 0 C dX8_init_53 rfl ?_
  obtain ⟨M31, e32, h⟩ := bindE h
  refine q_new (ci := 6) C rfl cl_RX8_30 ib_6 in_6 e32 dX8_init_54 ?_
  refine q_dup C dX8_init_57 rfl ?_
  obtain ⟨M34, e33, h⟩ := bindE h
  refine q_callI [] C hRO rfl lk_RX8_32 ik_X6_init rfl rfl (Nat.le_of_ble_eq_true rfl) (by decide) (by decide) dX8_init_58 (k_X6_init X.1.2.1 hl X.2.2.1 M29.1.length M31 _ e33) ?_
  obtain ⟨M36, e37, h⟩ := bindE h
  refine q_putF hnm rfl rfl C fp_RX8_37 rfl e37 dX8_init_61 ?_
  refine q_aload_n 0 C dX8_init_64 rfl ?_
  obtain ⟨M38, e39, h⟩ := bindE h
  refine q_new (ci := 0) C rfl cl_RX8_40 ib_0 in_0 e39 dX8_init_65 ?_
  refine q_dup C dX8_init_68 rfl ?_
  obtain ⟨M41, e40, h⟩ := bindE h
  refine q_callI [] C hRO rfl lk_RX8_42 ik_X0_init rfl rfl (Nat.le_of_ble_eq_true rfl) (by decide) (by decide) dX8_init_69 (k_X0_init X.1.2.1 hl X.2.2.1 M36.1.length M38 _ e40) ?_
  obtain ⟨M43, e44, h⟩ := bindE h
  refine q_putF hnm rfl rfl C fp_RX8_43 rfl e44 dX8_init_72 ?_
  refine q_aload_n 0 C dX8_init_75 rfl ?_
  obtain ⟨M45, e46, h⟩ := bindE h
  refine q_new (ci := 5) C rfl cl_RX8_47 ib_5 in_5 e46 dX8_init_76 ?_
  refine q_dup C dX8_init_79 rfl ?_
  obtain ⟨M48, e47, h⟩ := bindE h
  refine q_callI [] C hRO rfl lk_RX8_49 ik_X5_init rfl rfl (Nat.le_of_ble_eq_true rfl) (by decide) (by decide) dX8_init_80 (k_X5_init X.1.2.1 hl X.2.2.1 M43.1.length M45 _ e47) ?_
  obtain ⟨M50, e51, h⟩ := bindE h
  refine q_putF hnm rfl rfl C fp_RX8_50 rfl e51 dX8_init_83 ?_
  refine q_aload_n 0 C dX8_init_86 rfl ?_
  refine q_iconst (v := (0 : Int32)) C dX8_init_87 (by decide) ?_
  obtain ⟨M52, e53, h⟩ := bindE h
  refine q_putZ C fp_RX8_54 rfl e53 dX8_init_88 ?_
  refine q_aload_n 0 C dX8_init_91 rfl ?_
  obtain ⟨M54, e55, h⟩ := bindE h
  refine q_new (ci := 6) C rfl cl_RX8_30 ib_6 in_6 e55 dX8_init_92 ?_
  refine q_dup C dX8_init_95 rfl ?_
  obtain ⟨M57, e56, h⟩ := bindE h
  refine q_callI [] C hRO rfl lk_RX8_32 ik_X6_init rfl rfl (Nat.le_of_ble_eq_true rfl) (by decide) (by decide) dX8_init_96 (k_X6_init X.1.2.1 hl X.2.2.1 M52.1.length M54 _ e56) ?_
  obtain ⟨M59, e60, h⟩ := bindE h
  refine q_putF hnm rfl rfl C fp_RX8_58 rfl e60 dX8_init_99 ?_
  refine q_aload_n 0 C dX8_init_102 rfl ?_
  obtain ⟨M61, e62, h⟩ := bindE h
  refine q_new (ci := 0) C rfl cl_RX8_40 ib_0 in_0 e62 dX8_init_103 ?_
  refine q_dup C dX8_init_106 rfl ?_
  obtain ⟨M64, e63, h⟩ := bindE h
  refine q_callI [] C hRO rfl lk_RX8_42 ik_X0_init rfl rfl (Nat.le_of_ble_eq_true rfl) (by decide) (by decide) dX8_init_107 (k_X0_init X.1.2.1 hl X.2.2.1 M59.1.length M61 _ e63) ?_
  obtain ⟨M66, e67, h⟩ := bindE h
  refine q_putF hnm rfl rfl C fp_RX8_61 rfl e67 dX8_init_110 ?_
  refine q_aload_n 0 C dX8_init_113 rfl ?_
  obtain ⟨M68, e69, h⟩ := bindE h
  refine q_new (ci := 5) C rfl cl_RX8_47 ib_5 in_5 e69 dX8_init_114 ?_
  refine q_dup C dX8_init_117 rfl ?_
  obtain ⟨M71, e70, h⟩ := bindE h
  refine q_callI [] C hRO rfl lk_RX8_49 ik_X5_init rfl rfl (Nat.le_of_ble_eq_true rfl) (by decide) (by decide) dX8_init_118 (k_X5_init X.1.2.1 hl X.2.2.1 M66.1.length M68 _ e70) ?_
  obtain ⟨M73, e74, h⟩ := bindE h
  refine q_putF hnm rfl rfl C fp_RX8_64 rfl e74 dX8_init_121 ?_
  refine q_aload_n 0 C dX8_init_124 rfl ?_
  refine q_iconst (v := (3 : Int32)) C dX8_init_125 (by decide) ?_
  obtain ⟨M75, e76, h⟩ := bindE h
  refine q_newI C ar_int e76 dX8_init_126 ?_
  obtain ⟨M77, e78, h⟩ := bindE h
  refine q_putF hnm rfl rfl C fp_RX8_67 rfl e78 dX8_init_128 ?_
  refine q_aload_n 0 C dX8_init_131 rfl ?_
  obtain ⟨M79, e80, h⟩ := bindE h
  refine q_new (ci := 1) C rfl cl_RX8_71 ib_1 in_1 e80 dX8_init_132 ?_
  refine q_dup C dX8_init_135 rfl ?_
  obtain ⟨M82, e81, h⟩ := bindE h
  refine q_callI [] C hRO rfl lk_RX8_73 ik_X1_init rfl rfl (Nat.le_of_ble_eq_true rfl) (by decide) (by decide) dX8_init_136 (k_X1_init X.1.2.1 hl X.2.2.1 M77.1.length M79 _ e81) ?_
  obtain ⟨M84, e85, h⟩ := bindE h
  refine q_putF hnm rfl rfl C fp_RX8_74 rfl e85 dX8_init_139 ?_
  refine q_aload_n 0 C dX8_init_142 rfl ?_
  obtain ⟨M86, e87, h⟩ := bindE h
  refine q_new (ci := 7) C rfl cl_RX8_78 ib_7 in_7 e87 dX8_init_143 ?_
  refine q_dup C dX8_init_146 rfl ?_
  obtain ⟨M89, e88, h⟩ := bindE h
  refine q_callI [] C hRO rfl lk_RX8_80 ik_X7_init rfl rfl (Nat.le_of_ble_eq_true rfl) (by decide) (by decide) dX8_init_147 (k_X7_init X.1.2.1 hl X.2.2.1 M84.1.length M86 _ e88) ?_
  obtain ⟨M91, e92, h⟩ := bindE h
  refine q_putF hnm rfl rfl C fp_RX8_81 rfl e92 dX8_init_150 ?_
  refine q_aload_n 0 C dX8_init_153 rfl ?_
  refine q_bipush (v := (8 : Int32)) C dX8_init_154 (by decide) ?_
  obtain ⟨M93, e94, h⟩ := bindE h
  refine q_newJ C ar_long e94 dX8_init_156 ?_
  obtain ⟨M95, e96, h⟩ := bindE h
  refine q_putF hnm rfl rfl C fp_RX8_85 rfl e96 dX8_init_158 ?_
  cases h
  exact q_vret C kf dX8_init_161
theorem k_X8_init (l : Launch) (hl : l.stackTraces = false) (G : GG) (l0 : Nat) (M : Mem) (x : Mem) (h : F_X8_init l0 M = some x) : Ct l G yX8_init (.code yX8_init cX8_init 1 none) 9 183 [.ref l0] M (rs_mV x) (ms_mV x) := by
  refine Ct_of (by decide +kernel) (Nat.le_of_ble_eq_true rfl) fun X e1 e2 e3 C FN hnm => ?_
  subst e1; subst e2
  show wq X 1 0 [(0, .ref l0)] [] M
  exact w_X8_init C FN.2.2.2 hl hnm l0 M h FN
/-! X8_pass -/
set_option maxRecDepth 100000 in
set_option maxHeartbeats 4000000 in
theorem w_X8_pass_s2 {X : CX} {y : (Int32 × Mem) ⊕ (Mem)} (C : CK X cX8_pass 4 RX8 11 237) (hRO : RO X.2.2.1 X.1.2.2.2.2.1 X.1.2.2.2.2.1.heap) (hl : X.1.2.1.stackTraces = false) (l0 : Nat) (l1 : Nat) (l2 : Int32) (l3 : Int32) (M : Mem) (h : F_X8_pass_s2 l0 l1 l2 l3 M = some y) (kc : ∀ s' : Int32 × Mem, y = .inl s' → wq X 4 2 [(0, .ref l0), (1, .ref l1), (2, .int l2), (3, .int (s'.1))] [] s'.2) (kx : ∀ e' : Mem, y = (.inr e') → wq X 4 29 [] [] e') : wq X 4 2 [(0, .ref l0), (1, .ref l1), (2, .int l2), (3, .int l3)] [] M := by
  unfold F_X8_pass_s2 at h
  refine q_iload_n 3 C dX8_pass_2 rfl ?_
  refine q_iload_n 2 C dX8_pass_3 rfl ?_
  refine q_icmp_ge (tgt := 29) C dX8_pass_4 (by decide) (fun c1 => ?_) (fun c1 => ?_)
  · have h := ifT c1 h
    exact q_sub (lv' := []) [] rfl (kx M (someI h))
  · have h := ifF c1 h
    refine q_aload_n 0 C dX8_pass_7 rfl ?_
    obtain ⟨v2, e3, h⟩ := bindE h
    refine q_getP C fl_RX8_23 rfl e3 dX8_pass_8 ?_
    refine q_aload_n 1 C dX8_pass_11 rfl ?_
    refine q_aload_n 0 C dX8_pass_12 rfl ?_
    obtain ⟨v4, e5, h⟩ := bindE h
    refine q_getP C fl_RX8_23 rfl e5 dX8_pass_13 ?_
    refine q_aload_n 1 C dX8_pass_16 rfl ?_
    obtain ⟨e6, h⟩ := ckOE h
    obtain ⟨v8, e7, h⟩ := bindE h
    refine q_callV (v := some (.int v8)) [.ref l1] C hRO lk_RX8_128 vk_X2_dampOf e6 rfl rfl rfl (Nat.le_of_ble_eq_true rfl) (by decide) (by decide) dX8_pass_17 (k_X2_dampOf X.1.2.1 hl X.2.2.1 v4 l1 M _ e7) ?_
    obtain ⟨e9, h⟩ := ckOE h
    obtain ⟨M11, e10, h⟩ := bindE h
    refine q_callV (v := none) [.ref l1, .int v8] C hRO lk_RX8_273 vk_X2_pass e9 rfl rfl rfl (Nat.le_of_ble_eq_true rfl) (by decide) (by decide) dX8_pass_20 (k_X2_pass X.1.2.1 hl X.2.2.1 v2 l1 v8 M _ e10) ?_
    refine q_iinc 3 (v := (l3 + (1 : Int32))) (lv' := [(3, .int (l3 + (1 : Int32))), (0, .ref l0), (1, .ref l1), (2, .int l2)]) C dX8_pass_23 rfl rfl (by decide) rfl ?_
    refine q_goto (tgt := 2) C dX8_pass_26 (by decide) ?_
    exact q_sub (lv' := [(0, .ref l0), (1, .ref l1), (2, .int l2), (3, .int (l3 + (1 : Int32)))]) [1, 2, 3, 0] rfl (kc ((l3 + (1 : Int32)), M11) (someI h))
theorem w_X8_pass_l2 {X : CX} {r : Mem} (C : CK X cX8_pass 4 RX8 11 237) (hRO : RO X.2.2.1 X.1.2.2.2.2.1 X.1.2.2.2.2.1.heap) (hl : X.1.2.1.stackTraces = false) (l0 : Nat) (l1 : Nat) (l2 : Int32) (l3 : Int32) (M : Mem) (h : loop (fun s => F_X8_pass_s2 l0 l1 l2 s.1 s.2) (l3, M) = some r) (kx : ∀ e' : Mem, r = e' → wq X 4 29 [] [] e') : wq X 4 2 [(0, .ref l0), (1, .ref l1), (2, .int l2), (3, .int l3)] [] M :=
  loop_ind (P := fun s => wq X 4 2 [(0, .ref l0), (1, .ref l1), (2, .int l2), (3, .int s.1)] [] s.2) h (fun s y hy kc kr => w_X8_pass_s2 C hRO hl l0 l1 l2 s.1 s.2 hy kc (fun e' he => kx e' (kr _ he).symm))
set_option maxRecDepth 100000 in
set_option maxHeartbeats 4000000 in
theorem w_X8_pass {X : CX} {y : Mem} (C : CK X cX8_pass 4 RX8 11 237) (hRO : RO X.2.2.1 X.1.2.2.2.2.1 X.1.2.2.2.2.1.heap) (hl : X.1.2.1.stackTraces = false) (l0 : Nat) (l1 : Nat) (l2 : Int32) (M : Mem) (h : F_X8_pass l0 l1 l2 M = some y) (kf : FIN X none (rs_mV y) (ms_mV y)) : wq X 4 0 [(0, .ref l0), (1, .ref l1), (2, .int l2)] [] M := by
  unfold F_X8_pass at h
  refine q_iconst (v := (0 : Int32)) C dX8_pass_0 (by decide) ?_
  refine q_istore_n (i := 3) (lv' := [(3, .int (0 : Int32)), (0, .ref l0), (1, .ref l1), (2, .int l2)]) C dX8_pass_1 rfl (by decide) rfl ?_
  obtain ⟨M15, e14, h⟩ := bindE h
  refine q_sub (lv' := [(0, .ref l0), (1, .ref l1), (2, .int l2), (3, .int (0 : Int32))]) [1, 2, 3, 0] rfl (w_X8_pass_l2 C hRO hl l0 l1 l2 (0 : Int32) M e14 (fun r13 he => ?_))
  subst he
  show wq X 4 29 [] [] M15
  cases h
  exact q_vret C kf dX8_pass_29
theorem k_X8_pass (l : Launch) (hl : l.stackTraces = false) (G : GG) (l0 : Nat) (l1 : Nat) (l2 : Int32) (M : Mem) (x : Mem) (h : F_X8_pass l0 l1 l2 M = some x) : Ct l G yX8_pass (.code yX8_pass cX8_pass 4 none) 11 237 [.ref l0, .ref l1, .int l2] M (rs_mV x) (ms_mV x) := by
  refine Ct_of (by decide +kernel) (Nat.le_of_ble_eq_true rfl) fun X e1 e2 e3 C FN hnm => ?_
  subst e1; subst e2
  show wq X 4 0 [(0, .ref l0), (1, .ref l1), (2, .int l2)] [] M
  exact w_X8_pass C FN.2.2.2 hl l0 l1 l2 M h FN
/-! X8_after -/
set_option maxRecDepth 100000 in
set_option maxHeartbeats 4000000 in
theorem w_X8_after {X : CX} {y : Nat × Mem} (C : CK X cX8_after 2 RX8 12 260) (hRO : RO X.2.2.1 X.1.2.2.2.2.1 X.1.2.2.2.2.1.heap) (hl : X.1.2.1.stackTraces = false) (l0 : Nat) (l1 : Int32) (M : Mem) (h : F_X8_after l0 l1 M = some y) (kf : FIN X (some (.object "HornHouses$State")) (rs_mR y) (ms_mR y)) : wq X 2 0 [(0, .ref l0), (1, .int l1)] [] M := by
  unfold F_X8_after at h
  refine q_aload_n 0 C dX8_after_0 rfl ?_
  obtain ⟨v1, e2, h⟩ := bindE h
  refine q_getP C fl_RX8_37 rfl e2 dX8_after_1 ?_
  refine q_aload_n 0 C dX8_after_4 rfl ?_
  obtain ⟨v3, e4, h⟩ := bindE h
  refine q_getP C fl_RX8_33 rfl e4 dX8_after_5 ?_
  obtain ⟨e5, h⟩ := ckOE h
  obtain ⟨M7, e6, h⟩ := bindE h
  refine q_callV (v := none) [.ref v3] C hRO lk_RX8_274 vk_X6_copy e5 rfl rfl rfl (Nat.le_of_ble_eq_true rfl) (by decide) (by decide) dX8_after_8 (k_X6_copy X.1.2.1 hl X.2.2.1 v1 v3 M _ e6) ?_
  refine q_aload_n 0 C dX8_after_11 rfl ?_
  refine q_aload_n 0 C dX8_after_12 rfl ?_
  obtain ⟨v9, e10, h⟩ := bindE h
  refine q_getP C fl_RX8_37 rfl e10 dX8_after_13 ?_
  refine q_iload_n 1 C dX8_after_16 rfl ?_
  obtain ⟨e11, h⟩ := ckOE h
  obtain ⟨M13, e12, h⟩ := bindE h
  refine q_callV (v := none) [.ref v9, .int l1] C hRO lk_RX8_245 vk_X8_pass e11 rfl rfl rfl (Nat.le_of_ble_eq_true rfl) (by decide) (by decide) dX8_after_17 (k_X8_pass X.1.2.1 hl X.2.2.1 l0 v9 l1 M7 _ e12) ?_
  refine q_aload_n 0 C dX8_after_20 rfl ?_
  obtain ⟨v15, e16, h⟩ := bindE h
  refine q_getP C fl_RX8_37 rfl e16 dX8_after_21 ?_
  cases h
  exact q_aret (Or.inl ⟨_, rfl⟩) C kf dX8_after_24
theorem k_X8_after (l : Launch) (hl : l.stackTraces = false) (G : GG) (l0 : Nat) (l1 : Int32) (M : Mem) (x : Nat × Mem) (h : F_X8_after l0 l1 M = some x) : Ct l G yX8_after (.code yX8_after cX8_after 2 (some (.object "HornHouses$State"))) 12 260 [.ref l0, .int l1] M (rs_mR x) (ms_mR x) := by
  refine Ct_of (by decide +kernel) (Nat.le_of_ble_eq_true rfl) fun X e1 e2 e3 C FN hnm => ?_
  subst e1; subst e2
  show wq X 2 0 [(0, .ref l0), (1, .int l1)] [] M
  exact w_X8_after C FN.2.2.2 hl l0 l1 M h FN
/-! X8_agreesFromLater -/
set_option maxRecDepth 100000 in
set_option maxHeartbeats 4000000 in
theorem w_X8_agreesFromLater_s11 {X : CX} {y : (Int32 × Mem) ⊕ ((Mem) ⊕ (Int32 × Mem))} (C : CK X cX8_agreesFromLater 4 RX8 11 238) (hRO : RO X.2.2.1 X.1.2.2.2.2.1 X.1.2.2.2.2.1.heap) (hl : X.1.2.1.stackTraces = false) (l0 : Nat) (l1 : Int32) (l2 : Int32) (l3 : Int32) (M : Mem) (h : F_X8_agreesFromLater_s11 l0 l1 l2 l3 M = some y) (kc : ∀ s' : Int32 × Mem, y = .inl s' → wq X 4 11 [(0, .ref l0), (1, .int l1), (2, .int l2), (3, .int (s'.1))] [] s'.2) (kx : ∀ e' : Mem, y = (.inr (.inl e')) → wq X 4 68 [] [] e') (kf : ∀ f' : Int32 × Mem, y = (.inr (.inr f')) → FIN X (some .boolean) (rs_mI f') (ms_mI f')) : wq X 4 11 [(0, .ref l0), (1, .int l1), (2, .int l2), (3, .int l3)] [] M := by
  unfold F_X8_agreesFromLater_s11 at h
  refine q_iload_n 3 C dX8_agreesFromLater_11 rfl ?_
  refine q_iload_n 2 C dX8_agreesFromLater_12 rfl ?_
  refine q_icmp_gt (tgt := 68) C dX8_agreesFromLater_13 (by decide) (fun c6 => ?_) (fun c6 => ?_)
  · have h := ifT c6 h
    exact q_sub (lv' := []) [] rfl (kx M (someI h))
  · have h := ifF c6 h
    refine q_aload_n 0 C dX8_agreesFromLater_16 rfl ?_
    obtain ⟨v7, e8, h⟩ := bindE h
    refine q_getP C fl_RX8_50 rfl e8 dX8_agreesFromLater_17 ?_
    refine q_iload_n 1 C dX8_agreesFromLater_20 rfl ?_
    refine q_iload_n 3 C dX8_agreesFromLater_21 rfl ?_
    refine q_aload_n 0 C dX8_agreesFromLater_22 rfl ?_
    obtain ⟨v9, e10, h⟩ := bindE h
    refine q_getP C fl_RX8_37 rfl e10 dX8_agreesFromLater_23 ?_
    obtain ⟨v11, e12, h⟩ := bindE h
    refine q_getP C fl_RX8_197 rfl e12 dX8_agreesFromLater_26 ?_
    refine q_iload_n 1 C dX8_agreesFromLater_29 rfl ?_
    obtain ⟨v13, e14, h⟩ := bindE h
    refine q_iaload C e14 dX8_agreesFromLater_30 ?_
    obtain ⟨e15, h⟩ := ckOE h
    obtain ⟨v17, e16, h⟩ := bindE h
    refine q_callV (v := some (.int v17)) [.int l1, .int l3, .int v13] C hRO lk_RX8_339 vk_X5_agrees e15 rfl rfl rfl (Nat.le_of_ble_eq_true rfl) (by decide) (by decide) dX8_agreesFromLater_31 (k_X5_agrees X.1.2.1 hl X.2.2.1 v7 l1 l3 v13 M _ e16) ?_
    refine q_if_ne (tgt := 39) C dX8_agreesFromLater_34 (by decide) (fun c18 => ?_) (fun c18 => ?_)
    · have h := ifF c18 h
      refine q_aload_n 0 C dX8_agreesFromLater_39 rfl ?_
      obtain ⟨v19, e20, h⟩ := bindE h
      refine q_getP C fl_RX8_23 rfl e20 dX8_agreesFromLater_40 ?_
      refine q_aload_n 0 C dX8_agreesFromLater_43 rfl ?_
      obtain ⟨v21, e22, h⟩ := bindE h
      refine q_getP C fl_RX8_37 rfl e22 dX8_agreesFromLater_44 ?_
      refine q_iload_n 1 C dX8_agreesFromLater_47 rfl ?_
      refine q_aload_n 0 C dX8_agreesFromLater_48 rfl ?_
      obtain ⟨v23, e24, h⟩ := bindE h
      refine q_getP C fl_RX8_23 rfl e24 dX8_agreesFromLater_49 ?_
      refine q_aload_n 0 C dX8_agreesFromLater_52 rfl ?_
      obtain ⟨v25, e26, h⟩ := bindE h
      refine q_getP C fl_RX8_37 rfl e26 dX8_agreesFromLater_53 ?_
      obtain ⟨e27, h⟩ := ckOE h
      obtain ⟨v29, e28, h⟩ := bindE h
      refine q_callV (v := some (.int v29)) [.ref v25] C hRO lk_RX8_128 vk_X2_dampOf e27 rfl rfl rfl (Nat.le_of_ble_eq_true rfl) (by decide) (by decide) dX8_agreesFromLater_56 (k_X2_dampOf X.1.2.1 hl X.2.2.1 v23 v25 M _ e28) ?_
      obtain ⟨e30, h⟩ := ckOE h
      obtain ⟨M32, e31, h⟩ := bindE h
      refine q_callV (v := none) [.ref v21, .int l1, .int v29] C hRO lk_RX8_290 vk_X2_passAlone e30 rfl rfl rfl (Nat.le_of_ble_eq_true rfl) (by decide) (by decide) dX8_agreesFromLater_59 (k_X2_passAlone X.1.2.1 hl X.2.2.1 v19 v21 l1 v29 M _ e31) ?_
      refine q_iinc 3 (v := (l3 + (1 : Int32))) (lv' := [(3, .int (l3 + (1 : Int32))), (0, .ref l0), (1, .int l1), (2, .int l2)]) C dX8_agreesFromLater_62 rfl rfl (by decide) rfl ?_
      refine q_goto (tgt := 11) C dX8_agreesFromLater_65 (by decide) ?_
      exact q_sub (lv' := [(0, .ref l0), (1, .int l1), (2, .int l2), (3, .int (l3 + (1 : Int32)))]) [1, 2, 3, 0] rfl (kc ((l3 + (1 : Int32)), M32) (someI h))
    · have h := ifT c18 h
      refine q_iconst (v := (0 : Int32)) C dX8_agreesFromLater_37 (by decide) ?_
      exact q_zretE (w := (0 : Int32)) (by decide) C (kf _ (someI h)) dX8_agreesFromLater_38
theorem w_X8_agreesFromLater_l11 {X : CX} {r : (Mem) ⊕ (Int32 × Mem)} (C : CK X cX8_agreesFromLater 4 RX8 11 238) (hRO : RO X.2.2.1 X.1.2.2.2.2.1 X.1.2.2.2.2.1.heap) (hl : X.1.2.1.stackTraces = false) (l0 : Nat) (l1 : Int32) (l2 : Int32) (l3 : Int32) (M : Mem) (h : loop (fun s => F_X8_agreesFromLater_s11 l0 l1 l2 s.1 s.2) (l3, M) = some r) (kx : ∀ e' : Mem, r = .inl e' → wq X 4 68 [] [] e') (kf : ∀ f' : Int32 × Mem, r = .inr f' → FIN X (some .boolean) (rs_mI f') (ms_mI f')) : wq X 4 11 [(0, .ref l0), (1, .int l1), (2, .int l2), (3, .int l3)] [] M :=
  loop_ind (P := fun s => wq X 4 11 [(0, .ref l0), (1, .int l1), (2, .int l2), (3, .int s.1)] [] s.2) h (fun s y hy kc kr => w_X8_agreesFromLater_s11 C hRO hl l0 l1 l2 s.1 s.2 hy kc (fun e' he => kx e' (kr _ he).symm) (fun f' he => kf f' (kr _ he).symm))
set_option maxRecDepth 100000 in
set_option maxHeartbeats 4000000 in
theorem w_X8_agreesFromLater {X : CX} {y : Int32 × Mem} (C : CK X cX8_agreesFromLater 4 RX8 11 238) (hRO : RO X.2.2.1 X.1.2.2.2.2.1 X.1.2.2.2.2.1.heap) (hl : X.1.2.1.stackTraces = false) (l0 : Nat) (l1 : Int32) (M : Mem) (h : F_X8_agreesFromLater l0 l1 M = some y) (kf : FIN X (some .boolean) (rs_mI y) (ms_mI y)) : wq X 4 0 [(0, .ref l0), (1, .int l1)] [] M := by
  unfold F_X8_agreesFromLater at h
  refine q_aload_n 0 C dX8_agreesFromLater_0 rfl ?_
  obtain ⟨v1, e2, h⟩ := bindE h
  refine q_getP C fl_RX8_50 rfl e2 dX8_agreesFromLater_1 ?_
  refine q_iload_n 1 C dX8_agreesFromLater_4 rfl ?_
  obtain ⟨e3, h⟩ := ckOE h
  obtain ⟨v5, e4, h⟩ := bindE h
  refine q_callV (v := some (.int v5)) [.int l1] C hRO lk_RX8_336 vk_X5_longest e3 rfl rfl rfl (Nat.le_of_ble_eq_true rfl) (by decide) (by decide) dX8_agreesFromLater_5 (k_X5_longest X.1.2.1 hl X.2.2.1 v1 l1 M _ e4) ?_
  refine q_istore_n (i := 2) (lv' := [(2, .int v5), (0, .ref l0), (1, .int l1)]) C dX8_agreesFromLater_8 rfl (by decide) rfl ?_
  refine q_iconst (v := (0 : Int32)) C dX8_agreesFromLater_9 (by decide) ?_
  refine q_istore_n (i := 3) (lv' := [(3, .int (0 : Int32)), (2, .int v5), (0, .ref l0), (1, .int l1)]) C dX8_agreesFromLater_10 rfl (by decide) rfl ?_
  obtain ⟨r34, e35, h⟩ := bindE h
  refine q_sub (lv' := [(0, .ref l0), (1, .int l1), (2, .int v5), (3, .int (0 : Int32))]) [2, 3, 1, 0] rfl (w_X8_agreesFromLater_l11 C hRO hl l0 l1 v5 (0 : Int32) M e35 (fun M36 he => ?_) (fun f38 he => ?_))
  · subst he
    have h := elimL h
    show wq X 4 68 [] [] M36
    refine q_iconst (v := (1 : Int32)) C dX8_agreesFromLater_68 (by decide) ?_
    cases h
    exact q_zretE (w := (1 : Int32)) (by decide) C kf dX8_agreesFromLater_69
  · subst he
    have h := elimR h
    cases h
    exact kf
theorem k_X8_agreesFromLater (l : Launch) (hl : l.stackTraces = false) (G : GG) (l0 : Nat) (l1 : Int32) (M : Mem) (x : Int32 × Mem) (h : F_X8_agreesFromLater l0 l1 M = some x) : Ct l G yX8_agreesFromLater (.code yX8_agreesFromLater cX8_agreesFromLater 4 (some .boolean)) 11 238 [.ref l0, .int l1] M (rs_mI x) (ms_mI x) := by
  refine Ct_of (by decide +kernel) (Nat.le_of_ble_eq_true rfl) fun X e1 e2 e3 C FN hnm => ?_
  subst e1; subst e2
  show wq X 4 0 [(0, .ref l0), (1, .int l1)] [] M
  exact w_X8_agreesFromLater C FN.2.2.2 hl l0 l1 M h FN
/-! X8_agreeingHouses -/
set_option maxRecDepth 100000 in
set_option maxHeartbeats 4000000 in
theorem w_X8_agreeingHouses_s4 {X : CX} {y : (Int32 × Int32 × Mem) ⊕ (Int32 × Mem)} (C : CK X cX8_agreeingHouses 3 RX8 12 261) (hRO : RO X.2.2.1 X.1.2.2.2.2.1 X.1.2.2.2.2.1.heap) (hl : X.1.2.1.stackTraces = false) (l0 : Nat) (l1 : Int32) (l2 : Int32) (M : Mem) (h : F_X8_agreeingHouses_s4 l0 l1 l2 M = some y) (kc : ∀ s' : Int32 × Int32 × Mem, y = .inl s' → wq X 3 4 [(0, .ref l0), (1, .int (s'.1)), (2, .int (s'.2.1))] [] s'.2.2) (kx : ∀ e' : Int32 × Mem, y = (.inr e') → wq X 3 46 [(1, .int (e'.1))] [] e'.2) : wq X 3 4 [(0, .ref l0), (1, .int l1), (2, .int l2)] [] M := by
  unfold F_X8_agreeingHouses_s4 at h
  refine q_iload_n 2 C dX8_agreeingHouses_4 rfl ?_
  refine q_aload_n 0 C dX8_agreeingHouses_5 rfl ?_
  obtain ⟨v1, e2, h⟩ := bindE h
  refine q_getP C fl_RX8_23 rfl e2 dX8_agreeingHouses_6 ?_
  obtain ⟨v3, e4, h⟩ := bindE h
  refine q_getI C fl_RX8_119 rfl e4 dX8_agreeingHouses_9 ?_
  refine q_icmp_ge (tgt := 46) C dX8_agreeingHouses_12 (by decide) (fun c5 => ?_) (fun c5 => ?_)
  · have h := ifT c5 h
    exact q_sub (lv' := [(1, .int l1)]) [1] rfl (kx (l1, M) (someI h))
  · have h := ifF c5 h
    refine q_aload_n 0 C dX8_agreeingHouses_15 rfl ?_
    obtain ⟨v6, e7, h⟩ := bindE h
    refine q_getP C fl_RX8_37 rfl e7 dX8_agreeingHouses_16 ?_
    refine q_aload_n 0 C dX8_agreeingHouses_19 rfl ?_
    obtain ⟨v8, e9, h⟩ := bindE h
    refine q_getP C fl_RX8_33 rfl e9 dX8_agreeingHouses_20 ?_
    obtain ⟨e10, h⟩ := ckOE h
    obtain ⟨M12, e11, h⟩ := bindE h
    refine q_callV (v := none) [.ref v8] C hRO lk_RX8_274 vk_X6_copy e10 rfl rfl rfl (Nat.le_of_ble_eq_true rfl) (by decide) (by decide) dX8_agreeingHouses_23 (k_X6_copy X.1.2.1 hl X.2.2.1 v6 v8 M _ e11) ?_
    refine q_aload_n 0 C dX8_agreeingHouses_26 rfl ?_
    refine q_iload_n 2 C dX8_agreeingHouses_27 rfl ?_
    obtain ⟨e14, h⟩ := ckOE h
    obtain ⟨v17, M16, e15, h⟩ := bd2E h
    refine q_callV (v := some (.int v17)) [.int l2] C hRO lk_RX8_333 vk_X8_agreesFromLater e14 rfl rfl rfl (Nat.le_of_ble_eq_true rfl) (by decide) (by decide) dX8_agreeingHouses_28 (k_X8_agreesFromLater X.1.2.1 hl X.2.2.1 l0 l2 M12 _ e15) ?_
    refine q_if_eq (tgt := 40) C dX8_agreeingHouses_31 (by decide) (fun c18 => ?_) (fun c18 => ?_)
    · have h := ifT c18 h
      refine q_iinc 2 (v := (l2 + (1 : Int32))) (lv' := [(2, .int (l2 + (1 : Int32))), (0, .ref l0), (1, .int l1)]) C dX8_agreeingHouses_40 rfl rfl (by decide) rfl ?_
      refine q_goto (tgt := 4) C dX8_agreeingHouses_43 (by decide) ?_
      exact q_sub (lv' := [(0, .ref l0), (1, .int l1), (2, .int (l2 + (1 : Int32)))]) [1, 2, 0] rfl (kc (l1, (l2 + (1 : Int32)), M16) (someI h))
    · have h := ifF c18 h
      refine q_iload_n 1 C dX8_agreeingHouses_34 rfl ?_
      refine q_iconst (v := (1 : Int32)) C dX8_agreeingHouses_35 (by decide) ?_
      refine q_iload_n 2 C dX8_agreeingHouses_36 rfl ?_
      refine q_ishl C dX8_agreeingHouses_37 ?_
      refine q_ior C dX8_agreeingHouses_38 ?_
      obtain ⟨n19, e20, h⟩ := nmE h
      refine q_topI e20 ?_
      refine q_istore_n (i := 1) (lv' := [(1, .int n19), (0, .ref l0), (2, .int l2)]) C dX8_agreeingHouses_39 rfl (by decide) rfl ?_
      refine q_iinc 2 (v := (l2 + (1 : Int32))) (lv' := [(2, .int (l2 + (1 : Int32))), (1, .int n19), (0, .ref l0)]) C dX8_agreeingHouses_40 rfl rfl (by decide) rfl ?_
      refine q_goto (tgt := 4) C dX8_agreeingHouses_43 (by decide) ?_
      exact q_sub (lv' := [(0, .ref l0), (1, .int n19), (2, .int (l2 + (1 : Int32)))]) [2, 1, 0] rfl (kc (n19, (l2 + (1 : Int32)), M16) (someI h))
theorem w_X8_agreeingHouses_l4 {X : CX} {r : Int32 × Mem} (C : CK X cX8_agreeingHouses 3 RX8 12 261) (hRO : RO X.2.2.1 X.1.2.2.2.2.1 X.1.2.2.2.2.1.heap) (hl : X.1.2.1.stackTraces = false) (l0 : Nat) (l1 : Int32) (l2 : Int32) (M : Mem) (h : loop (fun s => F_X8_agreeingHouses_s4 l0 s.1 s.2.1 s.2.2) (l1, l2, M) = some r) (kx : ∀ e' : Int32 × Mem, r = e' → wq X 3 46 [(1, .int (e'.1))] [] e'.2) : wq X 3 4 [(0, .ref l0), (1, .int l1), (2, .int l2)] [] M :=
  loop_ind (P := fun s => wq X 3 4 [(0, .ref l0), (1, .int s.1), (2, .int s.2.1)] [] s.2.2) h (fun s y hy kc kr => w_X8_agreeingHouses_s4 C hRO hl l0 s.1 s.2.1 s.2.2 hy kc (fun e' he => kx e' (kr _ he).symm))
set_option maxRecDepth 100000 in
set_option maxHeartbeats 4000000 in
theorem w_X8_agreeingHouses {X : CX} {y : Int32 × Mem} (C : CK X cX8_agreeingHouses 3 RX8 12 261) (hRO : RO X.2.2.1 X.1.2.2.2.2.1 X.1.2.2.2.2.1.heap) (hl : X.1.2.1.stackTraces = false) (l0 : Nat) (M : Mem) (h : F_X8_agreeingHouses l0 M = some y) (kf : FIN X (some .int) (rs_mI y) (ms_mI y)) : wq X 3 0 [(0, .ref l0)] [] M := by
  unfold F_X8_agreeingHouses at h
  refine q_iconst (v := (0 : Int32)) C dX8_agreeingHouses_0 (by decide) ?_
  refine q_istore_n (i := 1) (lv' := [(1, .int (0 : Int32)), (0, .ref l0)]) C dX8_agreeingHouses_1 rfl (by decide) rfl ?_
  refine q_iconst (v := (0 : Int32)) C dX8_agreeingHouses_2 (by decide) ?_
  refine q_istore_n (i := 2) (lv' := [(2, .int (0 : Int32)), (1, .int (0 : Int32)), (0, .ref l0)]) C dX8_agreeingHouses_3 rfl (by decide) rfl ?_
  obtain ⟨⟨x23, M24⟩, e22, h⟩ := bindE h
  refine q_sub (lv' := [(0, .ref l0), (1, .int (0 : Int32)), (2, .int (0 : Int32))]) [2, 1, 0] rfl (w_X8_agreeingHouses_l4 C hRO hl l0 (0 : Int32) (0 : Int32) M e22 (fun r21 he => ?_))
  subst he
  have h := u2E h
  show wq X 3 46 [(1, .int x23)] [] M24
  refine q_iload_n 0 C dX8_agreeingHouses_46 rfl ?_
  cases h
  exact q_iret C kf dX8_agreeingHouses_47
theorem k_X8_agreeingHouses (l : Launch) (hl : l.stackTraces = false) (G : GG) (l0 : Nat) (M : Mem) (x : Int32 × Mem) (h : F_X8_agreeingHouses l0 M = some x) : Ct l G yX8_agreeingHouses (.code yX8_agreeingHouses cX8_agreeingHouses 3 (some .int)) 12 261 [.ref l0] M (rs_mI x) (ms_mI x) := by
  refine Ct_of (by decide +kernel) (Nat.le_of_ble_eq_true rfl) fun X e1 e2 e3 C FN hnm => ?_
  subst e1; subst e2
  show wq X 3 0 [(0, .ref l0)] [] M
  exact w_X8_agreeingHouses C FN.2.2.2 hl l0 M h FN
/-! X8_allBlisters -/
set_option maxRecDepth 100000 in
set_option maxHeartbeats 4000000 in
theorem w_X8_allBlisters_s4 {X : CX} {y : (Int32 × Int32) ⊕ (Int32)} (C : CK X cX8_allBlisters 4 RX8 7 140) (hRO : RO X.2.2.1 X.1.2.2.2.2.1 X.1.2.2.2.2.1.heap) (hl : X.1.2.1.stackTraces = false) (l0 : Nat) (l1 : Nat) (M : Mem) (l2 : Int32) (l3 : Int32) (h : F_X8_allBlisters_s4 l0 l1 M l2 l3 = some y) (kc : ∀ s' : Int32 × Int32, y = .inl s' → wq X 4 4 [(0, .ref l0), (1, .ref l1), (2, .int (s'.1)), (3, .int (s'.2))] [] M) (kx : ∀ e' : Int32, y = (.inr e') → wq X 4 30 [(2, .int (e'))] [] M) : wq X 4 4 [(0, .ref l0), (1, .ref l1), (2, .int l2), (3, .int l3)] [] M := by
  unfold F_X8_allBlisters_s4 at h
  refine q_iload_n 3 C dX8_allBlisters_4 rfl ?_
  refine q_aload_n 0 C dX8_allBlisters_5 rfl ?_
  obtain ⟨v1, e2, h⟩ := bindE h
  refine q_getP C fl_RX8_23 rfl e2 dX8_allBlisters_6 ?_
  obtain ⟨v3, e4, h⟩ := bindE h
  refine q_getI C fl_RX8_122 rfl e4 dX8_allBlisters_9 ?_
  refine q_icmp_ge (tgt := 30) C dX8_allBlisters_12 (by decide) (fun c5 => ?_) (fun c5 => ?_)
  · have h := ifT c5 h
    exact q_sub (lv' := [(2, .int l2)]) [2] rfl (kx l2 (someI h))
  · have h := ifF c5 h
    refine q_iload_n 2 C dX8_allBlisters_15 rfl ?_
    refine q_aload_n 1 C dX8_allBlisters_16 rfl ?_
    obtain ⟨v6, e7, h⟩ := bindE h
    refine q_getP C fl_RX8_165 rfl e7 dX8_allBlisters_17 ?_
    refine q_iload_n 3 C dX8_allBlisters_20 rfl ?_
    obtain ⟨v8, e9, h⟩ := bindE h
    refine q_iaload C e9 dX8_allBlisters_21 ?_
    refine q_iadd C dX8_allBlisters_22 ?_
    refine q_istore_n (i := 2) (lv' := [(2, .int (l2 + v8)), (0, .ref l0), (1, .ref l1), (3, .int l3)]) C dX8_allBlisters_23 rfl (by decide) rfl ?_
    refine q_iinc 3 (v := (l3 + (1 : Int32))) (lv' := [(3, .int (l3 + (1 : Int32))), (2, .int (l2 + v8)), (0, .ref l0), (1, .ref l1)]) C dX8_allBlisters_24 rfl rfl (by decide) rfl ?_
    refine q_goto (tgt := 4) C dX8_allBlisters_27 (by decide) ?_
    exact q_sub (lv' := [(0, .ref l0), (1, .ref l1), (2, .int (l2 + v8)), (3, .int (l3 + (1 : Int32)))]) [2, 3, 1, 0] rfl (kc ((l2 + v8), (l3 + (1 : Int32))) (someI h))
theorem w_X8_allBlisters_l4 {X : CX} {r : Int32} (C : CK X cX8_allBlisters 4 RX8 7 140) (hRO : RO X.2.2.1 X.1.2.2.2.2.1 X.1.2.2.2.2.1.heap) (hl : X.1.2.1.stackTraces = false) (l0 : Nat) (l1 : Nat) (M : Mem) (l2 : Int32) (l3 : Int32) (h : loop (fun s => F_X8_allBlisters_s4 l0 l1 M s.1 s.2) (l2, l3) = some r) (kx : ∀ e' : Int32, r = e' → wq X 4 30 [(2, .int (e'))] [] M) : wq X 4 4 [(0, .ref l0), (1, .ref l1), (2, .int l2), (3, .int l3)] [] M :=
  loop_ind (P := fun s => wq X 4 4 [(0, .ref l0), (1, .ref l1), (2, .int s.1), (3, .int s.2)] [] M) h (fun s y hy kc kr => w_X8_allBlisters_s4 C hRO hl l0 l1 M s.1 s.2 hy kc (fun e' he => kx e' (kr _ he).symm))
set_option maxRecDepth 100000 in
set_option maxHeartbeats 4000000 in
theorem w_X8_allBlisters {X : CX} {y : Int32} (C : CK X cX8_allBlisters 4 RX8 7 140) (hRO : RO X.2.2.1 X.1.2.2.2.2.1 X.1.2.2.2.2.1.heap) (hl : X.1.2.1.stackTraces = false) (l0 : Nat) (l1 : Nat) (M : Mem) (h : F_X8_allBlisters l0 l1 M = some y) (kf : FIN X (some .int) (rs_pI y) M) : wq X 4 0 [(0, .ref l0), (1, .ref l1)] [] M := by
  unfold F_X8_allBlisters at h
  refine q_iconst (v := (0 : Int32)) C dX8_allBlisters_0 (by decide) ?_
  refine q_istore_n (i := 2) (lv' := [(2, .int (0 : Int32)), (0, .ref l0), (1, .ref l1)]) C dX8_allBlisters_1 rfl (by decide) rfl ?_
  refine q_iconst (v := (0 : Int32)) C dX8_allBlisters_2 (by decide) ?_
  refine q_istore_n (i := 3) (lv' := [(3, .int (0 : Int32)), (2, .int (0 : Int32)), (0, .ref l0), (1, .ref l1)]) C dX8_allBlisters_3 rfl (by decide) rfl ?_
  obtain ⟨x12, e11, h⟩ := bindE h
  refine q_sub (lv' := [(0, .ref l0), (1, .ref l1), (2, .int (0 : Int32)), (3, .int (0 : Int32))]) [2, 3, 1, 0] rfl (w_X8_allBlisters_l4 C hRO hl l0 l1 M (0 : Int32) (0 : Int32) e11 (fun r10 he => ?_))
  subst he
  show wq X 4 30 [(2, .int x12)] [] M
  refine q_iload_n 0 C dX8_allBlisters_30 rfl ?_
  cases h
  exact q_iret C kf dX8_allBlisters_31
theorem k_X8_allBlisters (l : Launch) (hl : l.stackTraces = false) (G : GG) (l0 : Nat) (l1 : Nat) (M : Mem) (x : Int32) (h : F_X8_allBlisters l0 l1 M = some x) : Ct l G yX8_allBlisters (.code yX8_allBlisters cX8_allBlisters 4 (some .int)) 7 140 [.ref l0, .ref l1] M (rs_pI x) M := by
  refine Ct_of (by decide +kernel) (Nat.le_of_ble_eq_true rfl) fun X e1 e2 e3 C FN hnm => ?_
  subst e1; subst e2
  show wq X 4 0 [(0, .ref l0), (1, .ref l1)] [] M
  exact w_X8_allBlisters C FN.2.2.2 hl l0 l1 M h FN
/-! X8_allHouses -/
set_option maxRecDepth 100000 in
set_option maxHeartbeats 4000000 in
theorem w_X8_allHouses {X : CX} {y : Int32} (C : CK X cX8_allHouses 1 RX8 7 140) (hRO : RO X.2.2.1 X.1.2.2.2.2.1 X.1.2.2.2.2.1.heap) (hl : X.1.2.1.stackTraces = false) (l0 : Nat) (M : Mem) (h : F_X8_allHouses l0 M = some y) (kf : FIN X (some .int) (rs_pI y) M) : wq X 1 0 [(0, .ref l0)] [] M := by
  unfold F_X8_allHouses at h
  refine q_iconst (v := (1 : Int32)) C dX8_allHouses_0 (by decide) ?_
  refine q_aload_n 0 C dX8_allHouses_1 rfl ?_
  obtain ⟨v1, e2, h⟩ := bindE h
  refine q_getP C fl_RX8_23 rfl e2 dX8_allHouses_2 ?_
  obtain ⟨v3, e4, h⟩ := bindE h
  refine q_getI C fl_RX8_119 rfl e4 dX8_allHouses_5 ?_
  refine q_ishl C dX8_allHouses_8 ?_
  refine q_iconst (v := (1 : Int32)) C dX8_allHouses_9 (by decide) ?_
  refine q_isub C dX8_allHouses_10 ?_
  cases h
  exact q_iret C kf dX8_allHouses_11
theorem k_X8_allHouses (l : Launch) (hl : l.stackTraces = false) (G : GG) (l0 : Nat) (M : Mem) (x : Int32) (h : F_X8_allHouses l0 M = some x) : Ct l G yX8_allHouses (.code yX8_allHouses cX8_allHouses 1 (some .int)) 7 140 [.ref l0] M (rs_pI x) M := by
  refine Ct_of (by decide +kernel) (Nat.le_of_ble_eq_true rfl) fun X e1 e2 e3 C FN hnm => ?_
  subst e1; subst e2
  show wq X 1 0 [(0, .ref l0)] [] M
  exact w_X8_allHouses C FN.2.2.2 hl l0 M h FN
/-! X8_lodgers -/
set_option maxRecDepth 100000 in
set_option maxHeartbeats 4000000 in
theorem w_X8_lodgers_s4 {X : CX} {y : (Int32 × Int32) ⊕ (Int32)} (C : CK X cX8_lodgers 4 RX8 7 140) (hRO : RO X.2.2.1 X.1.2.2.2.2.1 X.1.2.2.2.2.1.heap) (hl : X.1.2.1.stackTraces = false) (l0 : Nat) (l1 : Nat) (M : Mem) (l2 : Int32) (l3 : Int32) (h : F_X8_lodgers_s4 l0 l1 M l2 l3 = some y) (kc : ∀ s' : Int32 × Int32, y = .inl s' → wq X 4 4 [(0, .ref l0), (1, .ref l1), (2, .int (s'.1)), (3, .int (s'.2))] [] M) (kx : ∀ e' : Int32, y = (.inr e') → wq X 4 37 [(2, .int (e'))] [] M) : wq X 4 4 [(0, .ref l0), (1, .ref l1), (2, .int l2), (3, .int l3)] [] M := by
  unfold F_X8_lodgers_s4 at h
  refine q_iload_n 3 C dX8_lodgers_4 rfl ?_
  refine q_aload_n 0 C dX8_lodgers_5 rfl ?_
  obtain ⟨v1, e2, h⟩ := bindE h
  refine q_getP C fl_RX8_23 rfl e2 dX8_lodgers_6 ?_
  obtain ⟨v3, e4, h⟩ := bindE h
  refine q_getI C fl_RX8_122 rfl e4 dX8_lodgers_9 ?_
  refine q_icmp_ge (tgt := 37) C dX8_lodgers_12 (by decide) (fun c5 => ?_) (fun c5 => ?_)
  · have h := ifT c5 h
    exact q_sub (lv' := [(2, .int l2)]) [2] rfl (kx l2 (someI h))
  · have h := ifF c5 h
    refine q_aload_n 1 C dX8_lodgers_15 rfl ?_
    obtain ⟨v6, e7, h⟩ := bindE h
    refine q_getP C fl_RX8_162 rfl e7 dX8_lodgers_16 ?_
    refine q_iload_n 3 C dX8_lodgers_19 rfl ?_
    obtain ⟨v8, e9, h⟩ := bindE h
    refine q_iaload C e9 dX8_lodgers_20 ?_
    refine q_iconst (v := (-1 : Int32)) C dX8_lodgers_21 (by decide) ?_
    refine q_icmp_ne (tgt := 31) C dX8_lodgers_22 (by decide) (fun c10 => ?_) (fun c10 => ?_)
    · have h := ifF c10 h
      refine q_iinc 3 (v := (l3 + (1 : Int32))) (lv' := [(3, .int (l3 + (1 : Int32))), (0, .ref l0), (1, .ref l1), (2, .int l2)]) C dX8_lodgers_31 rfl rfl (by decide) rfl ?_
      refine q_goto (tgt := 4) C dX8_lodgers_34 (by decide) ?_
      exact q_sub (lv' := [(0, .ref l0), (1, .ref l1), (2, .int l2), (3, .int (l3 + (1 : Int32)))]) [1, 2, 3, 0] rfl (kc (l2, (l3 + (1 : Int32))) (someI h))
    · have h := ifT c10 h
      refine q_iload_n 2 C dX8_lodgers_25 rfl ?_
      refine q_iconst (v := (1 : Int32)) C dX8_lodgers_26 (by decide) ?_
      refine q_iload_n 3 C dX8_lodgers_27 rfl ?_
      refine q_ishl C dX8_lodgers_28 ?_
      refine q_ior C dX8_lodgers_29 ?_
      obtain ⟨n11, e12, h⟩ := nmE h
      refine q_topI e12 ?_
      refine q_istore_n (i := 2) (lv' := [(2, .int n11), (0, .ref l0), (1, .ref l1), (3, .int l3)]) C dX8_lodgers_30 rfl (by decide) rfl ?_
      refine q_iinc 3 (v := (l3 + (1 : Int32))) (lv' := [(3, .int (l3 + (1 : Int32))), (2, .int n11), (0, .ref l0), (1, .ref l1)]) C dX8_lodgers_31 rfl rfl (by decide) rfl ?_
      refine q_goto (tgt := 4) C dX8_lodgers_34 (by decide) ?_
      exact q_sub (lv' := [(0, .ref l0), (1, .ref l1), (2, .int n11), (3, .int (l3 + (1 : Int32)))]) [2, 3, 1, 0] rfl (kc (n11, (l3 + (1 : Int32))) (someI h))
theorem w_X8_lodgers_l4 {X : CX} {r : Int32} (C : CK X cX8_lodgers 4 RX8 7 140) (hRO : RO X.2.2.1 X.1.2.2.2.2.1 X.1.2.2.2.2.1.heap) (hl : X.1.2.1.stackTraces = false) (l0 : Nat) (l1 : Nat) (M : Mem) (l2 : Int32) (l3 : Int32) (h : loop (fun s => F_X8_lodgers_s4 l0 l1 M s.1 s.2) (l2, l3) = some r) (kx : ∀ e' : Int32, r = e' → wq X 4 37 [(2, .int (e'))] [] M) : wq X 4 4 [(0, .ref l0), (1, .ref l1), (2, .int l2), (3, .int l3)] [] M :=
  loop_ind (P := fun s => wq X 4 4 [(0, .ref l0), (1, .ref l1), (2, .int s.1), (3, .int s.2)] [] M) h (fun s y hy kc kr => w_X8_lodgers_s4 C hRO hl l0 l1 M s.1 s.2 hy kc (fun e' he => kx e' (kr _ he).symm))
set_option maxRecDepth 100000 in
set_option maxHeartbeats 4000000 in
theorem w_X8_lodgers {X : CX} {y : Int32} (C : CK X cX8_lodgers 4 RX8 7 140) (hRO : RO X.2.2.1 X.1.2.2.2.2.1 X.1.2.2.2.2.1.heap) (hl : X.1.2.1.stackTraces = false) (l0 : Nat) (l1 : Nat) (M : Mem) (h : F_X8_lodgers l0 l1 M = some y) (kf : FIN X (some .int) (rs_pI y) M) : wq X 4 0 [(0, .ref l0), (1, .ref l1)] [] M := by
  unfold F_X8_lodgers at h
  refine q_iconst (v := (0 : Int32)) C dX8_lodgers_0 (by decide) ?_
  refine q_istore_n (i := 2) (lv' := [(2, .int (0 : Int32)), (0, .ref l0), (1, .ref l1)]) C dX8_lodgers_1 rfl (by decide) rfl ?_
  refine q_iconst (v := (0 : Int32)) C dX8_lodgers_2 (by decide) ?_
  refine q_istore_n (i := 3) (lv' := [(3, .int (0 : Int32)), (2, .int (0 : Int32)), (0, .ref l0), (1, .ref l1)]) C dX8_lodgers_3 rfl (by decide) rfl ?_
  obtain ⟨x15, e14, h⟩ := bindE h
  refine q_sub (lv' := [(0, .ref l0), (1, .ref l1), (2, .int (0 : Int32)), (3, .int (0 : Int32))]) [2, 3, 1, 0] rfl (w_X8_lodgers_l4 C hRO hl l0 l1 M (0 : Int32) (0 : Int32) e14 (fun r13 he => ?_))
  subst he
  show wq X 4 37 [(2, .int x15)] [] M
  refine q_iload_n 0 C dX8_lodgers_37 rfl ?_
  cases h
  exact q_iret C kf dX8_lodgers_38
theorem k_X8_lodgers (l : Launch) (hl : l.stackTraces = false) (G : GG) (l0 : Nat) (l1 : Nat) (M : Mem) (x : Int32) (h : F_X8_lodgers l0 l1 M = some x) : Ct l G yX8_lodgers (.code yX8_lodgers cX8_lodgers 4 (some .int)) 7 140 [.ref l0, .ref l1] M (rs_pI x) M := by
  refine Ct_of (by decide +kernel) (Nat.le_of_ble_eq_true rfl) fun X e1 e2 e3 C FN hnm => ?_
  subst e1; subst e2
  show wq X 4 0 [(0, .ref l0), (1, .ref l1)] [] M
  exact w_X8_lodgers C FN.2.2.2 hl l0 l1 M h FN
/-! X8_needDays -/
set_option maxRecDepth 100000 in
set_option maxHeartbeats 4000000 in
theorem w_X8_needDays {X : CX} {y : (Mem) ⊕ (Nat × Mem)} (C : CK X cX8_needDays 2 RX8 7 140) (hRO : RO X.2.2.1 X.1.2.2.2.2.1 X.1.2.2.2.2.1.heap) (hl : X.1.2.1.stackTraces = false) (l0 : Int32) (l1 : Int32) (M : Mem) (h : F_X8_needDays l0 l1 M = some y) (kf : FIN X none (rs_tV y) (ms_tV y)) : wq X 2 0 [(0, .int l0), (1, .int l1)] [] M := by
  unfold F_X8_needDays at h
  refine q_iload_n 0 C dX8_needDays_0 rfl ?_
  refine q_iload_n 1 C dX8_needDays_1 rfl ?_
  refine q_icmp_lt (tgt := 11) C dX8_needDays_2 (by decide) (fun c1 => ?_) (fun c1 => ?_)
  · have h := ifT c1 h
    obtain ⟨M2, e3, h⟩ := bindE h
    cases h
    exact q_throwW (e0 := 0) (i := 22) C kf hl (by decide) cl_RX8_97 in_ex0 rfl at_RX8_101 gd_RX8_101 e3 dX8_needDays_11 dX8_needDays_14 dX8_needDays_15 dX8_needDays_18 dX8_needDays_21 (by decide) (Nat.le_of_ble_eq_true rfl)
  · have h := ifF c1 h
    refine q_iload_n 0 C dX8_needDays_5 rfl ?_
    refine q_bipush (v := (40 : Int32)) C dX8_needDays_6 (by decide) ?_
    refine q_icmp_le (tgt := 22) C dX8_needDays_8 (by decide) (fun c4 => ?_) (fun c4 => ?_)
    · have h := ifT c4 h
      cases h
      exact q_vret C kf dX8_needDays_22
    · have h := ifF c4 h
      obtain ⟨M5, e6, h⟩ := bindE h
      cases h
      exact q_throwW (e0 := 0) (i := 22) C kf hl (by decide) cl_RX8_97 in_ex0 rfl at_RX8_101 gd_RX8_101 e6 dX8_needDays_11 dX8_needDays_14 dX8_needDays_15 dX8_needDays_18 dX8_needDays_21 (by decide) (Nat.le_of_ble_eq_true rfl)
theorem k_X8_needDays (l : Launch) (hl : l.stackTraces = false) (G : GG) (l0 : Int32) (l1 : Int32) (M : Mem) (x : (Mem) ⊕ (Nat × Mem)) (h : F_X8_needDays l0 l1 M = some x) : Ct l G yX8_needDays (.code yX8_needDays cX8_needDays 2 none) 7 140 [.int l0, .int l1] M (rs_tV x) (ms_tV x) := by
  refine Ct_of (by decide +kernel) (Nat.le_of_ble_eq_true rfl) fun X e1 e2 e3 C FN hnm => ?_
  subst e1; subst e2
  show wq X 2 0 [(0, .int l0), (1, .int l1)] [] M
  exact w_X8_needDays C FN.2.2.2 hl l0 l1 M h FN
/-! X8_barefoot -/
set_option maxRecDepth 100000 in
set_option maxHeartbeats 4000000 in
theorem w_X8_barefoot {X : CX} {y : (Int32 × Mem) ⊕ (Nat × Mem)} (C : CK X cX8_barefoot 2 RX8 13 281) (hRO : RO X.2.2.1 X.1.2.2.2.2.1 X.1.2.2.2.2.1.heap) (hl : X.1.2.1.stackTraces = false) (l0 : Nat) (l1 : Int32) (M : Mem) (h : F_X8_barefoot l0 l1 M = some y) (kf : FIN X (some .int) (rs_tI y) (ms_tI y)) : wq X 2 0 [(0, .ref l0), (1, .int l1)] [] M := by
  unfold F_X8_barefoot at h
  refine q_iload_n 1 C dX8_barefoot_0 rfl ?_
  refine q_iconst (v := (0 : Int32)) C dX8_barefoot_1 (by decide) ?_
  rcases bdVE h with ⟨M2, e1, h⟩ | ⟨x11, M12, e1, h⟩
  · refine q_callS (v := none) [.int l1, .int (0 : Int32)] C hRO lk_RX8_280 sk_X8_needDays rfl rfl (Nat.le_of_ble_eq_true rfl) (by decide) (by decide) dX8_barefoot_2 (k_X8_needDays X.1.2.1 hl X.2.2.1 l1 (0 : Int32) M _ e1) ?_
    refine q_aload_n 0 C dX8_barefoot_5 rfl ?_
    refine q_aload_n 0 C dX8_barefoot_6 rfl ?_
    refine q_iload_n 1 C dX8_barefoot_7 rfl ?_
    obtain ⟨e4, h⟩ := ckOE h
    obtain ⟨v7, M6, e5, h⟩ := bd2E h
    refine q_callV (v := some (.ref v7)) [.int l1] C hRO lk_RX8_283 vk_X8_after e4 rfl rfl rfl (Nat.le_of_ble_eq_true rfl) (by decide) (by decide) dX8_barefoot_8 (k_X8_after X.1.2.1 hl X.2.2.1 l0 l1 M2 _ e5) ?_
    obtain ⟨e8, h⟩ := ckOE h
    obtain ⟨v10, e9, h⟩ := bindE h
    refine q_callV (v := some (.int v10)) [.ref v7] C hRO lk_RX8_138 vk_X8_lodgers e8 rfl rfl rfl (Nat.le_of_ble_eq_true rfl) (by decide) (by decide) dX8_barefoot_11 (k_X8_lodgers X.1.2.1 hl X.2.2.1 l0 v7 M6 _ e9) ?_
    cases h
    exact q_iret C kf dX8_barefoot_14
  · skip
    cases h
    exact q_callSX [.int l1, .int (0 : Int32)] C kf lk_RX8_280 sk_X8_needDays rfl rfl (Nat.le_of_ble_eq_true rfl) (by decide) (by decide) dX8_barefoot_2 (k_X8_needDays X.1.2.1 hl X.2.2.1 l1 (0 : Int32) M _ e1)
theorem k_X8_barefoot (l : Launch) (hl : l.stackTraces = false) (G : GG) (l0 : Nat) (l1 : Int32) (M : Mem) (x : (Int32 × Mem) ⊕ (Nat × Mem)) (h : F_X8_barefoot l0 l1 M = some x) : Ct l G yX8_barefoot (.code yX8_barefoot cX8_barefoot 2 (some .int)) 13 281 [.ref l0, .int l1] M (rs_tI x) (ms_tI x) := by
  refine Ct_of (by decide +kernel) (Nat.le_of_ble_eq_true rfl) fun X e1 e2 e3 C FN hnm => ?_
  subst e1; subst e2
  show wq X 2 0 [(0, .ref l0), (1, .int l1)] [] M
  exact w_X8_barefoot C FN.2.2.2 hl l0 l1 M h FN
/-! X8_daysTillBurst -/
set_option maxRecDepth 100000 in
set_option maxHeartbeats 4000000 in
theorem w_X8_daysTillBurst_s2 {X : CX} {y : (Int32 × Mem) ⊕ ((Mem) ⊕ (Int32 × Mem))} (C : CK X cX8_daysTillBurst 3 RX8 11 238) (hRO : RO X.2.2.1 X.1.2.2.2.2.1 X.1.2.2.2.2.1.heap) (hl : X.1.2.1.stackTraces = false) (l0 : Nat) (l1 : Int32) (l2 : Int32) (M : Mem) (h : F_X8_daysTillBurst_s2 l0 l1 l2 M = some y) (kc : ∀ s' : Int32 × Mem, y = .inl s' → wq X 3 2 [(0, .ref l0), (1, .int l1), (2, .int (s'.1))] [] s'.2) (kx : ∀ e' : Mem, y = (.inr (.inl e')) → wq X 3 50 [] [] e') (kf : ∀ f' : Int32 × Mem, y = (.inr (.inr f')) → FIN X (some .int) (rs_mI f') (ms_mI f')) : wq X 3 2 [(0, .ref l0), (1, .int l1), (2, .int l2)] [] M := by
  unfold F_X8_daysTillBurst_s2 at h
  refine q_iload_n 2 C dX8_daysTillBurst_2 rfl ?_
  refine q_bipush (v := (40 : Int32)) C dX8_daysTillBurst_3 (by decide) ?_
  refine q_icmp_gt (tgt := 50) C dX8_daysTillBurst_5 (by decide) (fun c1 => ?_) (fun c1 => ?_)
  · have h := ifT c1 h
    exact q_sub (lv' := []) [] rfl (kx M (someI h))
  · have h := ifF c1 h
    refine q_aload_n 0 C dX8_daysTillBurst_8 rfl ?_
    obtain ⟨v2, e3, h⟩ := bindE h
    refine q_getP C fl_RX8_37 rfl e3 dX8_daysTillBurst_9 ?_
    refine q_iload_n 1 C dX8_daysTillBurst_12 rfl ?_
    obtain ⟨e4, h⟩ := ckOE h
    obtain ⟨v6, e5, h⟩ := bindE h
    refine q_callV (v := some (.int v6)) [.int l1] C hRO lk_RX8_200 vk_X6_isBurst e4 rfl rfl rfl (Nat.le_of_ble_eq_true rfl) (by decide) (by decide) dX8_daysTillBurst_13 (k_X6_isBurst X.1.2.1 hl X.2.2.1 v2 l1 M _ e5) ?_
    refine q_if_eq (tgt := 21) C dX8_daysTillBurst_16 (by decide) (fun c7 => ?_) (fun c7 => ?_)
    · have h := ifT c7 h
      refine q_aload_n 0 C dX8_daysTillBurst_21 rfl ?_
      obtain ⟨v8, e9, h⟩ := bindE h
      refine q_getP C fl_RX8_23 rfl e9 dX8_daysTillBurst_22 ?_
      refine q_aload_n 0 C dX8_daysTillBurst_25 rfl ?_
      obtain ⟨v10, e11, h⟩ := bindE h
      refine q_getP C fl_RX8_37 rfl e11 dX8_daysTillBurst_26 ?_
      refine q_iload_n 1 C dX8_daysTillBurst_29 rfl ?_
      refine q_aload_n 0 C dX8_daysTillBurst_30 rfl ?_
      obtain ⟨v12, e13, h⟩ := bindE h
      refine q_getP C fl_RX8_23 rfl e13 dX8_daysTillBurst_31 ?_
      refine q_aload_n 0 C dX8_daysTillBurst_34 rfl ?_
      obtain ⟨v14, e15, h⟩ := bindE h
      refine q_getP C fl_RX8_37 rfl e15 dX8_daysTillBurst_35 ?_
      obtain ⟨e16, h⟩ := ckOE h
      obtain ⟨v18, e17, h⟩ := bindE h
      refine q_callV (v := some (.int v18)) [.ref v14] C hRO lk_RX8_128 vk_X2_dampOf e16 rfl rfl rfl (Nat.le_of_ble_eq_true rfl) (by decide) (by decide) dX8_daysTillBurst_38 (k_X2_dampOf X.1.2.1 hl X.2.2.1 v12 v14 M _ e17) ?_
      obtain ⟨e19, h⟩ := ckOE h
      obtain ⟨M21, e20, h⟩ := bindE h
      refine q_callV (v := none) [.ref v10, .int l1, .int v18] C hRO lk_RX8_290 vk_X2_passAlone e19 rfl rfl rfl (Nat.le_of_ble_eq_true rfl) (by decide) (by decide) dX8_daysTillBurst_41 (k_X2_passAlone X.1.2.1 hl X.2.2.1 v8 v10 l1 v18 M _ e20) ?_
      refine q_iinc 2 (v := (l2 + (1 : Int32))) (lv' := [(2, .int (l2 + (1 : Int32))), (0, .ref l0), (1, .int l1)]) C dX8_daysTillBurst_44 rfl rfl (by decide) rfl ?_
      refine q_goto (tgt := 2) C dX8_daysTillBurst_47 (by decide) ?_
      exact q_sub (lv' := [(0, .ref l0), (1, .int l1), (2, .int (l2 + (1 : Int32)))]) [1, 2, 0] rfl (kc ((l2 + (1 : Int32)), M21) (someI h))
    · have h := ifF c7 h
      refine q_iload_n 2 C dX8_daysTillBurst_19 rfl ?_
      exact q_iret C (kf _ (someI h)) dX8_daysTillBurst_20
theorem w_X8_daysTillBurst_l2 {X : CX} {r : (Mem) ⊕ (Int32 × Mem)} (C : CK X cX8_daysTillBurst 3 RX8 11 238) (hRO : RO X.2.2.1 X.1.2.2.2.2.1 X.1.2.2.2.2.1.heap) (hl : X.1.2.1.stackTraces = false) (l0 : Nat) (l1 : Int32) (l2 : Int32) (M : Mem) (h : loop (fun s => F_X8_daysTillBurst_s2 l0 l1 s.1 s.2) (l2, M) = some r) (kx : ∀ e' : Mem, r = .inl e' → wq X 3 50 [] [] e') (kf : ∀ f' : Int32 × Mem, r = .inr f' → FIN X (some .int) (rs_mI f') (ms_mI f')) : wq X 3 2 [(0, .ref l0), (1, .int l1), (2, .int l2)] [] M :=
  loop_ind (P := fun s => wq X 3 2 [(0, .ref l0), (1, .int l1), (2, .int s.1)] [] s.2) h (fun s y hy kc kr => w_X8_daysTillBurst_s2 C hRO hl l0 l1 s.1 s.2 hy kc (fun e' he => kx e' (kr _ he).symm) (fun f' he => kf f' (kr _ he).symm))
set_option maxRecDepth 100000 in
set_option maxHeartbeats 4000000 in
theorem w_X8_daysTillBurst {X : CX} {y : Int32 × Mem} (C : CK X cX8_daysTillBurst 3 RX8 11 238) (hRO : RO X.2.2.1 X.1.2.2.2.2.1 X.1.2.2.2.2.1.heap) (hl : X.1.2.1.stackTraces = false) (l0 : Nat) (l1 : Int32) (M : Mem) (h : F_X8_daysTillBurst l0 l1 M = some y) (kf : FIN X (some .int) (rs_mI y) (ms_mI y)) : wq X 3 0 [(0, .ref l0), (1, .int l1)] [] M := by
  unfold F_X8_daysTillBurst at h
  refine q_iconst (v := (0 : Int32)) C dX8_daysTillBurst_0 (by decide) ?_
  refine q_istore_n (i := 2) (lv' := [(2, .int (0 : Int32)), (0, .ref l0), (1, .int l1)]) C dX8_daysTillBurst_1 rfl (by decide) rfl ?_
  obtain ⟨r23, e24, h⟩ := bindE h
  refine q_sub (lv' := [(0, .ref l0), (1, .int l1), (2, .int (0 : Int32))]) [1, 2, 0] rfl (w_X8_daysTillBurst_l2 C hRO hl l0 l1 (0 : Int32) M e24 (fun M25 he => ?_) (fun f27 he => ?_))
  · subst he
    have h := elimL h
    show wq X 3 50 [] [] M25
    refine q_iconst (v := (-1 : Int32)) C dX8_daysTillBurst_50 (by decide) ?_
    cases h
    exact q_iret C kf dX8_daysTillBurst_51
  · subst he
    have h := elimR h
    cases h
    exact kf
theorem k_X8_daysTillBurst (l : Launch) (hl : l.stackTraces = false) (G : GG) (l0 : Nat) (l1 : Int32) (M : Mem) (x : Int32 × Mem) (h : F_X8_daysTillBurst l0 l1 M = some x) : Ct l G yX8_daysTillBurst (.code yX8_daysTillBurst cX8_daysTillBurst 3 (some .int)) 11 238 [.ref l0, .int l1] M (rs_mI x) (ms_mI x) := by
  refine Ct_of (by decide +kernel) (Nat.le_of_ble_eq_true rfl) fun X e1 e2 e3 C FN hnm => ?_
  subst e1; subst e2
  show wq X 3 0 [(0, .ref l0), (1, .int l1)] [] M
  exact w_X8_daysTillBurst C FN.2.2.2 hl l0 l1 M h FN
/-! X8_needHouse -/
set_option maxRecDepth 100000 in
set_option maxHeartbeats 4000000 in
theorem w_X8_needHouse {X : CX} {y : (Mem) ⊕ (Nat × Mem)} (C : CK X cX8_needHouse 2 RX8 7 140) (hRO : RO X.2.2.1 X.1.2.2.2.2.1 X.1.2.2.2.2.1.heap) (hl : X.1.2.1.stackTraces = false) (l0 : Nat) (l1 : Int32) (M : Mem) (h : F_X8_needHouse l0 l1 M = some y) (kf : FIN X none (rs_tV y) (ms_tV y)) : wq X 2 0 [(0, .ref l0), (1, .int l1)] [] M := by
  unfold F_X8_needHouse at h
  refine q_iload_n 1 C dX8_needHouse_0 rfl ?_
  refine q_if_lt (tgt := 15) C dX8_needHouse_1 (by decide) (fun c1 => ?_) (fun c1 => ?_)
  · have h := ifT c1 h
    obtain ⟨M2, e3, h⟩ := bindE h
    cases h
    exact q_throwNW (e0 := 1) (i := 17) C kf hl (by decide) cl_RX8_154 in_ex1 rfl at_RX8_158 gd_RX8_158 e3 dX8_needHouse_15 dX8_needHouse_18 dX8_needHouse_19 dX8_needHouse_22 dX8_needHouse_25 (by decide) (Nat.le_of_ble_eq_true rfl)
  · have h := ifF c1 h
    refine q_iload_n 1 C dX8_needHouse_4 rfl ?_
    refine q_aload_n 0 C dX8_needHouse_5 rfl ?_
    obtain ⟨v4, e5, h⟩ := bindE h
    refine q_getP C fl_RX8_23 rfl e5 dX8_needHouse_6 ?_
    obtain ⟨v6, e7, h⟩ := bindE h
    refine q_getI C fl_RX8_119 rfl e7 dX8_needHouse_9 ?_
    refine q_icmp_lt (tgt := 26) C dX8_needHouse_12 (by decide) (fun c8 => ?_) (fun c8 => ?_)
    · have h := ifT c8 h
      cases h
      exact q_vret C kf dX8_needHouse_26
    · have h := ifF c8 h
      obtain ⟨M9, e10, h⟩ := bindE h
      cases h
      exact q_throwNW (e0 := 1) (i := 17) C kf hl (by decide) cl_RX8_154 in_ex1 rfl at_RX8_158 gd_RX8_158 e10 dX8_needHouse_15 dX8_needHouse_18 dX8_needHouse_19 dX8_needHouse_22 dX8_needHouse_25 (by decide) (Nat.le_of_ble_eq_true rfl)
theorem k_X8_needHouse (l : Launch) (hl : l.stackTraces = false) (G : GG) (l0 : Nat) (l1 : Int32) (M : Mem) (x : (Mem) ⊕ (Nat × Mem)) (h : F_X8_needHouse l0 l1 M = some x) : Ct l G yX8_needHouse (.code yX8_needHouse cX8_needHouse 2 none) 7 140 [.ref l0, .int l1] M (rs_tV x) (ms_tV x) := by
  refine Ct_of (by decide +kernel) (Nat.le_of_ble_eq_true rfl) fun X e1 e2 e3 C FN hnm => ?_
  subst e1; subst e2
  show wq X 2 0 [(0, .ref l0), (1, .int l1)] [] M
  exact w_X8_needHouse C FN.2.2.2 hl l0 l1 M h FN
/-! X8_burst -/
set_option maxRecDepth 100000 in
set_option maxHeartbeats 4000000 in
theorem w_X8_burst {X : CX} {y : (Int32 × Mem) ⊕ (Nat × Mem)} (C : CK X cX8_burst 2 RX8 12 260) (hRO : RO X.2.2.1 X.1.2.2.2.2.1 X.1.2.2.2.2.1.heap) (hl : X.1.2.1.stackTraces = false) (l0 : Nat) (l1 : Int32) (M : Mem) (h : F_X8_burst l0 l1 M = some y) (kf : FIN X (some .int) (rs_tI y) (ms_tI y)) : wq X 2 0 [(0, .ref l0), (1, .int l1)] [] M := by
  unfold F_X8_burst at h
  refine q_aload_n 0 C dX8_burst_0 rfl ?_
  refine q_iload_n 1 C dX8_burst_1 rfl ?_
  obtain ⟨e1, h⟩ := ckOE h
  rcases bdVE h with ⟨M3, e2, h⟩ | ⟨x17, M18, e2, h⟩
  · refine q_callV (v := none) [.int l1] C hRO lk_RX8_186 vk_X8_needHouse e1 rfl rfl rfl (Nat.le_of_ble_eq_true rfl) (by decide) (by decide) dX8_burst_2 (k_X8_needHouse X.1.2.1 hl X.2.2.1 l0 l1 M _ e2) ?_
    refine q_aload_n 0 C dX8_burst_5 rfl ?_
    obtain ⟨v5, e6, h⟩ := bindE h
    refine q_getP C fl_RX8_37 rfl e6 dX8_burst_6 ?_
    refine q_aload_n 0 C dX8_burst_9 rfl ?_
    obtain ⟨v7, e8, h⟩ := bindE h
    refine q_getP C fl_RX8_33 rfl e8 dX8_burst_10 ?_
    obtain ⟨e9, h⟩ := ckOE h
    obtain ⟨M11, e10, h⟩ := bindE h
    refine q_callV (v := none) [.ref v7] C hRO lk_RX8_274 vk_X6_copy e9 rfl rfl rfl (Nat.le_of_ble_eq_true rfl) (by decide) (by decide) dX8_burst_13 (k_X6_copy X.1.2.1 hl X.2.2.1 v5 v7 M3 _ e10) ?_
    refine q_aload_n 0 C dX8_burst_16 rfl ?_
    refine q_iload_n 1 C dX8_burst_17 rfl ?_
    obtain ⟨e13, h⟩ := ckOE h
    obtain ⟨v16, M15, e14, h⟩ := bd2E h
    refine q_callV (v := some (.int v16)) [.int l1] C hRO lk_RX8_287 vk_X8_daysTillBurst e13 rfl rfl rfl (Nat.le_of_ble_eq_true rfl) (by decide) (by decide) dX8_burst_18 (k_X8_daysTillBurst X.1.2.1 hl X.2.2.1 l0 l1 M11 _ e14) ?_
    cases h
    exact q_iret C kf dX8_burst_21
  · skip
    cases h
    exact q_callVX [.int l1] C kf lk_RX8_186 vk_X8_needHouse e1 rfl rfl rfl (Nat.le_of_ble_eq_true rfl) (by decide) (by decide) dX8_burst_2 (k_X8_needHouse X.1.2.1 hl X.2.2.1 l0 l1 M _ e2)
theorem k_X8_burst (l : Launch) (hl : l.stackTraces = false) (G : GG) (l0 : Nat) (l1 : Int32) (M : Mem) (x : (Int32 × Mem) ⊕ (Nat × Mem)) (h : F_X8_burst l0 l1 M = some x) : Ct l G yX8_burst (.code yX8_burst cX8_burst 2 (some .int)) 12 260 [.ref l0, .int l1] M (rs_tI x) (ms_tI x) := by
  refine Ct_of (by decide +kernel) (Nat.le_of_ble_eq_true rfl) fun X e1 e2 e3 C FN hnm => ?_
  subst e1; subst e2
  show wq X 2 0 [(0, .ref l0), (1, .int l1)] [] M
  exact w_X8_burst C FN.2.2.2 hl l0 l1 M h FN
/-! X8_burstsByDamps -/
set_option maxRecDepth 100000 in
set_option maxHeartbeats 4000000 in
theorem w_X8_burstsByDamps_s14 {X : CX} {y : (Int32 × Mem) ⊕ (Mem)} (C : CK X cX8_burstsByDamps 5 RX8 11 238) (hRO : RO X.2.2.1 X.1.2.2.2.2.1 X.1.2.2.2.2.1.heap) (hl : X.1.2.1.stackTraces = false) (l0 : Nat) (l1 : Int32) (l2 : Int32) (l3 : Int32) (l4 : Int32) (M : Mem) (h : F_X8_burstsByDamps_s14 l0 l1 l2 l3 l4 M = some y) (kc : ∀ s' : Int32 × Mem, y = .inl s' → wq X 5 14 [(0, .ref l0), (1, .int l1), (2, .int l2), (3, .int l3), (4, .int (s'.1))] [] s'.2) (kx : ∀ e' : Mem, y = (.inr e') → wq X 5 54 [(0, .ref l0), (1, .int l1)] [] e') : wq X 5 14 [(0, .ref l0), (1, .int l1), (2, .int l2), (3, .int l3), (4, .int l4)] [] M := by
  unfold F_X8_burstsByDamps_s14 at h
  refine q_iload 4 C dX8_burstsByDamps_14 rfl ?_
  refine q_iload_n 2 C dX8_burstsByDamps_16 rfl ?_
  refine q_icmp_ge (tgt := 54) C dX8_burstsByDamps_17 (by decide) (fun c9 => ?_) (fun c9 => ?_)
  · have h := ifT c9 h
    exact q_sub (lv' := [(0, .ref l0), (1, .int l1)]) [0, 1] rfl (kx M (someI h))
  · have h := ifF c9 h
    refine q_aload_n 0 C dX8_burstsByDamps_20 rfl ?_
    obtain ⟨v10, e11, h⟩ := bindE h
    refine q_getP C fl_RX8_23 rfl e11 dX8_burstsByDamps_21 ?_
    refine q_aload_n 0 C dX8_burstsByDamps_24 rfl ?_
    obtain ⟨v12, e13, h⟩ := bindE h
    refine q_getP C fl_RX8_37 rfl e13 dX8_burstsByDamps_25 ?_
    refine q_iload_n 1 C dX8_burstsByDamps_28 rfl ?_
    refine q_iload_n 3 C dX8_burstsByDamps_29 rfl ?_
    refine q_iload 4 C dX8_burstsByDamps_30 rfl ?_
    refine q_ishr C dX8_burstsByDamps_32 ?_
    refine q_iconst (v := (1 : Int32)) C dX8_burstsByDamps_33 (by decide) ?_
    refine q_iand C dX8_burstsByDamps_34 ?_
    refine q_iconst (v := (1 : Int32)) C dX8_burstsByDamps_35 (by decide) ?_
    refine q_icmp_ne (tgt := 44) C dX8_burstsByDamps_36 (by decide) (fun c14 => ?_) (fun c14 => ?_)
    · have h := ifF c14 h
      refine q_iconst (v := (0 : Int32)) C dX8_burstsByDamps_44 (by decide) ?_
      obtain ⟨e15, h⟩ := ckOE h
      obtain ⟨M17, e16, h⟩ := bindE h
      refine q_callV (v := none) [.ref v12, .int l1, .int (0 : Int32)] C hRO lk_RX8_290 vk_X2_passAlone e15 rfl rfl rfl (Nat.le_of_ble_eq_true rfl) (by decide) (by decide) dX8_burstsByDamps_45 (k_X2_passAlone X.1.2.1 hl X.2.2.1 v10 v12 l1 (0 : Int32) M _ e16) ?_
      refine q_iinc 4 (v := (l4 + (1 : Int32))) (lv' := [(4, .int (l4 + (1 : Int32))), (0, .ref l0), (1, .int l1), (2, .int l2), (3, .int l3)]) C dX8_burstsByDamps_48 rfl rfl (by decide) rfl ?_
      refine q_goto (tgt := 14) C dX8_burstsByDamps_51 (by decide) ?_
      exact q_sub (lv' := [(0, .ref l0), (1, .int l1), (2, .int l2), (3, .int l3), (4, .int (l4 + (1 : Int32)))]) [1, 2, 3, 4, 0] rfl (kc ((l4 + (1 : Int32)), M17) (someI h))
    · have h := ifT c14 h
      refine q_bipush (v := (9 : Int32)) C dX8_burstsByDamps_39 (by decide) ?_
      refine q_goto (tgt := 45) C dX8_burstsByDamps_41 (by decide) ?_
      obtain ⟨e19, h⟩ := ckOE h
      obtain ⟨M21, e20, h⟩ := bindE h
      refine q_callV (v := none) [.ref v12, .int l1, .int (9 : Int32)] C hRO lk_RX8_290 vk_X2_passAlone e19 rfl rfl rfl (Nat.le_of_ble_eq_true rfl) (by decide) (by decide) dX8_burstsByDamps_45 (k_X2_passAlone X.1.2.1 hl X.2.2.1 v10 v12 l1 (9 : Int32) M _ e20) ?_
      refine q_iinc 4 (v := (l4 + (1 : Int32))) (lv' := [(4, .int (l4 + (1 : Int32))), (0, .ref l0), (1, .int l1), (2, .int l2), (3, .int l3)]) C dX8_burstsByDamps_48 rfl rfl (by decide) rfl ?_
      refine q_goto (tgt := 14) C dX8_burstsByDamps_51 (by decide) ?_
      exact q_sub (lv' := [(0, .ref l0), (1, .int l1), (2, .int l2), (3, .int l3), (4, .int (l4 + (1 : Int32)))]) [1, 2, 3, 4, 0] rfl (kc ((l4 + (1 : Int32)), M21) (someI h))
theorem w_X8_burstsByDamps_l14 {X : CX} {r : Mem} (C : CK X cX8_burstsByDamps 5 RX8 11 238) (hRO : RO X.2.2.1 X.1.2.2.2.2.1 X.1.2.2.2.2.1.heap) (hl : X.1.2.1.stackTraces = false) (l0 : Nat) (l1 : Int32) (l2 : Int32) (l3 : Int32) (l4 : Int32) (M : Mem) (h : loop (fun s => F_X8_burstsByDamps_s14 l0 l1 l2 l3 s.1 s.2) (l4, M) = some r) (kx : ∀ e' : Mem, r = e' → wq X 5 54 [(0, .ref l0), (1, .int l1)] [] e') : wq X 5 14 [(0, .ref l0), (1, .int l1), (2, .int l2), (3, .int l3), (4, .int l4)] [] M :=
  loop_ind (P := fun s => wq X 5 14 [(0, .ref l0), (1, .int l1), (2, .int l2), (3, .int l3), (4, .int s.1)] [] s.2) h (fun s y hy kc kr => w_X8_burstsByDamps_s14 C hRO hl l0 l1 l2 l3 s.1 s.2 hy kc (fun e' he => kx e' (kr _ he).symm))
set_option maxRecDepth 100000 in
set_option maxHeartbeats 4000000 in
theorem w_X8_burstsByDamps {X : CX} {y : Int32 × Mem} (C : CK X cX8_burstsByDamps 5 RX8 11 238) (hRO : RO X.2.2.1 X.1.2.2.2.2.1 X.1.2.2.2.2.1.heap) (hl : X.1.2.1.stackTraces = false) (l0 : Nat) (l1 : Int32) (l2 : Int32) (l3 : Int32) (M : Mem) (h : F_X8_burstsByDamps l0 l1 l2 l3 M = some y) (kf : FIN X (some .boolean) (rs_mI y) (ms_mI y)) : wq X 5 0 [(0, .ref l0), (1, .int l1), (2, .int l2), (3, .int l3)] [] M := by
  unfold F_X8_burstsByDamps at h
  refine q_aload_n 0 C dX8_burstsByDamps_0 rfl ?_
  obtain ⟨v1, e2, h⟩ := bindE h
  refine q_getP C fl_RX8_37 rfl e2 dX8_burstsByDamps_1 ?_
  refine q_aload_n 0 C dX8_burstsByDamps_4 rfl ?_
  obtain ⟨v3, e4, h⟩ := bindE h
  refine q_getP C fl_RX8_33 rfl e4 dX8_burstsByDamps_5 ?_
  obtain ⟨e5, h⟩ := ckOE h
  obtain ⟨M7, e6, h⟩ := bindE h
  refine q_callV (v := none) [.ref v3] C hRO lk_RX8_274 vk_X6_copy e5 rfl rfl rfl (Nat.le_of_ble_eq_true rfl) (by decide) (by decide) dX8_burstsByDamps_8 (k_X6_copy X.1.2.1 hl X.2.2.1 v1 v3 M _ e6) ?_
  refine q_iconst (v := (0 : Int32)) C dX8_burstsByDamps_11 (by decide) ?_
  refine q_istore (i := 4) (lv' := [(4, .int (0 : Int32)), (0, .ref l0), (1, .int l1), (2, .int l2), (3, .int l3)]) C dX8_burstsByDamps_12 (by decide) rfl ?_
  obtain ⟨M25, e24, h⟩ := bindE h
  refine q_sub (lv' := [(0, .ref l0), (1, .int l1), (2, .int l2), (3, .int l3), (4, .int (0 : Int32))]) [1, 2, 3, 4, 0] rfl (w_X8_burstsByDamps_l14 C hRO hl l0 l1 l2 l3 (0 : Int32) M7 e24 (fun r23 he => ?_))
  subst he
  show wq X 5 54 [(0, .ref l0), (1, .int l1)] [] M25
  refine q_aload_n 0 C dX8_burstsByDamps_54 rfl ?_
  obtain ⟨v26, e27, h⟩ := bindE h
  refine q_getP C fl_RX8_37 rfl e27 dX8_burstsByDamps_55 ?_
  refine q_iload_n 1 C dX8_burstsByDamps_58 rfl ?_
  obtain ⟨e28, h⟩ := ckOE h
  obtain ⟨v30, e29, h⟩ := bindE h
  refine q_callV (v := some (.int v30)) [.int l1] C hRO lk_RX8_200 vk_X6_isBurst e28 rfl rfl rfl (Nat.le_of_ble_eq_true rfl) (by decide) (by decide) dX8_burstsByDamps_59 (k_X6_isBurst X.1.2.1 hl X.2.2.1 v26 l1 M25 _ e29) ?_
  cases h
  exact q_zretE (w := (nz v30)) rfl C kf dX8_burstsByDamps_62
theorem k_X8_burstsByDamps (l : Launch) (hl : l.stackTraces = false) (G : GG) (l0 : Nat) (l1 : Int32) (l2 : Int32) (l3 : Int32) (M : Mem) (x : Int32 × Mem) (h : F_X8_burstsByDamps l0 l1 l2 l3 M = some x) : Ct l G yX8_burstsByDamps (.code yX8_burstsByDamps cX8_burstsByDamps 5 (some .boolean)) 11 238 [.ref l0, .int l1, .int l2, .int l3] M (rs_mI x) (ms_mI x) := by
  refine Ct_of (by decide +kernel) (Nat.le_of_ble_eq_true rfl) fun X e1 e2 e3 C FN hnm => ?_
  subst e1; subst e2
  show wq X 5 0 [(0, .ref l0), (1, .int l1), (2, .int l2), (3, .int l3)] [] M
  exact w_X8_burstsByDamps C FN.2.2.2 hl l0 l1 l2 l3 M h FN
/-! X8_weight -/
set_option maxRecDepth 100000 in
set_option maxHeartbeats 4000000 in
theorem w_X8_weight_s5 {X : CX} {y : (Int32 × Int32) ⊕ (Int32)} (C : CK X cX8_weight 5 RX8 7 140) (hRO : RO X.2.2.1 X.1.2.2.2.2.1 X.1.2.2.2.2.1.heap) (hl : X.1.2.1.stackTraces = false) (l0 : Int32) (l1 : Int32) (l2 : Int32) (M : Mem) (l3 : Int32) (l4 : Int32) (h : F_X8_weight_s5 l0 l1 l2 M l3 l4 = some y) (kc : ∀ s' : Int32 × Int32, y = .inl s' → wq X 5 5 [(0, .int l0), (1, .int l1), (2, .int l2), (3, .int (s'.1)), (4, .int (s'.2))] [] M) (kx : ∀ e' : Int32, y = (.inr e') → wq X 5 38 [(3, .int (e'))] [] M) : wq X 5 5 [(0, .int l0), (1, .int l1), (2, .int l2), (3, .int l3), (4, .int l4)] [] M := by
  unfold F_X8_weight_s5 at h
  refine q_iload 4 C dX8_weight_5 rfl ?_
  refine q_iload_n 0 C dX8_weight_7 rfl ?_
  refine q_icmp_ge (tgt := 38) C dX8_weight_8 (by decide) (fun c1 => ?_) (fun c1 => ?_)
  · have h := ifT c1 h
    exact q_sub (lv' := [(3, .int l3)]) [3] rfl (kx l3 (someI h))
  · have h := ifF c1 h
    refine q_iload_n 3 C dX8_weight_11 rfl ?_
    refine q_iload_n 1 C dX8_weight_12 rfl ?_
    refine q_iload 4 C dX8_weight_13 rfl ?_
    refine q_ishr C dX8_weight_15 ?_
    refine q_iconst (v := (1 : Int32)) C dX8_weight_16 (by decide) ?_
    refine q_iand C dX8_weight_17 ?_
    refine q_iconst (v := (1 : Int32)) C dX8_weight_18 (by decide) ?_
    refine q_icmp_ne (tgt := 26) C dX8_weight_19 (by decide) (fun c2 => ?_) (fun c2 => ?_)
    · have h := ifF c2 h
      refine q_bipush (v := (10 : Int32)) C dX8_weight_26 (by decide) ?_
      refine q_iload_n 2 C dX8_weight_28 rfl ?_
      refine q_isub C dX8_weight_29 ?_
      refine q_imul C dX8_weight_30 ?_
      obtain ⟨n3, e4, h⟩ := nmE h
      refine q_topI e4 ?_
      refine q_istore_n (i := 3) (lv' := [(3, .int n3), (0, .int l0), (1, .int l1), (2, .int l2), (4, .int l4)]) C dX8_weight_31 rfl (by decide) rfl ?_
      refine q_iinc 4 (v := (l4 + (1 : Int32))) (lv' := [(4, .int (l4 + (1 : Int32))), (3, .int n3), (0, .int l0), (1, .int l1), (2, .int l2)]) C dX8_weight_32 rfl rfl (by decide) rfl ?_
      refine q_goto (tgt := 5) C dX8_weight_35 (by decide) ?_
      exact q_sub (lv' := [(0, .int l0), (1, .int l1), (2, .int l2), (3, .int n3), (4, .int (l4 + (1 : Int32)))]) [2, 3, 4, 1, 0] rfl (kc (n3, (l4 + (1 : Int32))) (someI h))
    · have h := ifT c2 h
      refine q_iload_n 2 C dX8_weight_22 rfl ?_
      refine q_goto (tgt := 30) C dX8_weight_23 (by decide) ?_
      refine q_imul C dX8_weight_30 ?_
      refine q_istore_n (i := 3) (lv' := [(3, .int (l3 * l2)), (0, .int l0), (1, .int l1), (2, .int l2), (4, .int l4)]) C dX8_weight_31 rfl (by decide) rfl ?_
      refine q_iinc 4 (v := (l4 + (1 : Int32))) (lv' := [(4, .int (l4 + (1 : Int32))), (3, .int (l3 * l2)), (0, .int l0), (1, .int l1), (2, .int l2)]) C dX8_weight_32 rfl rfl (by decide) rfl ?_
      refine q_goto (tgt := 5) C dX8_weight_35 (by decide) ?_
      exact q_sub (lv' := [(0, .int l0), (1, .int l1), (2, .int l2), (3, .int (l3 * l2)), (4, .int (l4 + (1 : Int32)))]) [2, 3, 4, 1, 0] rfl (kc ((l3 * l2), (l4 + (1 : Int32))) (someI h))
theorem w_X8_weight_l5 {X : CX} {r : Int32} (C : CK X cX8_weight 5 RX8 7 140) (hRO : RO X.2.2.1 X.1.2.2.2.2.1 X.1.2.2.2.2.1.heap) (hl : X.1.2.1.stackTraces = false) (l0 : Int32) (l1 : Int32) (l2 : Int32) (M : Mem) (l3 : Int32) (l4 : Int32) (h : loop (fun s => F_X8_weight_s5 l0 l1 l2 M s.1 s.2) (l3, l4) = some r) (kx : ∀ e' : Int32, r = e' → wq X 5 38 [(3, .int (e'))] [] M) : wq X 5 5 [(0, .int l0), (1, .int l1), (2, .int l2), (3, .int l3), (4, .int l4)] [] M :=
  loop_ind (P := fun s => wq X 5 5 [(0, .int l0), (1, .int l1), (2, .int l2), (3, .int s.1), (4, .int s.2)] [] M) h (fun s y hy kc kr => w_X8_weight_s5 C hRO hl l0 l1 l2 M s.1 s.2 hy kc (fun e' he => kx e' (kr _ he).symm))
set_option maxRecDepth 100000 in
set_option maxHeartbeats 4000000 in
theorem w_X8_weight {X : CX} {y : Int32} (C : CK X cX8_weight 5 RX8 7 140) (hRO : RO X.2.2.1 X.1.2.2.2.2.1 X.1.2.2.2.2.1.heap) (hl : X.1.2.1.stackTraces = false) (l0 : Int32) (l1 : Int32) (l2 : Int32) (M : Mem) (h : F_X8_weight l0 l1 l2 M = some y) (kf : FIN X (some .int) (rs_pI y) M) : wq X 5 0 [(0, .int l0), (1, .int l1), (2, .int l2)] [] M := by
  unfold F_X8_weight at h
  refine q_iconst (v := (1 : Int32)) C dX8_weight_0 (by decide) ?_
  refine q_istore_n (i := 3) (lv' := [(3, .int (1 : Int32)), (0, .int l0), (1, .int l1), (2, .int l2)]) C dX8_weight_1 rfl (by decide) rfl ?_
  refine q_iconst (v := (0 : Int32)) C dX8_weight_2 (by decide) ?_
  refine q_istore (i := 4) (lv' := [(4, .int (0 : Int32)), (3, .int (1 : Int32)), (0, .int l0), (1, .int l1), (2, .int l2)]) C dX8_weight_3 (by decide) rfl ?_
  obtain ⟨x7, e6, h⟩ := bindE h
  refine q_sub (lv' := [(0, .int l0), (1, .int l1), (2, .int l2), (3, .int (1 : Int32)), (4, .int (0 : Int32))]) [2, 3, 4, 1, 0] rfl (w_X8_weight_l5 C hRO hl l0 l1 l2 M (1 : Int32) (0 : Int32) e6 (fun r5 he => ?_))
  subst he
  show wq X 5 38 [(3, .int x7)] [] M
  refine q_iload_n 0 C dX8_weight_38 rfl ?_
  cases h
  exact q_iret C kf dX8_weight_39
theorem k_X8_weight (l : Launch) (hl : l.stackTraces = false) (G : GG) (l0 : Int32) (l1 : Int32) (l2 : Int32) (M : Mem) (x : Int32) (h : F_X8_weight l0 l1 l2 M = some x) : Ct l G yX8_weight (.code yX8_weight cX8_weight 5 (some .int)) 7 140 [.int l0, .int l1, .int l2] M (rs_pI x) M := by
  refine Ct_of (by decide +kernel) (Nat.le_of_ble_eq_true rfl) fun X e1 e2 e3 C FN hnm => ?_
  subst e1; subst e2
  show wq X 5 0 [(0, .int l0), (1, .int l1), (2, .int l2)] [] M
  exact w_X8_weight C FN.2.2.2 hl l0 l1 l2 M h FN
/-! X8_byDamp -/
set_option maxRecDepth 100000 in
set_option maxHeartbeats 4000000 in
theorem w_X8_byDamp_s42 {X : CX} {y : (Int32 × Int32 × Mem) ⊕ (Int32 × Mem)} (C : CK X cX8_byDamp 6 RX8 12 262) (hRO : RO X.2.2.1 X.1.2.2.2.2.1 X.1.2.2.2.2.1.heap) (hl : X.1.2.1.stackTraces = false) (l0 : Nat) (l1 : Int32) (l2 : Int32) (l3 : Int32) (l4 : Int32) (l5 : Int32) (M : Mem) (h : F_X8_byDamp_s42 l0 l1 l2 l3 l4 l5 M = some y) (kc : ∀ s' : Int32 × Int32 × Mem, y = .inl s' → wq X 6 42 [(0, .ref l0), (1, .int l1), (2, .int l2), (3, .int l3), (4, .int (s'.1)), (5, .int (s'.2.1))] [] s'.2.2) (kx : ∀ e' : Int32 × Mem, y = (.inr e') → wq X 6 79 [(4, .int (e'.1))] [] e'.2) : wq X 6 42 [(0, .ref l0), (1, .int l1), (2, .int l2), (3, .int l3), (4, .int l4), (5, .int l5)] [] M := by
  unfold F_X8_byDamp_s42 at h
  refine q_iload 5 C dX8_byDamp_42 rfl ?_
  refine q_iconst (v := (1 : Int32)) C dX8_byDamp_44 (by decide) ?_
  refine q_iload_n 2 C dX8_byDamp_45 rfl ?_
  refine q_ishl C dX8_byDamp_46 ?_
  refine q_icmp_ge (tgt := 79) C dX8_byDamp_47 (by decide) (fun c15 => ?_) (fun c15 => ?_)
  · have h := ifT c15 h
    exact q_sub (lv' := [(4, .int l4)]) [4] rfl (kx (l4, M) (someI h))
  · have h := ifF c15 h
    refine q_aload_n 0 C dX8_byDamp_50 rfl ?_
    refine q_iload_n 1 C dX8_byDamp_51 rfl ?_
    refine q_iload_n 2 C dX8_byDamp_52 rfl ?_
    refine q_iload 5 C dX8_byDamp_53 rfl ?_
    obtain ⟨e16, h⟩ := ckOE h
    obtain ⟨v19, M18, e17, h⟩ := bd2E h
    refine q_callV (v := some (.int v19)) [.int l1, .int l2, .int l5] C hRO lk_RX8_356 vk_X8_burstsByDamps e16 rfl rfl rfl (Nat.le_of_ble_eq_true rfl) (by decide) (by decide) dX8_byDamp_55 (k_X8_burstsByDamps X.1.2.1 hl X.2.2.1 l0 l1 l2 l5 M _ e17) ?_
    refine q_if_eq (tgt := 73) C dX8_byDamp_58 (by decide) (fun c20 => ?_) (fun c20 => ?_)
    · have h := ifT c20 h
      refine q_iinc 5 (v := (l5 + (1 : Int32))) (lv' := [(5, .int (l5 + (1 : Int32))), (0, .ref l0), (1, .int l1), (2, .int l2), (3, .int l3), (4, .int l4)]) C dX8_byDamp_73 rfl rfl (by decide) rfl ?_
      refine q_goto (tgt := 42) C dX8_byDamp_76 (by decide) ?_
      exact q_sub (lv' := [(0, .ref l0), (1, .int l1), (2, .int l2), (3, .int l3), (4, .int l4), (5, .int (l5 + (1 : Int32)))]) [1, 2, 3, 4, 5, 0] rfl (kc (l4, (l5 + (1 : Int32)), M18) (someI h))
    · have h := ifF c20 h
      refine q_iload 4 C dX8_byDamp_61 rfl ?_
      refine q_iload_n 2 C dX8_byDamp_63 rfl ?_
      refine q_iload 5 C dX8_byDamp_64 rfl ?_
      refine q_iload_n 3 C dX8_byDamp_66 rfl ?_
      obtain ⟨v22, e21, h⟩ := bindE h
      refine q_callS (v := some (.int v22)) [.int l2, .int l5, .int l3] C hRO lk_RX8_359 sk_X8_weight rfl rfl (Nat.le_of_ble_eq_true rfl) (by decide) (by decide) dX8_byDamp_67 (k_X8_weight X.1.2.1 hl X.2.2.1 l2 l5 l3 M18 _ e21) ?_
      refine q_iadd C dX8_byDamp_70 ?_
      refine q_istore (i := 4) (lv' := [(4, .int (l4 + v22)), (0, .ref l0), (1, .int l1), (2, .int l2), (3, .int l3), (5, .int l5)]) C dX8_byDamp_71 (by decide) rfl ?_
      refine q_iinc 5 (v := (l5 + (1 : Int32))) (lv' := [(5, .int (l5 + (1 : Int32))), (4, .int (l4 + v22)), (0, .ref l0), (1, .int l1), (2, .int l2), (3, .int l3)]) C dX8_byDamp_73 rfl rfl (by decide) rfl ?_
      refine q_goto (tgt := 42) C dX8_byDamp_76 (by decide) ?_
      exact q_sub (lv' := [(0, .ref l0), (1, .int l1), (2, .int l2), (3, .int l3), (4, .int (l4 + v22)), (5, .int (l5 + (1 : Int32)))]) [2, 3, 4, 5, 1, 0] rfl (kc ((l4 + v22), (l5 + (1 : Int32)), M18) (someI h))
theorem w_X8_byDamp_l42 {X : CX} {r : Int32 × Mem} (C : CK X cX8_byDamp 6 RX8 12 262) (hRO : RO X.2.2.1 X.1.2.2.2.2.1 X.1.2.2.2.2.1.heap) (hl : X.1.2.1.stackTraces = false) (l0 : Nat) (l1 : Int32) (l2 : Int32) (l3 : Int32) (l4 : Int32) (l5 : Int32) (M : Mem) (h : loop (fun s => F_X8_byDamp_s42 l0 l1 l2 l3 s.1 s.2.1 s.2.2) (l4, l5, M) = some r) (kx : ∀ e' : Int32 × Mem, r = e' → wq X 6 79 [(4, .int (e'.1))] [] e'.2) : wq X 6 42 [(0, .ref l0), (1, .int l1), (2, .int l2), (3, .int l3), (4, .int l4), (5, .int l5)] [] M :=
  loop_ind (P := fun s => wq X 6 42 [(0, .ref l0), (1, .int l1), (2, .int l2), (3, .int l3), (4, .int s.1), (5, .int s.2.1)] [] s.2.2) h (fun s y hy kc kr => w_X8_byDamp_s42 C hRO hl l0 l1 l2 l3 s.1 s.2.1 s.2.2 hy kc (fun e' he => kx e' (kr _ he).symm))
set_option maxRecDepth 100000 in
set_option maxHeartbeats 4000000 in
theorem w_X8_byDamp {X : CX} {y : (Int32 × Mem) ⊕ (Nat × Mem)} (C : CK X cX8_byDamp 6 RX8 12 262) (hRO : RO X.2.2.1 X.1.2.2.2.2.1 X.1.2.2.2.2.1.heap) (hl : X.1.2.1.stackTraces = false) (l0 : Nat) (l1 : Int32) (l2 : Int32) (l3 : Int32) (M : Mem) (h : F_X8_byDamp l0 l1 l2 l3 M = some y) (kf : FIN X (some .int) (rs_tI y) (ms_tI y)) : wq X 6 0 [(0, .ref l0), (1, .int l1), (2, .int l2), (3, .int l3)] [] M := by
  unfold F_X8_byDamp at h
  refine q_aload_n 0 C dX8_byDamp_0 rfl ?_
  refine q_iload_n 1 C dX8_byDamp_1 rfl ?_
  obtain ⟨e1, h⟩ := ckOE h
  rcases bdVE h with ⟨M3, e2, h⟩ | ⟨x30, M31, e2, h⟩
  · refine q_callV (v := none) [.int l1] C hRO lk_RX8_186 vk_X8_needHouse e1 rfl rfl rfl (Nat.le_of_ble_eq_true rfl) (by decide) (by decide) dX8_byDamp_2 (k_X8_needHouse X.1.2.1 hl X.2.2.1 l0 l1 M _ e2) ?_
    refine q_iload_n 2 C dX8_byDamp_5 rfl ?_
    refine q_iconst (v := (1 : Int32)) C dX8_byDamp_6 (by decide) ?_
    refine q_icmp_lt (tgt := 25) C dX8_byDamp_7 (by decide) (fun c5 => ?_) (fun c5 => ?_)
    · have h := ifT c5 h
      obtain ⟨M6, e7, h⟩ := bindE h
      cases h
      exact q_throwW (e0 := 0) (i := 24) C kf hl (by decide) cl_RX8_97 in_ex0 rfl at_RX8_101 gd_RX8_101 e7 dX8_byDamp_25 dX8_byDamp_28 dX8_byDamp_29 dX8_byDamp_32 dX8_byDamp_35 (by decide) (Nat.le_of_ble_eq_true rfl)
    · have h := ifF c5 h
      refine q_iload_n 2 C dX8_byDamp_10 rfl ?_
      refine q_iconst (v := (5 : Int32)) C dX8_byDamp_11 (by decide) ?_
      refine q_icmp_gt (tgt := 25) C dX8_byDamp_12 (by decide) (fun c8 => ?_) (fun c8 => ?_)
      · have h := ifT c8 h
        obtain ⟨M9, e10, h⟩ := bindE h
        cases h
        exact q_throwW (e0 := 0) (i := 24) C kf hl (by decide) cl_RX8_97 in_ex0 rfl at_RX8_101 gd_RX8_101 e10 dX8_byDamp_25 dX8_byDamp_28 dX8_byDamp_29 dX8_byDamp_32 dX8_byDamp_35 (by decide) (Nat.le_of_ble_eq_true rfl)
      · have h := ifF c8 h
        refine q_iload_n 3 C dX8_byDamp_15 rfl ?_
        refine q_if_lt (tgt := 25) C dX8_byDamp_16 (by decide) (fun c11 => ?_) (fun c11 => ?_)
        · have h := ifT c11 h
          obtain ⟨M12, e13, h⟩ := bindE h
          cases h
          exact q_throwW (e0 := 0) (i := 24) C kf hl (by decide) cl_RX8_97 in_ex0 rfl at_RX8_101 gd_RX8_101 e13 dX8_byDamp_25 dX8_byDamp_28 dX8_byDamp_29 dX8_byDamp_32 dX8_byDamp_35 (by decide) (Nat.le_of_ble_eq_true rfl)
        · have h := ifF c11 h
          refine q_iload_n 3 C dX8_byDamp_19 rfl ?_
          refine q_bipush (v := (10 : Int32)) C dX8_byDamp_20 (by decide) ?_
          refine q_icmp_le (tgt := 36) C dX8_byDamp_22 (by decide) (fun c14 => ?_) (fun c14 => ?_)
          · have h := ifT c14 h
            refine q_iconst (v := (0 : Int32)) C dX8_byDamp_36 (by decide) ?_
            refine q_istore (i := 4) (lv' := [(4, .int (0 : Int32)), (0, .ref l0), (1, .int l1), (2, .int l2), (3, .int l3)]) C dX8_byDamp_37 (by decide) rfl ?_
            refine q_iconst (v := (0 : Int32)) C dX8_byDamp_39 (by decide) ?_
            refine q_istore (i := 5) (lv' := [(5, .int (0 : Int32)), (4, .int (0 : Int32)), (0, .ref l0), (1, .int l1), (2, .int l2), (3, .int l3)]) C dX8_byDamp_40 (by decide) rfl ?_
            obtain ⟨⟨x25, M26⟩, e24, h⟩ := bindE h
            refine q_sub (lv' := [(0, .ref l0), (1, .int l1), (2, .int l2), (3, .int l3), (4, .int (0 : Int32)), (5, .int (0 : Int32))]) [2, 3, 4, 5, 1, 0] rfl (w_X8_byDamp_l42 C hRO hl l0 l1 l2 l3 (0 : Int32) (0 : Int32) M3 e24 (fun r23 he => ?_))
            subst he
            have h := u2E h
            show wq X 6 79 [(4, .int x25)] [] M26
            refine q_iload 0 C dX8_byDamp_79 rfl ?_
            cases h
            exact q_iret C kf dX8_byDamp_81
          · have h := ifF c14 h
            obtain ⟨M28, e29, h⟩ := bindE h
            cases h
            exact q_throwW (e0 := 0) (i := 24) C kf hl (by decide) cl_RX8_97 in_ex0 rfl at_RX8_101 gd_RX8_101 e29 dX8_byDamp_25 dX8_byDamp_28 dX8_byDamp_29 dX8_byDamp_32 dX8_byDamp_35 (by decide) (Nat.le_of_ble_eq_true rfl)
  · skip
    cases h
    exact q_callVX [.int l1] C kf lk_RX8_186 vk_X8_needHouse e1 rfl rfl rfl (Nat.le_of_ble_eq_true rfl) (by decide) (by decide) dX8_byDamp_2 (k_X8_needHouse X.1.2.1 hl X.2.2.1 l0 l1 M _ e2)
theorem k_X8_byDamp (l : Launch) (hl : l.stackTraces = false) (G : GG) (l0 : Nat) (l1 : Int32) (l2 : Int32) (l3 : Int32) (M : Mem) (x : (Int32 × Mem) ⊕ (Nat × Mem)) (h : F_X8_byDamp l0 l1 l2 l3 M = some x) : Ct l G yX8_byDamp (.code yX8_byDamp cX8_byDamp 6 (some .int)) 12 262 [.ref l0, .int l1, .int l2, .int l3] M (rs_tI x) (ms_tI x) := by
  refine Ct_of (by decide +kernel) (Nat.le_of_ble_eq_true rfl) fun X e1 e2 e3 C FN hnm => ?_
  subst e1; subst e2
  show wq X 6 0 [(0, .ref l0), (1, .int l1), (2, .int l2), (3, .int l3)] [] M
  exact w_X8_byDamp C FN.2.2.2 hl l0 l1 l2 l3 M h FN
/-! X8_entersNow -/
set_option maxRecDepth 100000 in
set_option maxHeartbeats 4000000 in
theorem w_X8_entersNow {X : CX} {y : Int32 × Mem} (C : CK X cX8_entersNow 3 RX8 11 236) (hRO : RO X.2.2.1 X.1.2.2.2.2.1 X.1.2.2.2.2.1.heap) (hl : X.1.2.1.stackTraces = false) (l0 : Nat) (l1 : Int32) (l2 : Int32) (M : Mem) (h : F_X8_entersNow l0 l1 l2 M = some y) (kf : FIN X (some .boolean) (rs_mI y) (ms_mI y)) : wq X 3 0 [(0, .ref l0), (1, .int l1), (2, .int l2)] [] M := by
  unfold F_X8_entersNow at h
  refine q_aload_n 0 C dX8_entersNow_0 rfl ?_
  obtain ⟨v1, e2, h⟩ := bindE h
  refine q_getP C fl_RX8_23 rfl e2 dX8_entersNow_1 ?_
  refine q_aload_n 0 C dX8_entersNow_4 rfl ?_
  obtain ⟨v3, e4, h⟩ := bindE h
  refine q_getP C fl_RX8_33 rfl e4 dX8_entersNow_5 ?_
  refine q_iload_n 1 C dX8_entersNow_8 rfl ?_
  refine q_iload_n 2 C dX8_entersNow_9 rfl ?_
  refine q_aload_n 0 C dX8_entersNow_10 rfl ?_
  obtain ⟨v5, e6, h⟩ := bindE h
  refine q_getP C fl_RX8_23 rfl e6 dX8_entersNow_11 ?_
  refine q_aload_n 0 C dX8_entersNow_14 rfl ?_
  obtain ⟨v7, e8, h⟩ := bindE h
  refine q_getP C fl_RX8_33 rfl e8 dX8_entersNow_15 ?_
  obtain ⟨e9, h⟩ := ckOE h
  obtain ⟨v11, e10, h⟩ := bindE h
  refine q_callV (v := some (.int v11)) [.ref v7] C hRO lk_RX8_128 vk_X2_dampOf e9 rfl rfl rfl (Nat.le_of_ble_eq_true rfl) (by decide) (by decide) dX8_entersNow_18 (k_X2_dampOf X.1.2.1 hl X.2.2.1 v5 v7 M _ e10) ?_
  obtain ⟨e12, h⟩ := ckOE h
  obtain ⟨v15, M14, e13, h⟩ := bd2E h
  refine q_callV (v := some (.int v15)) [.ref v3, .int l1, .int l2, .int v11] C hRO lk_RX8_235 vk_X2_enters e12 rfl rfl rfl (Nat.le_of_ble_eq_true rfl) (by decide) (by decide) dX8_entersNow_21 (k_X2_enters X.1.2.1 hl X.2.2.1 v1 v3 l1 l2 v11 M _ e13) ?_
  cases h
  exact q_zretE (w := (nz v15)) rfl C kf dX8_entersNow_24
theorem k_X8_entersNow (l : Launch) (hl : l.stackTraces = false) (G : GG) (l0 : Nat) (l1 : Int32) (l2 : Int32) (M : Mem) (x : Int32 × Mem) (h : F_X8_entersNow l0 l1 l2 M = some x) : Ct l G yX8_entersNow (.code yX8_entersNow cX8_entersNow 3 (some .boolean)) 11 236 [.ref l0, .int l1, .int l2] M (rs_mI x) (ms_mI x) := by
  refine Ct_of (by decide +kernel) (Nat.le_of_ble_eq_true rfl) fun X e1 e2 e3 C FN hnm => ?_
  subst e1; subst e2
  show wq X 3 0 [(0, .ref l0), (1, .int l1), (2, .int l2)] [] M
  exact w_X8_entersNow C FN.2.2.2 hl l0 l1 l2 M h FN
/-! X8_mayMove -/
set_option maxRecDepth 100000 in
set_option maxHeartbeats 4000000 in
theorem w_X8_mayMove {X : CX} {y : Int32 × Mem} (C : CK X cX8_mayMove 3 RX8 12 258) (hRO : RO X.2.2.1 X.1.2.2.2.2.1 X.1.2.2.2.2.1.heap) (hl : X.1.2.1.stackTraces = false) (l0 : Nat) (l1 : Int32) (l2 : Int32) (M : Mem) (h : F_X8_mayMove l0 l1 l2 M = some y) (kf : FIN X (some .boolean) (rs_mI y) (ms_mI y)) : wq X 3 0 [(0, .ref l0), (1, .int l1), (2, .int l2)] [] M := by
  unfold F_X8_mayMove at h
  refine q_iload_n 2 C dX8_mayMove_0 rfl ?_
  refine q_iconst (v := (-1 : Int32)) C dX8_mayMove_1 (by decide) ?_
  refine q_icmp_eq (tgt := 14) C dX8_mayMove_2 (by decide) (fun c1 => ?_) (fun c1 => ?_)
  · have h := ifT c1 h
    refine q_iconst (v := (1 : Int32)) C dX8_mayMove_14 (by decide) ?_
    refine q_goto (tgt := 19) C dX8_mayMove_15 (by decide) ?_
    cases h
    exact q_zretE (w := (1 : Int32)) (by decide) C kf dX8_mayMove_19
  · have h := ifF c1 h
    refine q_aload_n 0 C dX8_mayMove_5 rfl ?_
    refine q_iload_n 1 C dX8_mayMove_6 rfl ?_
    refine q_iload_n 2 C dX8_mayMove_7 rfl ?_
    obtain ⟨e2, h⟩ := ckOE h
    obtain ⟨v5, M4, e3, h⟩ := bd2E h
    refine q_callV (v := some (.int v5)) [.int l1, .int l2] C hRO lk_RX8_249 vk_X8_entersNow e2 rfl rfl rfl (Nat.le_of_ble_eq_true rfl) (by decide) (by decide) dX8_mayMove_8 (k_X8_entersNow X.1.2.1 hl X.2.2.1 l0 l1 l2 M _ e3) ?_
    refine q_if_eq (tgt := 18) C dX8_mayMove_11 (by decide) (fun c6 => ?_) (fun c6 => ?_)
    · have h := ifT c6 h
      refine q_iconst (v := (0 : Int32)) C dX8_mayMove_18 (by decide) ?_
      cases h
      exact q_zretE (w := (0 : Int32)) (by decide) C kf dX8_mayMove_19
    · have h := ifF c6 h
      refine q_iconst (v := (1 : Int32)) C dX8_mayMove_14 (by decide) ?_
      refine q_goto (tgt := 19) C dX8_mayMove_15 (by decide) ?_
      cases h
      exact q_zretE (w := (1 : Int32)) (by decide) C kf dX8_mayMove_19
theorem k_X8_mayMove (l : Launch) (hl : l.stackTraces = false) (G : GG) (l0 : Nat) (l1 : Int32) (l2 : Int32) (M : Mem) (x : Int32 × Mem) (h : F_X8_mayMove l0 l1 l2 M = some x) : Ct l G yX8_mayMove (.code yX8_mayMove cX8_mayMove 3 (some .boolean)) 12 258 [.ref l0, .int l1, .int l2] M (rs_mI x) (ms_mI x) := by
  refine Ct_of (by decide +kernel) (Nat.le_of_ble_eq_true rfl) fun X e1 e2 e3 C FN hnm => ?_
  subst e1; subst e2
  show wq X 3 0 [(0, .ref l0), (1, .int l1), (2, .int l2)] [] M
  exact w_X8_mayMove C FN.2.2.2 hl l0 l1 l2 M h FN
/-! X8_needPerson -/
set_option maxRecDepth 100000 in
set_option maxHeartbeats 4000000 in
theorem w_X8_needPerson {X : CX} {y : (Mem) ⊕ (Nat × Mem)} (C : CK X cX8_needPerson 2 RX8 7 140) (hRO : RO X.2.2.1 X.1.2.2.2.2.1 X.1.2.2.2.2.1.heap) (hl : X.1.2.1.stackTraces = false) (l0 : Nat) (l1 : Int32) (M : Mem) (h : F_X8_needPerson l0 l1 M = some y) (kf : FIN X none (rs_tV y) (ms_tV y)) : wq X 2 0 [(0, .ref l0), (1, .int l1)] [] M := by
  unfold F_X8_needPerson at h
  refine q_iload_n 1 C dX8_needPerson_0 rfl ?_
  refine q_if_lt (tgt := 15) C dX8_needPerson_1 (by decide) (fun c1 => ?_) (fun c1 => ?_)
  · have h := ifT c1 h
    obtain ⟨M2, e3, h⟩ := bindE h
    cases h
    exact q_throwNW (e0 := 1) (i := 19) C kf hl (by decide) cl_RX8_154 in_ex1 rfl at_RX8_158 gd_RX8_158 e3 dX8_needPerson_15 dX8_needPerson_18 dX8_needPerson_19 dX8_needPerson_22 dX8_needPerson_25 (by decide) (Nat.le_of_ble_eq_true rfl)
  · have h := ifF c1 h
    refine q_iload_n 1 C dX8_needPerson_4 rfl ?_
    refine q_aload_n 0 C dX8_needPerson_5 rfl ?_
    obtain ⟨v4, e5, h⟩ := bindE h
    refine q_getP C fl_RX8_23 rfl e5 dX8_needPerson_6 ?_
    obtain ⟨v6, e7, h⟩ := bindE h
    refine q_getI C fl_RX8_122 rfl e7 dX8_needPerson_9 ?_
    refine q_icmp_lt (tgt := 26) C dX8_needPerson_12 (by decide) (fun c8 => ?_) (fun c8 => ?_)
    · have h := ifT c8 h
      cases h
      exact q_vret C kf dX8_needPerson_26
    · have h := ifF c8 h
      obtain ⟨M9, e10, h⟩ := bindE h
      cases h
      exact q_throwNW (e0 := 1) (i := 19) C kf hl (by decide) cl_RX8_154 in_ex1 rfl at_RX8_158 gd_RX8_158 e10 dX8_needPerson_15 dX8_needPerson_18 dX8_needPerson_19 dX8_needPerson_22 dX8_needPerson_25 (by decide) (Nat.le_of_ble_eq_true rfl)
theorem k_X8_needPerson (l : Launch) (hl : l.stackTraces = false) (G : GG) (l0 : Nat) (l1 : Int32) (M : Mem) (x : (Mem) ⊕ (Nat × Mem)) (h : F_X8_needPerson l0 l1 M = some x) : Ct l G yX8_needPerson (.code yX8_needPerson cX8_needPerson 2 none) 7 140 [.ref l0, .int l1] M (rs_tV x) (ms_tV x) := by
  refine Ct_of (by decide +kernel) (Nat.le_of_ble_eq_true rfl) fun X e1 e2 e3 C FN hnm => ?_
  subst e1; subst e2
  show wq X 2 0 [(0, .ref l0), (1, .int l1)] [] M
  exact w_X8_needPerson C FN.2.2.2 hl l0 l1 M h FN
/-! X8_refuseAct -/
set_option maxRecDepth 100000 in
set_option maxHeartbeats 4000000 in
theorem w_X8_refuseAct {X : CX} {y : Int32 × Mem} (C : CK X cX8_refuseAct 1 RX8 7 140) (hRO : RO X.2.2.1 X.1.2.2.2.2.1 X.1.2.2.2.2.1.heap) (hl : X.1.2.1.stackTraces = false) (l0 : Nat) (M : Mem) (h : F_X8_refuseAct l0 M = some y) (kf : FIN X (some .int) (rs_mI y) (ms_mI y)) : wq X 1 0 [(0, .ref l0)] [] M := by
  unfold F_X8_refuseAct at h
  refine q_aload_n 0 C dX8_refuseAct_0 rfl ?_
  obtain ⟨v1, e2, h⟩ := bindE h
  refine q_getP C fl_RX8_67 rfl e2 dX8_refuseAct_1 ?_
  refine q_iconst (v := (1 : Int32)) C dX8_refuseAct_4 (by decide) ?_
  refine q_dup2 C dX8_refuseAct_5 rfl rfl ?_
  obtain ⟨v3, e4, h⟩ := bindE h
  refine q_iaload C e4 dX8_refuseAct_6 ?_
  refine q_iconst (v := (1 : Int32)) C dX8_refuseAct_7 (by decide) ?_
  refine q_iadd C dX8_refuseAct_8 ?_
  obtain ⟨M5, e6, h⟩ := bindE h
  refine q_iastore C e6 dX8_refuseAct_9 ?_
  refine q_iconst (v := (-1 : Int32)) C dX8_refuseAct_10 (by decide) ?_
  cases h
  exact q_iret C kf dX8_refuseAct_11
theorem k_X8_refuseAct (l : Launch) (hl : l.stackTraces = false) (G : GG) (l0 : Nat) (M : Mem) (x : Int32 × Mem) (h : F_X8_refuseAct l0 M = some x) : Ct l G yX8_refuseAct (.code yX8_refuseAct cX8_refuseAct 1 (some .int)) 7 140 [.ref l0] M (rs_mI x) (ms_mI x) := by
  refine Ct_of (by decide +kernel) (Nat.le_of_ble_eq_true rfl) fun X e1 e2 e3 C FN hnm => ?_
  subst e1; subst e2
  show wq X 1 0 [(0, .ref l0)] [] M
  exact w_X8_refuseAct C FN.2.2.2 hl l0 M h FN
/-! X8_settleOrLodge -/
set_option maxRecDepth 100000 in
set_option maxHeartbeats 4000000 in
theorem w_X8_settleOrLodge {X : CX} {y : Mem} (C : CK X cX8_settleOrLodge 3 RX8 8 162) (hRO : RO X.2.2.1 X.1.2.2.2.2.1 X.1.2.2.2.2.1.heap) (hl : X.1.2.1.stackTraces = false) (l0 : Nat) (l1 : Int32) (l2 : Int32) (M : Mem) (h : F_X8_settleOrLodge l0 l1 l2 M = some y) (kf : FIN X none (rs_mV y) (ms_mV y)) : wq X 3 0 [(0, .ref l0), (1, .int l1), (2, .int l2)] [] M := by
  unfold F_X8_settleOrLodge at h
  refine q_iload_n 2 C dX8_settleOrLodge_0 rfl ?_
  refine q_iconst (v := (-1 : Int32)) C dX8_settleOrLodge_1 (by decide) ?_
  refine q_icmp_eq (tgt := 14) C dX8_settleOrLodge_2 (by decide) (fun c1 => ?_) (fun c1 => ?_)
  · have h := ifT c1 h
    cases h
    exact q_vret C kf dX8_settleOrLodge_14
  · have h := ifF c1 h
    refine q_aload_n 0 C dX8_settleOrLodge_5 rfl ?_
    obtain ⟨v2, e3, h⟩ := bindE h
    refine q_getP C fl_RX8_33 rfl e3 dX8_settleOrLodge_6 ?_
    refine q_iload_n 1 C dX8_settleOrLodge_9 rfl ?_
    refine q_iload_n 2 C dX8_settleOrLodge_10 rfl ?_
    obtain ⟨e4, h⟩ := ckOE h
    obtain ⟨M6, e5, h⟩ := bindE h
    refine q_callV (v := none) [.int l1, .int l2] C hRO lk_RX8_253 vk_X6_settle e4 rfl rfl rfl (Nat.le_of_ble_eq_true rfl) (by decide) (by decide) dX8_settleOrLodge_11 (k_X6_settle X.1.2.1 hl X.2.2.1 v2 l1 l2 M _ e5) ?_
    cases h
    exact q_vret C kf dX8_settleOrLodge_14
theorem k_X8_settleOrLodge (l : Launch) (hl : l.stackTraces = false) (G : GG) (l0 : Nat) (l1 : Int32) (l2 : Int32) (M : Mem) (x : Mem) (h : F_X8_settleOrLodge l0 l1 l2 M = some x) : Ct l G yX8_settleOrLodge (.code yX8_settleOrLodge cX8_settleOrLodge 3 none) 8 162 [.ref l0, .int l1, .int l2] M (rs_mV x) (ms_mV x) := by
  refine Ct_of (by decide +kernel) (Nat.le_of_ble_eq_true rfl) fun X e1 e2 e3 C FN hnm => ?_
  subst e1; subst e2
  show wq X 3 0 [(0, .ref l0), (1, .int l1), (2, .int l2)] [] M
  exact w_X8_settleOrLodge C FN.2.2.2 hl l0 l1 l2 M h FN
/-! X8_change -/
set_option maxRecDepth 100000 in
set_option maxHeartbeats 4000000 in
theorem w_X8_change_j47 {X : CX} {y : (Int32 × Mem) ⊕ (Nat × Mem)} (C : CK X cX8_change 6 RX8 13 280) (hRO : RO X.2.2.1 X.1.2.2.2.2.1 X.1.2.2.2.2.1.heap) (hl : X.1.2.1.stackTraces = false) (l0 : Nat) (l1 : Int32) (l2 : Int32) (l3 : Int32) (l4 : Int32) (t0 : Int32) (M : Mem) (h : F_X8_change_j47 l0 l1 l2 l3 l4 t0 M = some y) (kf : FIN X (some .boolean) (rs_tI y) (ms_tI y)) : wq X 6 47 [(0, .ref l0), (1, .int l1), (2, .int l2), (3, .int l3), (4, .int l4)] [.int t0] M := by
  unfold F_X8_change_j47 at h
  refine q_istore (i := 5) (lv' := [(5, .int t0), (0, .ref l0), (1, .int l1), (2, .int l2), (3, .int l3), (4, .int l4)]) C dX8_change_47 (by decide) rfl ?_
  refine q_iload_n 2 C dX8_change_49 rfl ?_
  refine q_iload_n 3 C dX8_change_50 rfl ?_
  refine q_icmp_eq (tgt := 78) C dX8_change_51 (by decide) (fun c22 => ?_) (fun c22 => ?_)
  · have h := ifT c22 h
    refine q_aload_n 1 C dX8_change_78 rfl ?_
    obtain ⟨e23, h⟩ := ckOE h
    obtain ⟨v26, M25, e24, h⟩ := bd2E h
    refine q_callV (v := some (.int v26)) [] C hRO lk_RX8_239 vk_X8_refuseAct e23 rfl rfl rfl (Nat.le_of_ble_eq_true rfl) (by decide) (by decide) dX8_change_79 (k_X8_refuseAct X.1.2.1 hl X.2.2.1 l0 M _ e24) ?_
    refine q_pop C dX8_change_82 rfl ?_
    refine q_iconst (v := (0 : Int32)) C dX8_change_83 (by decide) ?_
    cases h
    exact q_zretE (w := (0 : Int32)) (by decide) C kf dX8_change_84
  · have h := ifF c22 h
    refine q_iload 0 C dX8_change_54 rfl ?_
    refine q_if_ne (tgt := 78) C dX8_change_56 (by decide) (fun c27 => ?_) (fun c27 => ?_)
    · have h := ifF c27 h
      refine q_aload_n 1 C dX8_change_78 rfl ?_
      obtain ⟨e28, h⟩ := ckOE h
      obtain ⟨v31, M30, e29, h⟩ := bd2E h
      refine q_callV (v := some (.int v31)) [] C hRO lk_RX8_239 vk_X8_refuseAct e28 rfl rfl rfl (Nat.le_of_ble_eq_true rfl) (by decide) (by decide) dX8_change_79 (k_X8_refuseAct X.1.2.1 hl X.2.2.1 l0 M _ e29) ?_
      refine q_pop C dX8_change_82 rfl ?_
      refine q_iconst (v := (0 : Int32)) C dX8_change_83 (by decide) ?_
      cases h
      exact q_zretE (w := (0 : Int32)) (by decide) C kf dX8_change_84
    · have h := ifT c27 h
      refine q_aload_n 1 C dX8_change_59 rfl ?_
      refine q_iload_n 2 C dX8_change_60 rfl ?_
      refine q_iload 5 C dX8_change_61 rfl ?_
      obtain ⟨e32, h⟩ := ckOE h
      obtain ⟨v35, M34, e33, h⟩ := bd2E h
      refine q_callV (v := some (.int v35)) [.int l1, .int l4] C hRO lk_RX8_260 vk_X8_mayMove e32 rfl rfl rfl (Nat.le_of_ble_eq_true rfl) (by decide) (by decide) dX8_change_63 (k_X8_mayMove X.1.2.1 hl X.2.2.1 l0 l1 l4 M _ e33) ?_
      refine q_if_eq (tgt := 78) C dX8_change_66 (by decide) (fun c36 => ?_) (fun c36 => ?_)
      · have h := ifT c36 h
        refine q_aload_n 1 C dX8_change_78 rfl ?_
        obtain ⟨e37, h⟩ := ckOE h
        obtain ⟨v40, M39, e38, h⟩ := bd2E h
        refine q_callV (v := some (.int v40)) [] C hRO lk_RX8_239 vk_X8_refuseAct e37 rfl rfl rfl (Nat.le_of_ble_eq_true rfl) (by decide) (by decide) dX8_change_79 (k_X8_refuseAct X.1.2.1 hl X.2.2.1 l0 M34 _ e38) ?_
        refine q_pop C dX8_change_82 rfl ?_
        refine q_iconst (v := (0 : Int32)) C dX8_change_83 (by decide) ?_
        cases h
        exact q_zretE (w := (0 : Int32)) (by decide) C kf dX8_change_84
      · have h := ifF c36 h
        refine q_aload_n 1 C dX8_change_69 rfl ?_
        refine q_iload_n 3 C dX8_change_70 rfl ?_
        refine q_iload_n 4 C dX8_change_71 rfl ?_
        obtain ⟨e41, h⟩ := ckOE h
        obtain ⟨v44, M43, e42, h⟩ := bd2E h
        refine q_callV (v := some (.int v44)) [.int l2, .int l3] C hRO lk_RX8_260 vk_X8_mayMove e41 rfl rfl rfl (Nat.le_of_ble_eq_true rfl) (by decide) (by decide) dX8_change_72 (k_X8_mayMove X.1.2.1 hl X.2.2.1 l0 l2 l3 M34 _ e42) ?_
        refine q_if_ne (tgt := 85) C dX8_change_75 (by decide) (fun c45 => ?_) (fun c45 => ?_)
        · have h := ifF c45 h
          refine q_aload_n 1 C dX8_change_85 rfl ?_
          obtain ⟨v46, e47, h⟩ := bindE h
          refine q_getP C fl_RX8_43 rfl e47 dX8_change_86 ?_
          refine q_aload_n 1 C dX8_change_89 rfl ?_
          obtain ⟨v48, e49, h⟩ := bindE h
          refine q_getP C fl_RX8_33 rfl e49 dX8_change_90 ?_
          obtain ⟨e50, h⟩ := ckOE h
          obtain ⟨M52, e51, h⟩ := bindE h
          refine q_callV (v := none) [.ref v48] C hRO lk_RX8_242 vk_X0_keep e50 rfl rfl rfl (Nat.le_of_ble_eq_true rfl) (by decide) (by decide) dX8_change_93 (k_X0_keep X.1.2.1 hl X.2.2.1 v46 v48 M43 _ e51) ?_
          refine q_aload_n 1 C dX8_change_96 rfl ?_
          obtain ⟨v54, e55, h⟩ := bindE h
          refine q_getP C fl_RX8_33 rfl e55 dX8_change_97 ?_
          refine q_iload_n 2 C dX8_change_100 rfl ?_
          obtain ⟨e56, h⟩ := ckOE h
          obtain ⟨M58, e57, h⟩ := bindE h
          refine q_callV (v := none) [.int l1] C hRO lk_RX8_257 vk_X6_leave e56 rfl rfl rfl (Nat.le_of_ble_eq_true rfl) (by decide) (by decide) dX8_change_101 (k_X6_leave X.1.2.1 hl X.2.2.1 v54 l1 M52 _ e57) ?_
          refine q_aload_n 1 C dX8_change_104 rfl ?_
          obtain ⟨v60, e61, h⟩ := bindE h
          refine q_getP C fl_RX8_33 rfl e61 dX8_change_105 ?_
          refine q_iload_n 3 C dX8_change_108 rfl ?_
          obtain ⟨e62, h⟩ := ckOE h
          obtain ⟨M64, e63, h⟩ := bindE h
          refine q_callV (v := none) [.int l2] C hRO lk_RX8_257 vk_X6_leave e62 rfl rfl rfl (Nat.le_of_ble_eq_true rfl) (by decide) (by decide) dX8_change_109 (k_X6_leave X.1.2.1 hl X.2.2.1 v60 l2 M58 _ e63) ?_
          refine q_aload_n 1 C dX8_change_112 rfl ?_
          refine q_iload_n 2 C dX8_change_113 rfl ?_
          refine q_iload 5 C dX8_change_114 rfl ?_
          obtain ⟨e66, h⟩ := ckOE h
          obtain ⟨M68, e67, h⟩ := bindE h
          refine q_callV (v := none) [.int l1, .int l4] C hRO lk_RX8_263 vk_X8_settleOrLodge e66 rfl rfl rfl (Nat.le_of_ble_eq_true rfl) (by decide) (by decide) dX8_change_116 (k_X8_settleOrLodge X.1.2.1 hl X.2.2.1 l0 l1 l4 M64 _ e67) ?_
          refine q_aload_n 1 C dX8_change_119 rfl ?_
          refine q_iload_n 3 C dX8_change_120 rfl ?_
          refine q_iload_n 4 C dX8_change_121 rfl ?_
          obtain ⟨e70, h⟩ := ckOE h
          obtain ⟨M72, e71, h⟩ := bindE h
          refine q_callV (v := none) [.int l2, .int l3] C hRO lk_RX8_263 vk_X8_settleOrLodge e70 rfl rfl rfl (Nat.le_of_ble_eq_true rfl) (by decide) (by decide) dX8_change_122 (k_X8_settleOrLodge X.1.2.1 hl X.2.2.1 l0 l2 l3 M68 _ e71) ?_
          refine q_iconst (v := (1 : Int32)) C dX8_change_125 (by decide) ?_
          cases h
          exact q_zretE (w := (1 : Int32)) (by decide) C kf dX8_change_126
        · have h := ifT c45 h
          refine q_aload_n 1 C dX8_change_78 rfl ?_
          obtain ⟨e74, h⟩ := ckOE h
          obtain ⟨v77, M76, e75, h⟩ := bd2E h
          refine q_callV (v := some (.int v77)) [] C hRO lk_RX8_239 vk_X8_refuseAct e74 rfl rfl rfl (Nat.le_of_ble_eq_true rfl) (by decide) (by decide) dX8_change_79 (k_X8_refuseAct X.1.2.1 hl X.2.2.1 l0 M43 _ e75) ?_
          refine q_pop C dX8_change_82 rfl ?_
          refine q_iconst (v := (0 : Int32)) C dX8_change_83 (by decide) ?_
          cases h
          exact q_zretE (w := (0 : Int32)) (by decide) C kf dX8_change_84
set_option maxRecDepth 100000 in
set_option maxHeartbeats 4000000 in
theorem w_X8_change_j46 {X : CX} {y : (Int32 × Mem) ⊕ (Nat × Mem)} (C : CK X cX8_change 6 RX8 13 280) (hRO : RO X.2.2.1 X.1.2.2.2.2.1 X.1.2.2.2.2.1.heap) (hl : X.1.2.1.stackTraces = false) (l0 : Nat) (l1 : Int32) (l2 : Int32) (l3 : Int32) (l4 : Int32) (M : Mem) (h : F_X8_change_j46 l0 l1 l2 l3 l4 M = some y) (kf : FIN X (some .boolean) (rs_tI y) (ms_tI y)) : wq X 6 46 [(0, .ref l0), (1, .int l1), (2, .int l2), (3, .int l3), (4, .int l4)] [] M := by
  unfold F_X8_change_j46 at h
  refine q_iconst (v := (0 : Int32)) C dX8_change_46 (by decide) ?_
  exact q_sub (lv' := [(0, .ref l0), (1, .int l1), (2, .int l2), (3, .int l3), (4, .int l4)]) [0, 1, 2, 3, 4] rfl (w_X8_change_j47 C hRO hl l0 l1 l2 l3 l4 (0 : Int32) M h kf)
set_option maxRecDepth 100000 in
set_option maxHeartbeats 4000000 in
theorem w_X8_change {X : CX} {y : (Int32 × Mem) ⊕ (Nat × Mem)} (C : CK X cX8_change 6 RX8 13 280) (hRO : RO X.2.2.1 X.1.2.2.2.2.1 X.1.2.2.2.2.1.heap) (hl : X.1.2.1.stackTraces = false) (l0 : Nat) (l1 : Int32) (l2 : Int32) (M : Mem) (h : F_X8_change l0 l1 l2 M = some y) (kf : FIN X (some .boolean) (rs_tI y) (ms_tI y)) : wq X 6 0 [(0, .ref l0), (1, .int l1), (2, .int l2)] [] M := by
  unfold F_X8_change at h
  refine q_aload_n 0 C dX8_change_0 rfl ?_
  refine q_iload_n 1 C dX8_change_1 rfl ?_
  obtain ⟨e1, h⟩ := ckOE h
  rcases bdVE h with ⟨M3, e2, h⟩ | ⟨x81, M82, e2, h⟩
  · refine q_callV (v := none) [.int l1] C hRO lk_RX8_223 vk_X8_needPerson e1 rfl rfl rfl (Nat.le_of_ble_eq_true rfl) (by decide) (by decide) dX8_change_2 (k_X8_needPerson X.1.2.1 hl X.2.2.1 l0 l1 M _ e2) ?_
    refine q_aload_n 0 C dX8_change_5 rfl ?_
    refine q_iload_n 2 C dX8_change_6 rfl ?_
    obtain ⟨e5, h⟩ := ckOE h
    rcases bdVE h with ⟨M7, e6, h⟩ | ⟨x79, M80, e6, h⟩
    · refine q_callV (v := none) [.int l2] C hRO lk_RX8_223 vk_X8_needPerson e5 rfl rfl rfl (Nat.le_of_ble_eq_true rfl) (by decide) (by decide) dX8_change_7 (k_X8_needPerson X.1.2.1 hl X.2.2.1 l0 l2 M3 _ e6) ?_
      refine q_aload_n 0 C dX8_change_10 rfl ?_
      obtain ⟨v9, e10, h⟩ := bindE h
      refine q_getP C fl_RX8_33 rfl e10 dX8_change_11 ?_
      obtain ⟨v11, e12, h⟩ := bindE h
      refine q_getP C fl_RX8_162 rfl e12 dX8_change_14 ?_
      refine q_iload_n 1 C dX8_change_17 rfl ?_
      obtain ⟨v13, e14, h⟩ := bindE h
      refine q_iaload C e14 dX8_change_18 ?_
      refine q_istore_n (i := 3) (lv' := [(3, .int v13), (0, .ref l0), (1, .int l1), (2, .int l2)]) C dX8_change_19 rfl (by decide) rfl ?_
      refine q_aload_n 1 C dX8_change_20 rfl ?_
      obtain ⟨v15, e16, h⟩ := bindE h
      refine q_getP C fl_RX8_33 rfl e16 dX8_change_21 ?_
      obtain ⟨v17, e18, h⟩ := bindE h
      refine q_getP C fl_RX8_162 rfl e18 dX8_change_24 ?_
      refine q_iload_n 3 C dX8_change_27 rfl ?_
      obtain ⟨v19, e20, h⟩ := bindE h
      refine q_iaload C e20 dX8_change_28 ?_
      refine q_istore (i := 4) (lv' := [(4, .int v19), (3, .int v13), (0, .ref l0), (1, .int l1), (2, .int l2)]) C dX8_change_29 (by decide) rfl ?_
      refine q_iload_n 1 C dX8_change_31 rfl ?_
      refine q_iconst (v := (-1 : Int32)) C dX8_change_32 (by decide) ?_
      refine q_icmp_ne (tgt := 46) C dX8_change_33 (by decide) (fun c21 => ?_) (fun c21 => ?_)
      · have h := ifF c21 h
        exact q_sub (lv' := [(0, .ref l0), (1, .int l1), (2, .int l2), (3, .int v13), (4, .int v19)]) [2, 3, 4, 1, 0] rfl (w_X8_change_j46 C hRO hl l0 l1 l2 v13 v19 M7 h kf)
      · have h := ifT c21 h
        refine q_iload 0 C dX8_change_36 rfl ?_
        refine q_iconst (v := (-1 : Int32)) C dX8_change_38 (by decide) ?_
        refine q_icmp_ne (tgt := 46) C dX8_change_39 (by decide) (fun c78 => ?_) (fun c78 => ?_)
        · have h := ifF c78 h
          exact q_sub (lv' := [(0, .ref l0), (1, .int l1), (2, .int l2), (3, .int v13), (4, .int v19)]) [2, 3, 4, 1, 0] rfl (w_X8_change_j46 C hRO hl l0 l1 l2 v13 v19 M7 h kf)
        · have h := ifT c78 h
          refine q_iconst (v := (1 : Int32)) C dX8_change_42 (by decide) ?_
          refine q_goto (tgt := 47) C dX8_change_43 (by decide) ?_
          exact q_sub (lv' := [(0, .ref l0), (1, .int l1), (2, .int l2), (3, .int v13), (4, .int v19)]) [2, 3, 4, 1, 0] rfl (w_X8_change_j47 C hRO hl l0 l1 l2 v13 v19 (1 : Int32) M7 h kf)
    · skip
      cases h
      exact q_callVX [.int l2] C kf lk_RX8_223 vk_X8_needPerson e5 rfl rfl rfl (Nat.le_of_ble_eq_true rfl) (by decide) (by decide) dX8_change_7 (k_X8_needPerson X.1.2.1 hl X.2.2.1 l0 l2 M3 _ e6)
  · skip
    cases h
    exact q_callVX [.int l1] C kf lk_RX8_223 vk_X8_needPerson e1 rfl rfl rfl (Nat.le_of_ble_eq_true rfl) (by decide) (by decide) dX8_change_2 (k_X8_needPerson X.1.2.1 hl X.2.2.1 l0 l1 M _ e2)
theorem k_X8_change (l : Launch) (hl : l.stackTraces = false) (G : GG) (l0 : Nat) (l1 : Int32) (l2 : Int32) (M : Mem) (x : (Int32 × Mem) ⊕ (Nat × Mem)) (h : F_X8_change l0 l1 l2 M = some x) : Ct l G yX8_change (.code yX8_change cX8_change 6 (some .boolean)) 13 280 [.ref l0, .int l1, .int l2] M (rs_tI x) (ms_tI x) := by
  refine Ct_of (by decide +kernel) (Nat.le_of_ble_eq_true rfl) fun X e1 e2 e3 C FN hnm => ?_
  subst e1; subst e2
  show wq X 6 0 [(0, .ref l0), (1, .int l1), (2, .int l2)] [] M
  exact w_X8_change C FN.2.2.2 hl l0 l1 l2 M h FN
/-! X8_comesFirst -/
set_option maxRecDepth 100000 in
set_option maxHeartbeats 4000000 in
theorem w_X8_comesFirst {X : CX} {y : Int32} (C : CK X cX8_comesFirst 6 RX8 8 162) (hRO : RO X.2.2.1 X.1.2.2.2.2.1 X.1.2.2.2.2.1.heap) (hl : X.1.2.1.stackTraces = false) (l0 : Nat) (l1 : Int32) (l2 : Int32) (l3 : Int32) (M : Mem) (h : F_X8_comesFirst l0 l1 l2 l3 M = some y) (kf : FIN X (some .boolean) (rs_pI y) M) : wq X 6 0 [(0, .ref l0), (1, .int l1), (2, .int l2), (3, .int l3)] [] M := by
  unfold F_X8_comesFirst at h
  refine q_aload_n 0 C dX8_comesFirst_0 rfl ?_
  obtain ⟨v1, e2, h⟩ := bindE h
  refine q_getP C fl_RX8_33 rfl e2 dX8_comesFirst_1 ?_
  refine q_iload_n 1 C dX8_comesFirst_4 rfl ?_
  refine q_iload_n 3 C dX8_comesFirst_5 rfl ?_
  obtain ⟨e3, h⟩ := ckOE h
  obtain ⟨v5, e4, h⟩ := bindE h
  refine q_callV (v := some (.int v5)) [.int l1, .int l3] C hRO lk_RX8_172 vk_X6_tight e3 rfl rfl rfl (Nat.le_of_ble_eq_true rfl) (by decide) (by decide) dX8_comesFirst_6 (k_X6_tight X.1.2.1 hl X.2.2.1 v1 l1 l3 M _ e4) ?_
  refine q_istore (i := 4) (lv' := [(4, .int v5), (0, .ref l0), (1, .int l1), (2, .int l2), (3, .int l3)]) C dX8_comesFirst_9 (by decide) rfl ?_
  refine q_aload_n 1 C dX8_comesFirst_11 rfl ?_
  obtain ⟨v6, e7, h⟩ := bindE h
  refine q_getP C fl_RX8_33 rfl e7 dX8_comesFirst_12 ?_
  refine q_iload_n 3 C dX8_comesFirst_15 rfl ?_
  refine q_iload_n 4 C dX8_comesFirst_16 rfl ?_
  obtain ⟨e8, h⟩ := ckOE h
  obtain ⟨v10, e9, h⟩ := bindE h
  refine q_callV (v := some (.int v10)) [.int l2, .int l3] C hRO lk_RX8_172 vk_X6_tight e8 rfl rfl rfl (Nat.le_of_ble_eq_true rfl) (by decide) (by decide) dX8_comesFirst_17 (k_X6_tight X.1.2.1 hl X.2.2.1 v6 l2 l3 M _ e9) ?_
  refine q_istore (i := 5) (lv' := [(5, .int v10), (4, .int v5), (0, .ref l0), (1, .int l1), (2, .int l2), (3, .int l3)]) C dX8_comesFirst_20 (by decide) rfl ?_
  refine q_iload 1 C dX8_comesFirst_22 rfl ?_
  refine q_iload 0 C dX8_comesFirst_24 rfl ?_
  refine q_icmp_lt (tgt := 41) C dX8_comesFirst_26 (by decide) (fun c11 => ?_) (fun c11 => ?_)
  · have h := ifT c11 h
    refine q_iconst (v := (1 : Int32)) C dX8_comesFirst_41 (by decide) ?_
    refine q_goto (tgt := 46) C dX8_comesFirst_42 (by decide) ?_
    cases h
    exact q_zretE (w := (1 : Int32)) (by decide) C kf dX8_comesFirst_46
  · have h := ifF c11 h
    refine q_iload 1 C dX8_comesFirst_29 rfl ?_
    refine q_iload 0 C dX8_comesFirst_31 rfl ?_
    refine q_icmp_ne (tgt := 45) C dX8_comesFirst_33 (by decide) (fun c12 => ?_) (fun c12 => ?_)
    · have h := ifF c12 h
      refine q_iconst (v := (0 : Int32)) C dX8_comesFirst_45 (by decide) ?_
      cases h
      exact q_zretE (w := (0 : Int32)) (by decide) C kf dX8_comesFirst_46
    · have h := ifT c12 h
      refine q_iload_n 3 C dX8_comesFirst_36 rfl ?_
      refine q_iload_n 4 C dX8_comesFirst_37 rfl ?_
      refine q_icmp_ge (tgt := 45) C dX8_comesFirst_38 (by decide) (fun c13 => ?_) (fun c13 => ?_)
      · have h := ifT c13 h
        refine q_iconst (v := (0 : Int32)) C dX8_comesFirst_45 (by decide) ?_
        cases h
        exact q_zretE (w := (0 : Int32)) (by decide) C kf dX8_comesFirst_46
      · have h := ifF c13 h
        refine q_iconst (v := (1 : Int32)) C dX8_comesFirst_41 (by decide) ?_
        refine q_goto (tgt := 46) C dX8_comesFirst_42 (by decide) ?_
        cases h
        exact q_zretE (w := (1 : Int32)) (by decide) C kf dX8_comesFirst_46
theorem k_X8_comesFirst (l : Launch) (hl : l.stackTraces = false) (G : GG) (l0 : Nat) (l1 : Int32) (l2 : Int32) (l3 : Int32) (M : Mem) (x : Int32) (h : F_X8_comesFirst l0 l1 l2 l3 M = some x) : Ct l G yX8_comesFirst (.code yX8_comesFirst cX8_comesFirst 6 (some .boolean)) 8 162 [.ref l0, .int l1, .int l2, .int l3] M (rs_pI x) M := by
  refine Ct_of (by decide +kernel) (Nat.le_of_ble_eq_true rfl) fun X e1 e2 e3 C FN hnm => ?_
  subst e1; subst e2
  show wq X 6 0 [(0, .ref l0), (1, .int l1), (2, .int l2), (3, .int l3)] [] M
  exact w_X8_comesFirst C FN.2.2.2 hl l0 l1 l2 l3 M h FN
/-! X8_housesInUse -/
set_option maxRecDepth 100000 in
set_option maxHeartbeats 4000000 in
theorem w_X8_housesInUse_s4 {X : CX} {y : (Int32 × Int32) ⊕ (Int32)} (C : CK X cX8_housesInUse 3 RX8 7 140) (hRO : RO X.2.2.1 X.1.2.2.2.2.1 X.1.2.2.2.2.1.heap) (hl : X.1.2.1.stackTraces = false) (l0 : Nat) (M : Mem) (l1 : Int32) (l2 : Int32) (h : F_X8_housesInUse_s4 l0 M l1 l2 = some y) (kc : ∀ s' : Int32 × Int32, y = .inl s' → wq X 3 4 [(0, .ref l0), (1, .int (s'.1)), (2, .int (s'.2))] [] M) (kx : ∀ e' : Int32, y = (.inr e') → wq X 3 40 [(1, .int (e'))] [] M) : wq X 3 4 [(0, .ref l0), (1, .int l1), (2, .int l2)] [] M := by
  unfold F_X8_housesInUse_s4 at h
  refine q_iload_n 2 C dX8_housesInUse_4 rfl ?_
  refine q_aload_n 0 C dX8_housesInUse_5 rfl ?_
  obtain ⟨v1, e2, h⟩ := bindE h
  refine q_getP C fl_RX8_23 rfl e2 dX8_housesInUse_6 ?_
  obtain ⟨v3, e4, h⟩ := bindE h
  refine q_getI C fl_RX8_119 rfl e4 dX8_housesInUse_9 ?_
  refine q_icmp_ge (tgt := 40) C dX8_housesInUse_12 (by decide) (fun c5 => ?_) (fun c5 => ?_)
  · have h := ifT c5 h
    exact q_sub (lv' := [(1, .int l1)]) [1] rfl (kx l1 (someI h))
  · have h := ifF c5 h
    refine q_aload_n 0 C dX8_housesInUse_15 rfl ?_
    obtain ⟨v6, e7, h⟩ := bindE h
    refine q_getP C fl_RX8_33 rfl e7 dX8_housesInUse_16 ?_
    obtain ⟨v8, e9, h⟩ := bindE h
    refine q_getP C fl_RX8_159 rfl e9 dX8_housesInUse_19 ?_
    refine q_iload_n 2 C dX8_housesInUse_22 rfl ?_
    obtain ⟨v10, e11, h⟩ := bindE h
    refine q_iaload C e11 dX8_housesInUse_23 ?_
    refine q_iconst (v := (-1 : Int32)) C dX8_housesInUse_24 (by decide) ?_
    refine q_icmp_eq (tgt := 34) C dX8_housesInUse_25 (by decide) (fun c12 => ?_) (fun c12 => ?_)
    · have h := ifT c12 h
      refine q_iinc 2 (v := (l2 + (1 : Int32))) (lv' := [(2, .int (l2 + (1 : Int32))), (0, .ref l0), (1, .int l1)]) C dX8_housesInUse_34 rfl rfl (by decide) rfl ?_
      refine q_goto (tgt := 4) C dX8_housesInUse_37 (by decide) ?_
      exact q_sub (lv' := [(0, .ref l0), (1, .int l1), (2, .int (l2 + (1 : Int32)))]) [1, 2, 0] rfl (kc (l1, (l2 + (1 : Int32))) (someI h))
    · have h := ifF c12 h
      refine q_iload_n 1 C dX8_housesInUse_28 rfl ?_
      refine q_iconst (v := (1 : Int32)) C dX8_housesInUse_29 (by decide) ?_
      refine q_iload_n 2 C dX8_housesInUse_30 rfl ?_
      refine q_ishl C dX8_housesInUse_31 ?_
      refine q_ior C dX8_housesInUse_32 ?_
      obtain ⟨n13, e14, h⟩ := nmE h
      refine q_topI e14 ?_
      refine q_istore_n (i := 1) (lv' := [(1, .int n13), (0, .ref l0), (2, .int l2)]) C dX8_housesInUse_33 rfl (by decide) rfl ?_
      refine q_iinc 2 (v := (l2 + (1 : Int32))) (lv' := [(2, .int (l2 + (1 : Int32))), (1, .int n13), (0, .ref l0)]) C dX8_housesInUse_34 rfl rfl (by decide) rfl ?_
      refine q_goto (tgt := 4) C dX8_housesInUse_37 (by decide) ?_
      exact q_sub (lv' := [(0, .ref l0), (1, .int n13), (2, .int (l2 + (1 : Int32)))]) [2, 1, 0] rfl (kc (n13, (l2 + (1 : Int32))) (someI h))
theorem w_X8_housesInUse_l4 {X : CX} {r : Int32} (C : CK X cX8_housesInUse 3 RX8 7 140) (hRO : RO X.2.2.1 X.1.2.2.2.2.1 X.1.2.2.2.2.1.heap) (hl : X.1.2.1.stackTraces = false) (l0 : Nat) (M : Mem) (l1 : Int32) (l2 : Int32) (h : loop (fun s => F_X8_housesInUse_s4 l0 M s.1 s.2) (l1, l2) = some r) (kx : ∀ e' : Int32, r = e' → wq X 3 40 [(1, .int (e'))] [] M) : wq X 3 4 [(0, .ref l0), (1, .int l1), (2, .int l2)] [] M :=
  loop_ind (P := fun s => wq X 3 4 [(0, .ref l0), (1, .int s.1), (2, .int s.2)] [] M) h (fun s y hy kc kr => w_X8_housesInUse_s4 C hRO hl l0 M s.1 s.2 hy kc (fun e' he => kx e' (kr _ he).symm))
set_option maxRecDepth 100000 in
set_option maxHeartbeats 4000000 in
theorem w_X8_housesInUse {X : CX} {y : Int32} (C : CK X cX8_housesInUse 3 RX8 7 140) (hRO : RO X.2.2.1 X.1.2.2.2.2.1 X.1.2.2.2.2.1.heap) (hl : X.1.2.1.stackTraces = false) (l0 : Nat) (M : Mem) (h : F_X8_housesInUse l0 M = some y) (kf : FIN X (some .int) (rs_pI y) M) : wq X 3 0 [(0, .ref l0)] [] M := by
  unfold F_X8_housesInUse at h
  refine q_iconst (v := (0 : Int32)) C dX8_housesInUse_0 (by decide) ?_
  refine q_istore_n (i := 1) (lv' := [(1, .int (0 : Int32)), (0, .ref l0)]) C dX8_housesInUse_1 rfl (by decide) rfl ?_
  refine q_iconst (v := (0 : Int32)) C dX8_housesInUse_2 (by decide) ?_
  refine q_istore_n (i := 2) (lv' := [(2, .int (0 : Int32)), (1, .int (0 : Int32)), (0, .ref l0)]) C dX8_housesInUse_3 rfl (by decide) rfl ?_
  obtain ⟨x17, e16, h⟩ := bindE h
  refine q_sub (lv' := [(0, .ref l0), (1, .int (0 : Int32)), (2, .int (0 : Int32))]) [2, 1, 0] rfl (w_X8_housesInUse_l4 C hRO hl l0 M (0 : Int32) (0 : Int32) e16 (fun r15 he => ?_))
  subst he
  show wq X 3 40 [(1, .int x17)] [] M
  refine q_iload_n 0 C dX8_housesInUse_40 rfl ?_
  cases h
  exact q_iret C kf dX8_housesInUse_41
theorem k_X8_housesInUse (l : Launch) (hl : l.stackTraces = false) (G : GG) (l0 : Nat) (M : Mem) (x : Int32) (h : F_X8_housesInUse l0 M = some x) : Ct l G yX8_housesInUse (.code yX8_housesInUse cX8_housesInUse 3 (some .int)) 7 140 [.ref l0] M (rs_pI x) M := by
  refine Ct_of (by decide +kernel) (Nat.le_of_ble_eq_true rfl) fun X e1 e2 e3 C FN hnm => ?_
  subst e1; subst e2
  show wq X 3 0 [(0, .ref l0)] [] M
  exact w_X8_housesInUse C FN.2.2.2 hl l0 M h FN
/-! X8_needed -/
set_option maxRecDepth 100000 in
set_option maxHeartbeats 4000000 in
theorem w_X8_needed_s19 {X : CX} {y : (Int32 × Int32) ⊕ (Int32)} (C : CK X cX8_needed 3 RX8 12 262) (hRO : RO X.2.2.1 X.1.2.2.2.2.1 X.1.2.2.2.2.1.heap) (hl : X.1.2.1.stackTraces = false) (l0 : Nat) (M : Mem) (l1 : Int32) (l2 : Int32) (h : F_X8_needed_s19 l0 M l1 l2 = some y) (kc : ∀ s' : Int32 × Int32, y = .inl s' → wq X 3 19 [(0, .ref l0), (1, .int (s'.1)), (2, .int (s'.2))] [] M) (kx : ∀ e' : Int32, y = (.inr e') → wq X 3 60 [(1, .int (e'))] [] M) : wq X 3 19 [(0, .ref l0), (1, .int l1), (2, .int l2)] [] M := by
  unfold F_X8_needed_s19 at h
  refine q_iload_n 2 C dX8_needed_19 rfl ?_
  refine q_aload_n 0 C dX8_needed_20 rfl ?_
  obtain ⟨v11, e12, h⟩ := bindE h
  refine q_getP C fl_RX8_23 rfl e12 dX8_needed_21 ?_
  obtain ⟨v13, e14, h⟩ := bindE h
  refine q_getI C fl_RX8_119 rfl e14 dX8_needed_24 ?_
  refine q_icmp_ge (tgt := 60) C dX8_needed_27 (by decide) (fun c15 => ?_) (fun c15 => ?_)
  · have h := ifT c15 h
    exact q_sub (lv' := [(1, .int l1)]) [1] rfl (kx l1 (someI h))
  · have h := ifF c15 h
    refine q_aload_n 0 C dX8_needed_30 rfl ?_
    obtain ⟨v16, e17, h⟩ := bindE h
    refine q_getP C fl_RX8_74 rfl e17 dX8_needed_31 ?_
    refine q_iload_n 2 C dX8_needed_34 rfl ?_
    obtain ⟨e18, h⟩ := ckOE h
    obtain ⟨v20, e19, h⟩ := bindE h
    refine q_callV (v := some (.int v20)) [.int l2] C hRO lk_RX8_180 vk_X1_lodgeWithout e18 rfl rfl rfl (Nat.le_of_ble_eq_true rfl) (by decide) (by decide) dX8_needed_35 (k_X1_lodgeWithout X.1.2.1 hl X.2.2.1 v16 l2 M _ e19) ?_
    refine q_aload_n 0 C dX8_needed_38 rfl ?_
    obtain ⟨v21, e22, h⟩ := bindE h
    refine q_getP C fl_RX8_74 rfl e22 dX8_needed_39 ?_
    obtain ⟨e23, h⟩ := ckOE h
    obtain ⟨v25, e24, h⟩ := bindE h
    refine q_callV (v := some (.int v25)) [] C hRO lk_RX8_183 vk_X1_lodge e23 rfl rfl rfl (Nat.le_of_ble_eq_true rfl) (by decide) (by decide) dX8_needed_42 (k_X1_lodge X.1.2.1 hl X.2.2.1 v21 M _ e24) ?_
    refine q_icmp_le (tgt := 54) C dX8_needed_45 (by decide) (fun c26 => ?_) (fun c26 => ?_)
    · have h := ifT c26 h
      refine q_iinc 2 (v := (l2 + (1 : Int32))) (lv' := [(2, .int (l2 + (1 : Int32))), (0, .ref l0), (1, .int l1)]) C dX8_needed_54 rfl rfl (by decide) rfl ?_
      refine q_goto (tgt := 19) C dX8_needed_57 (by decide) ?_
      exact q_sub (lv' := [(0, .ref l0), (1, .int l1), (2, .int (l2 + (1 : Int32)))]) [1, 2, 0] rfl (kc (l1, (l2 + (1 : Int32))) (someI h))
    · have h := ifF c26 h
      refine q_iload_n 1 C dX8_needed_48 rfl ?_
      refine q_iconst (v := (1 : Int32)) C dX8_needed_49 (by decide) ?_
      refine q_iload_n 2 C dX8_needed_50 rfl ?_
      refine q_ishl C dX8_needed_51 ?_
      refine q_ior C dX8_needed_52 ?_
      obtain ⟨n27, e28, h⟩ := nmE h
      refine q_topI e28 ?_
      refine q_istore_n (i := 1) (lv' := [(1, .int n27), (0, .ref l0), (2, .int l2)]) C dX8_needed_53 rfl (by decide) rfl ?_
      refine q_iinc 2 (v := (l2 + (1 : Int32))) (lv' := [(2, .int (l2 + (1 : Int32))), (1, .int n27), (0, .ref l0)]) C dX8_needed_54 rfl rfl (by decide) rfl ?_
      refine q_goto (tgt := 19) C dX8_needed_57 (by decide) ?_
      exact q_sub (lv' := [(0, .ref l0), (1, .int n27), (2, .int (l2 + (1 : Int32)))]) [2, 1, 0] rfl (kc (n27, (l2 + (1 : Int32))) (someI h))
theorem w_X8_needed_l19 {X : CX} {r : Int32} (C : CK X cX8_needed 3 RX8 12 262) (hRO : RO X.2.2.1 X.1.2.2.2.2.1 X.1.2.2.2.2.1.heap) (hl : X.1.2.1.stackTraces = false) (l0 : Nat) (M : Mem) (l1 : Int32) (l2 : Int32) (h : loop (fun s => F_X8_needed_s19 l0 M s.1 s.2) (l1, l2) = some r) (kx : ∀ e' : Int32, r = e' → wq X 3 60 [(1, .int (e'))] [] M) : wq X 3 19 [(0, .ref l0), (1, .int l1), (2, .int l2)] [] M :=
  loop_ind (P := fun s => wq X 3 19 [(0, .ref l0), (1, .int s.1), (2, .int s.2)] [] M) h (fun s y hy kc kr => w_X8_needed_s19 C hRO hl l0 M s.1 s.2 hy kc (fun e' he => kx e' (kr _ he).symm))
set_option maxRecDepth 100000 in
set_option maxHeartbeats 4000000 in
theorem w_X8_needed {X : CX} {y : Int32 × Mem} (C : CK X cX8_needed 3 RX8 12 262) (hRO : RO X.2.2.1 X.1.2.2.2.2.1 X.1.2.2.2.2.1.heap) (hl : X.1.2.1.stackTraces = false) (l0 : Nat) (M : Mem) (h : F_X8_needed l0 M = some y) (kf : FIN X (some .int) (rs_mI y) (ms_mI y)) : wq X 3 0 [(0, .ref l0)] [] M := by
  unfold F_X8_needed at h
  refine q_aload_n 0 C dX8_needed_0 rfl ?_
  obtain ⟨v1, e2, h⟩ := bindE h
  refine q_getP C fl_RX8_74 rfl e2 dX8_needed_1 ?_
  refine q_aload_n 0 C dX8_needed_4 rfl ?_
  obtain ⟨v3, e4, h⟩ := bindE h
  refine q_getP C fl_RX8_23 rfl e4 dX8_needed_5 ?_
  refine q_aload_n 0 C dX8_needed_8 rfl ?_
  obtain ⟨v5, e6, h⟩ := bindE h
  refine q_getP C fl_RX8_33 rfl e6 dX8_needed_9 ?_
  obtain ⟨e7, h⟩ := ckOE h
  obtain ⟨M9, e8, h⟩ := bindE h
  refine q_callV (v := none) [.ref v3, .ref v5] C hRO lk_RX8_176 vk_X1_solve e7 rfl rfl rfl (Nat.le_of_ble_eq_true rfl) (by decide) (by decide) dX8_needed_12 (k_X1_solve X.1.2.1 hl X.2.2.1 v1 v3 v5 M _ e8) ?_
  refine q_iconst (v := (0 : Int32)) C dX8_needed_15 (by decide) ?_
  refine q_istore_n (i := 1) (lv' := [(1, .int (0 : Int32)), (0, .ref l0)]) C dX8_needed_16 rfl (by decide) rfl ?_
  refine q_iconst (v := (0 : Int32)) C dX8_needed_17 (by decide) ?_
  refine q_istore_n (i := 2) (lv' := [(2, .int (0 : Int32)), (1, .int (0 : Int32)), (0, .ref l0)]) C dX8_needed_18 rfl (by decide) rfl ?_
  obtain ⟨x31, e30, h⟩ := bindE h
  refine q_sub (lv' := [(0, .ref l0), (1, .int (0 : Int32)), (2, .int (0 : Int32))]) [2, 1, 0] rfl (w_X8_needed_l19 C hRO hl l0 M9 (0 : Int32) (0 : Int32) e30 (fun r29 he => ?_))
  subst he
  show wq X 3 60 [(1, .int x31)] [] M9
  refine q_iload_n 0 C dX8_needed_60 rfl ?_
  cases h
  exact q_iret C kf dX8_needed_61
theorem k_X8_needed (l : Launch) (hl : l.stackTraces = false) (G : GG) (l0 : Nat) (M : Mem) (x : Int32 × Mem) (h : F_X8_needed l0 M = some x) : Ct l G yX8_needed (.code yX8_needed cX8_needed 3 (some .int)) 12 262 [.ref l0] M (rs_mI x) (ms_mI x) := by
  refine Ct_of (by decide +kernel) (Nat.le_of_ble_eq_true rfl) fun X e1 e2 e3 C FN hnm => ?_
  subst e1; subst e2
  show wq X 3 0 [(0, .ref l0)] [] M
  exact w_X8_needed C FN.2.2.2 hl l0 M h FN
/-! X8_tightNow -/
set_option maxRecDepth 100000 in
set_option maxHeartbeats 4000000 in
theorem w_X8_tightNow {X : CX} {y : Int32} (C : CK X cX8_tightNow 3 RX8 8 162) (hRO : RO X.2.2.1 X.1.2.2.2.2.1 X.1.2.2.2.2.1.heap) (hl : X.1.2.1.stackTraces = false) (l0 : Nat) (l1 : Int32) (M : Mem) (h : F_X8_tightNow l0 l1 M = some y) (kf : FIN X (some .int) (rs_pI y) M) : wq X 3 0 [(0, .ref l0), (1, .int l1)] [] M := by
  unfold F_X8_tightNow at h
  refine q_aload_n 0 C dX8_tightNow_0 rfl ?_
  obtain ⟨v1, e2, h⟩ := bindE h
  refine q_getP C fl_RX8_33 rfl e2 dX8_tightNow_1 ?_
  obtain ⟨v3, e4, h⟩ := bindE h
  refine q_getP C fl_RX8_162 rfl e4 dX8_tightNow_4 ?_
  refine q_iload_n 1 C dX8_tightNow_7 rfl ?_
  obtain ⟨v5, e6, h⟩ := bindE h
  refine q_iaload C e6 dX8_tightNow_8 ?_
  refine q_istore_n (i := 2) (lv' := [(2, .int v5), (0, .ref l0), (1, .int l1)]) C dX8_tightNow_9 rfl (by decide) rfl ?_
  refine q_iload_n 0 C dX8_tightNow_10 rfl ?_
  refine q_iconst (v := (-1 : Int32)) C dX8_tightNow_11 (by decide) ?_
  refine q_icmp_ne (tgt := 19) C dX8_tightNow_12 (by decide) (fun c7 => ?_) (fun c7 => ?_)
  · have h := ifF c7 h
    refine q_aload_n 1 C dX8_tightNow_19 rfl ?_
    obtain ⟨v8, e9, h⟩ := bindE h
    refine q_getP C fl_RX8_33 rfl e9 dX8_tightNow_20 ?_
    refine q_iload_n 2 C dX8_tightNow_23 rfl ?_
    refine q_iload_n 0 C dX8_tightNow_24 rfl ?_
    obtain ⟨e10, h⟩ := ckOE h
    obtain ⟨v12, e11, h⟩ := bindE h
    refine q_callV (v := some (.int v12)) [.int l1, .int v5] C hRO lk_RX8_172 vk_X6_tight e10 rfl rfl rfl (Nat.le_of_ble_eq_true rfl) (by decide) (by decide) dX8_tightNow_25 (k_X6_tight X.1.2.1 hl X.2.2.1 v8 l1 v5 M _ e11) ?_
    cases h
    exact q_iret C kf dX8_tightNow_28
  · have h := ifT c7 h
    refine q_iconst (v := (0 : Int32)) C dX8_tightNow_15 (by decide) ?_
    refine q_goto (tgt := 28) C dX8_tightNow_16 (by decide) ?_
    cases h
    exact q_iret C kf dX8_tightNow_28
theorem k_X8_tightNow (l : Launch) (hl : l.stackTraces = false) (G : GG) (l0 : Nat) (l1 : Int32) (M : Mem) (x : Int32) (h : F_X8_tightNow l0 l1 M = some x) : Ct l G yX8_tightNow (.code yX8_tightNow cX8_tightNow 3 (some .int)) 8 162 [.ref l0, .int l1] M (rs_pI x) M := by
  refine Ct_of (by decide +kernel) (Nat.le_of_ble_eq_true rfl) fun X e1 e2 e3 C FN hnm => ?_
  subst e1; subst e2
  show wq X 3 0 [(0, .ref l0), (1, .int l1)] [] M
  exact w_X8_tightNow C FN.2.2.2 hl l0 l1 M h FN
/-! X8_tightest -/
set_option maxRecDepth 100000 in
set_option maxHeartbeats 4000000 in
theorem w_X8_tightest_s6 {X : CX} {y : (Int32 × Int32 × Int32) ⊕ (Int32)} (C : CK X cX8_tightest 5 RX8 9 184) (hRO : RO X.2.2.1 X.1.2.2.2.2.1 X.1.2.2.2.2.1.heap) (hl : X.1.2.1.stackTraces = false) (l0 : Nat) (M : Mem) (l1 : Int32) (l2 : Int32) (l3 : Int32) (h : F_X8_tightest_s6 l0 M l1 l2 l3 = some y) (kc : ∀ s' : Int32 × Int32 × Int32, y = .inl s' → wq X 5 6 [(0, .ref l0), (1, .int (s'.1)), (2, .int (s'.2.1)), (3, .int (s'.2.2))] [] M) (kx : ∀ e' : Int32, y = (.inr e') → wq X 5 41 [(1, .int (e'))] [] M) : wq X 5 6 [(0, .ref l0), (1, .int l1), (2, .int l2), (3, .int l3)] [] M := by
  unfold F_X8_tightest_s6 at h
  refine q_iload_n 3 C dX8_tightest_6 rfl ?_
  refine q_aload_n 0 C dX8_tightest_7 rfl ?_
  obtain ⟨v1, e2, h⟩ := bindE h
  refine q_getP C fl_RX8_23 rfl e2 dX8_tightest_8 ?_
  obtain ⟨v3, e4, h⟩ := bindE h
  refine q_getI C fl_RX8_122 rfl e4 dX8_tightest_11 ?_
  refine q_icmp_ge (tgt := 41) C dX8_tightest_14 (by decide) (fun c5 => ?_) (fun c5 => ?_)
  · have h := ifT c5 h
    exact q_sub (lv' := [(1, .int l1)]) [1] rfl (kx l1 (someI h))
  · have h := ifF c5 h
    refine q_aload_n 0 C dX8_tightest_17 rfl ?_
    refine q_iload_n 3 C dX8_tightest_18 rfl ?_
    obtain ⟨e6, h⟩ := ckOE h
    obtain ⟨v8, e7, h⟩ := bindE h
    refine q_callV (v := some (.int v8)) [.int l3] C hRO lk_RX8_168 vk_X8_tightNow e6 rfl rfl rfl (Nat.le_of_ble_eq_true rfl) (by decide) (by decide) dX8_tightest_19 (k_X8_tightNow X.1.2.1 hl X.2.2.1 l0 l3 M _ e7) ?_
    refine q_istore (i := 4) (lv' := [(4, .int v8), (0, .ref l0), (1, .int l1), (2, .int l2), (3, .int l3)]) C dX8_tightest_22 (by decide) rfl ?_
    refine q_iload 0 C dX8_tightest_24 rfl ?_
    refine q_iload_n 3 C dX8_tightest_26 rfl ?_
    refine q_icmp_le (tgt := 35) C dX8_tightest_27 (by decide) (fun c9 => ?_) (fun c9 => ?_)
    · have h := ifT c9 h
      refine q_iinc 4 (v := (l3 + (1 : Int32))) (lv' := [(3, .int (l3 + (1 : Int32))), (4, .int v8), (0, .ref l0), (1, .int l1), (2, .int l2)]) C dX8_tightest_35 rfl rfl (by decide) rfl ?_
      refine q_goto (tgt := 6) C dX8_tightest_38 (by decide) ?_
      exact q_sub (lv' := [(0, .ref l0), (1, .int l1), (2, .int l2), (3, .int (l3 + (1 : Int32)))]) [2, 3, 4, 0] rfl (kc (l1, l2, (l3 + (1 : Int32))) (someI h))
    · have h := ifF c9 h
      refine q_iload 0 C dX8_tightest_30 rfl ?_
      refine q_istore_n (i := 2) (lv' := [(2, .int v8), (4, .int v8), (0, .ref l0), (1, .int l1), (3, .int l3)]) C dX8_tightest_32 rfl (by decide) rfl ?_
      refine q_iload_n 4 C dX8_tightest_33 rfl ?_
      refine q_istore_n (i := 1) (lv' := [(1, .int l3), (2, .int v8), (4, .int v8), (0, .ref l0), (3, .int l3)]) C dX8_tightest_34 rfl (by decide) rfl ?_
      refine q_iinc 4 (v := (l3 + (1 : Int32))) (lv' := [(3, .int (l3 + (1 : Int32))), (1, .int l3), (2, .int v8), (4, .int v8), (0, .ref l0)]) C dX8_tightest_35 rfl rfl (by decide) rfl ?_
      refine q_goto (tgt := 6) C dX8_tightest_38 (by decide) ?_
      exact q_sub (lv' := [(0, .ref l0), (1, .int l3), (2, .int v8), (3, .int (l3 + (1 : Int32)))]) [4, 1, 2, 0] rfl (kc (l3, v8, (l3 + (1 : Int32))) (someI h))
theorem w_X8_tightest_l6 {X : CX} {r : Int32} (C : CK X cX8_tightest 5 RX8 9 184) (hRO : RO X.2.2.1 X.1.2.2.2.2.1 X.1.2.2.2.2.1.heap) (hl : X.1.2.1.stackTraces = false) (l0 : Nat) (M : Mem) (l1 : Int32) (l2 : Int32) (l3 : Int32) (h : loop (fun s => F_X8_tightest_s6 l0 M s.1 s.2.1 s.2.2) (l1, l2, l3) = some r) (kx : ∀ e' : Int32, r = e' → wq X 5 41 [(1, .int (e'))] [] M) : wq X 5 6 [(0, .ref l0), (1, .int l1), (2, .int l2), (3, .int l3)] [] M :=
  loop_ind (P := fun s => wq X 5 6 [(0, .ref l0), (1, .int s.1), (2, .int s.2.1), (3, .int s.2.2)] [] M) h (fun s y hy kc kr => w_X8_tightest_s6 C hRO hl l0 M s.1 s.2.1 s.2.2 hy kc (fun e' he => kx e' (kr _ he).symm))
set_option maxRecDepth 100000 in
set_option maxHeartbeats 4000000 in
theorem w_X8_tightest {X : CX} {y : Int32} (C : CK X cX8_tightest 5 RX8 9 184) (hRO : RO X.2.2.1 X.1.2.2.2.2.1 X.1.2.2.2.2.1.heap) (hl : X.1.2.1.stackTraces = false) (l0 : Nat) (M : Mem) (h : F_X8_tightest l0 M = some y) (kf : FIN X (some .int) (rs_pI y) M) : wq X 5 0 [(0, .ref l0)] [] M := by
  unfold F_X8_tightest at h
  refine q_iconst (v := (-1 : Int32)) C dX8_tightest_0 (by decide) ?_
  refine q_istore_n (i := 1) (lv' := [(1, .int (-1 : Int32)), (0, .ref l0)]) C dX8_tightest_1 rfl (by decide) rfl ?_
  refine q_iconst (v := (0 : Int32)) C dX8_tightest_2 (by decide) ?_
  refine q_istore_n (i := 2) (lv' := [(2, .int (0 : Int32)), (1, .int (-1 : Int32)), (0, .ref l0)]) C dX8_tightest_3 rfl (by decide) rfl ?_
  refine q_iconst (v := (0 : Int32)) C dX8_tightest_4 (by decide) ?_
  refine q_istore_n (i := 3) (lv' := [(3, .int (0 : Int32)), (2, .int (0 : Int32)), (1, .int (-1 : Int32)), (0, .ref l0)]) C dX8_tightest_5 rfl (by decide) rfl ?_
  obtain ⟨x12, e11, h⟩ := bindE h
  refine q_sub (lv' := [(0, .ref l0), (1, .int (-1 : Int32)), (2, .int (0 : Int32)), (3, .int (0 : Int32))]) [3, 2, 1, 0] rfl (w_X8_tightest_l6 C hRO hl l0 M (-1 : Int32) (0 : Int32) (0 : Int32) e11 (fun r10 he => ?_))
  subst he
  show wq X 5 41 [(1, .int x12)] [] M
  refine q_iload_n 0 C dX8_tightest_41 rfl ?_
  cases h
  exact q_iret C kf dX8_tightest_42
theorem k_X8_tightest (l : Launch) (hl : l.stackTraces = false) (G : GG) (l0 : Nat) (M : Mem) (x : Int32) (h : F_X8_tightest l0 M = some x) : Ct l G yX8_tightest (.code yX8_tightest cX8_tightest 5 (some .int)) 9 184 [.ref l0] M (rs_pI x) M := by
  refine Ct_of (by decide +kernel) (Nat.le_of_ble_eq_true rfl) fun X e1 e2 e3 C FN hnm => ?_
  subst e1; subst e2
  show wq X 5 0 [(0, .ref l0)] [] M
  exact w_X8_tightest C FN.2.2.2 hl l0 M h FN
/-! X8_count -/
set_option maxRecDepth 100000 in
set_option maxHeartbeats 4000000 in
theorem w_X8_count {X : CX} {y : (Int32 × Mem) ⊕ (Nat × Mem)} (C : CK X cX8_count 2 RX8 13 284) (hRO : RO X.2.2.1 X.1.2.2.2.2.1 X.1.2.2.2.2.1.heap) (hl : X.1.2.1.stackTraces = false) (l0 : Nat) (l1 : Int32) (M : Mem) (h : F_X8_count l0 l1 M = some y) (kf : FIN X (some .int) (rs_tI y) (ms_tI y)) : wq X 2 0 [(0, .ref l0), (1, .int l1)] [] M := by
  unfold F_X8_count at h
  refine q_iload_n 1 C dX8_count_0 rfl ?_
  by_cases c1 : l1 = (0 : Int32)
  · have h := ifT c1 h
    refine q_tableIn (off := 79) (tgt := 80) C dX8_count_1 (by rw [c1]; decide) (by rw [c1]; decide) (by rw [c1]; rfl) (by decide) ?_
    refine q_aload_n 0 C dX8_count_80 rfl ?_
    obtain ⟨v2, e3, h⟩ := bindE h
    refine q_getP C fl_RX8_23 rfl e3 dX8_count_81 ?_
    obtain ⟨v4, e5, h⟩ := bindE h
    refine q_getI C fl_RX8_119 rfl e5 dX8_count_84 ?_
    cases h
    exact q_iret C kf dX8_count_87
  have h := ifF c1 h
  by_cases c6 : l1 = (1 : Int32)
  · have h := ifT c6 h
    refine q_tableIn (off := 87) (tgt := 88) C dX8_count_1 (by rw [c6]; decide) (by rw [c6]; decide) (by rw [c6]; rfl) (by decide) ?_
    refine q_aload_n 0 C dX8_count_88 rfl ?_
    obtain ⟨v7, e8, h⟩ := bindE h
    refine q_getP C fl_RX8_23 rfl e8 dX8_count_89 ?_
    obtain ⟨v9, e10, h⟩ := bindE h
    refine q_getI C fl_RX8_122 rfl e10 dX8_count_92 ?_
    cases h
    exact q_iret C kf dX8_count_95
  have h := ifF c6 h
  by_cases c11 : l1 = (2 : Int32)
  · have h := ifT c11 h
    refine q_tableIn (off := 95) (tgt := 96) C dX8_count_1 (by rw [c11]; decide) (by rw [c11]; decide) (by rw [c11]; rfl) (by decide) ?_
    refine q_aload_n 0 C dX8_count_96 rfl ?_
    obtain ⟨v12, e13, h⟩ := bindE h
    refine q_getP C fl_RX8_33 rfl e13 dX8_count_97 ?_
    obtain ⟨v14, e15, h⟩ := bindE h
    refine q_getI C fl_RX8_125 rfl e15 dX8_count_100 ?_
    cases h
    exact q_iret C kf dX8_count_103
  have h := ifF c11 h
  by_cases c16 : l1 = (3 : Int32)
  · have h := ifT c16 h
    refine q_tableIn (off := 103) (tgt := 104) C dX8_count_1 (by rw [c16]; decide) (by rw [c16]; decide) (by rw [c16]; rfl) (by decide) ?_
    refine q_aload_n 0 C dX8_count_104 rfl ?_
    obtain ⟨v17, e18, h⟩ := bindE h
    refine q_getP C fl_RX8_23 rfl e18 dX8_count_105 ?_
    refine q_aload_n 0 C dX8_count_108 rfl ?_
    obtain ⟨v19, e20, h⟩ := bindE h
    refine q_getP C fl_RX8_33 rfl e20 dX8_count_109 ?_
    obtain ⟨e21, h⟩ := ckOE h
    obtain ⟨v23, e22, h⟩ := bindE h
    refine q_callV (v := some (.int v23)) [.ref v19] C hRO lk_RX8_128 vk_X2_dampOf e21 rfl rfl rfl (Nat.le_of_ble_eq_true rfl) (by decide) (by decide) dX8_count_112 (k_X2_dampOf X.1.2.1 hl X.2.2.1 v17 v19 M _ e22) ?_
    cases h
    exact q_iret C kf dX8_count_115
  have h := ifF c16 h
  by_cases c24 : l1 = (4 : Int32)
  · have h := ifT c24 h
    refine q_tableIn (off := 115) (tgt := 116) C dX8_count_1 (by rw [c24]; decide) (by rw [c24]; decide) (by rw [c24]; rfl) (by decide) ?_
    refine q_aload_n 0 C dX8_count_116 rfl ?_
    obtain ⟨v25, e26, h⟩ := bindE h
    refine q_getP C fl_RX8_33 rfl e26 dX8_count_117 ?_
    obtain ⟨v27, e28, h⟩ := bindE h
    refine q_getI C fl_RX8_132 rfl e28 dX8_count_120 ?_
    cases h
    exact q_iret C kf dX8_count_123
  have h := ifF c24 h
  by_cases c29 : l1 = (5 : Int32)
  · have h := ifT c29 h
    refine q_tableIn (off := 123) (tgt := 124) C dX8_count_1 (by rw [c29]; decide) (by rw [c29]; decide) (by rw [c29]; rfl) (by decide) ?_
    refine q_aload_n 0 C dX8_count_124 rfl ?_
    obtain ⟨e30, h⟩ := ckOE h
    obtain ⟨v32, e31, h⟩ := bindE h
    refine q_callV (v := some (.int v32)) [] C hRO lk_RX8_135 vk_X8_housesInUse e30 rfl rfl rfl (Nat.le_of_ble_eq_true rfl) (by decide) (by decide) dX8_count_125 (k_X8_housesInUse X.1.2.1 hl X.2.2.1 l0 M _ e31) ?_
    cases h
    exact q_iret C kf dX8_count_128
  have h := ifF c29 h
  by_cases c33 : l1 = (6 : Int32)
  · have h := ifT c33 h
    refine q_tableIn (off := 128) (tgt := 129) C dX8_count_1 (by rw [c33]; decide) (by rw [c33]; decide) (by rw [c33]; rfl) (by decide) ?_
    refine q_aload_n 0 C dX8_count_129 rfl ?_
    refine q_aload_n 0 C dX8_count_130 rfl ?_
    obtain ⟨v34, e35, h⟩ := bindE h
    refine q_getP C fl_RX8_33 rfl e35 dX8_count_131 ?_
    obtain ⟨e36, h⟩ := ckOE h
    obtain ⟨v38, e37, h⟩ := bindE h
    refine q_callV (v := some (.int v38)) [.ref v34] C hRO lk_RX8_138 vk_X8_lodgers e36 rfl rfl rfl (Nat.le_of_ble_eq_true rfl) (by decide) (by decide) dX8_count_134 (k_X8_lodgers X.1.2.1 hl X.2.2.1 l0 v34 M _ e37) ?_
    cases h
    exact q_iret C kf dX8_count_137
  have h := ifF c33 h
  by_cases c39 : l1 = (7 : Int32)
  · have h := ifT c39 h
    refine q_tableIn (off := 137) (tgt := 138) C dX8_count_1 (by rw [c39]; decide) (by rw [c39]; decide) (by rw [c39]; rfl) (by decide) ?_
    refine q_aload_n 0 C dX8_count_138 rfl ?_
    refine q_aload_n 0 C dX8_count_139 rfl ?_
    obtain ⟨v40, e41, h⟩ := bindE h
    refine q_getP C fl_RX8_33 rfl e41 dX8_count_140 ?_
    obtain ⟨e42, h⟩ := ckOE h
    obtain ⟨v44, e43, h⟩ := bindE h
    refine q_callV (v := some (.int v44)) [.ref v40] C hRO lk_RX8_141 vk_X8_allBlisters e42 rfl rfl rfl (Nat.le_of_ble_eq_true rfl) (by decide) (by decide) dX8_count_143 (k_X8_allBlisters X.1.2.1 hl X.2.2.1 l0 v40 M _ e43) ?_
    cases h
    exact q_iret C kf dX8_count_146
  have h := ifF c39 h
  by_cases c45 : l1 = (8 : Int32)
  · have h := ifT c45 h
    refine q_tableIn (off := 146) (tgt := 147) C dX8_count_1 (by rw [c45]; decide) (by rw [c45]; decide) (by rw [c45]; rfl) (by decide) ?_
    refine q_aload_n 0 C dX8_count_147 rfl ?_
    obtain ⟨e46, h⟩ := ckOE h
    obtain ⟨v48, e47, h⟩ := bindE h
    refine q_callV (v := some (.int v48)) [] C hRO lk_RX8_144 vk_X8_tightest e46 rfl rfl rfl (Nat.le_of_ble_eq_true rfl) (by decide) (by decide) dX8_count_148 (k_X8_tightest X.1.2.1 hl X.2.2.1 l0 M _ e47) ?_
    cases h
    exact q_iret C kf dX8_count_151
  have h := ifF c45 h
  by_cases c49 : l1 = (9 : Int32)
  · have h := ifT c49 h
    refine q_tableIn (off := 151) (tgt := 152) C dX8_count_1 (by rw [c49]; decide) (by rw [c49]; decide) (by rw [c49]; rfl) (by decide) ?_
    refine q_aload_n 0 C dX8_count_152 rfl ?_
    obtain ⟨e50, h⟩ := ckOE h
    obtain ⟨v53, M52, e51, h⟩ := bd2E h
    refine q_callV (v := some (.int v53)) [] C hRO lk_RX8_147 vk_X8_needed e50 rfl rfl rfl (Nat.le_of_ble_eq_true rfl) (by decide) (by decide) dX8_count_153 (k_X8_needed X.1.2.1 hl X.2.2.1 l0 M _ e51) ?_
    cases h
    exact q_iret C kf dX8_count_156
  have h := ifF c49 h
  by_cases c54 : l1 = (10 : Int32)
  · have h := ifT c54 h
    refine q_tableIn (off := 156) (tgt := 157) C dX8_count_1 (by rw [c54]; decide) (by rw [c54]; decide) (by rw [c54]; rfl) (by decide) ?_
    refine q_aload_n 0 C dX8_count_157 rfl ?_
    obtain ⟨v55, e56, h⟩ := bindE h
    refine q_getP C fl_RX8_43 rfl e56 dX8_count_158 ?_
    obtain ⟨e57, h⟩ := ckOE h
    obtain ⟨v59, e58, h⟩ := bindE h
    refine q_callV (v := some (.int v59)) [] C hRO lk_RX8_150 vk_X0_many e57 rfl rfl rfl (Nat.le_of_ble_eq_true rfl) (by decide) (by decide) dX8_count_161 (k_X0_many X.1.2.1 hl X.2.2.1 v55 M _ e58) ?_
    cases h
    exact q_iret C kf dX8_count_164
  have h := ifF c54 h
  by_cases c60 : l1 = (11 : Int32)
  · have h := ifT c60 h
    refine q_tableIn (off := 164) (tgt := 165) C dX8_count_1 (by rw [c60]; decide) (by rw [c60]; decide) (by rw [c60]; rfl) (by decide) ?_
    refine q_aload_n 0 C dX8_count_165 rfl ?_
    obtain ⟨v61, e62, h⟩ := bindE h
    refine q_getP C fl_RX8_50 rfl e62 dX8_count_166 ?_
    obtain ⟨e63, h⟩ := ckOE h
    obtain ⟨v65, e64, h⟩ := bindE h
    refine q_callV (v := some (.int v65)) [] C hRO lk_RX8_153 vk_X5_many e63 rfl rfl rfl (Nat.le_of_ble_eq_true rfl) (by decide) (by decide) dX8_count_169 (k_X5_many X.1.2.1 hl X.2.2.1 v61 M _ e64) ?_
    cases h
    exact q_iret C kf dX8_count_172
  have h := ifF c60 h
  by_cases c66 : l1 = (12 : Int32)
  · have h := ifT c66 h
    refine q_tableIn (off := 172) (tgt := 173) C dX8_count_1 (by rw [c66]; decide) (by rw [c66]; decide) (by rw [c66]; rfl) (by decide) ?_
    refine q_aload_n 0 C dX8_count_173 rfl ?_
    obtain ⟨v67, e68, h⟩ := bindE h
    refine q_getP C fl_RX8_10 rfl e68 dX8_count_174 ?_
    obtain ⟨e69, h⟩ := ckOE h
    obtain ⟨v71, e70, h⟩ := bindE h
    refine q_callV (v := some (.int v71)) [] C hRO lk_RX8_89 vk_X3_taped e69 rfl rfl rfl (Nat.le_of_ble_eq_true rfl) (by decide) (by decide) dX8_count_177 (k_X3_taped X.1.2.1 hl X.2.2.1 v67 M _ e70) ?_
    cases h
    exact q_iret C kf dX8_count_180
  have h := ifF c66 h
  by_cases c72 : l1 = (13 : Int32)
  · have h := ifT c72 h
    refine q_tableIn (off := 180) (tgt := 181) C dX8_count_1 (by rw [c72]; decide) (by rw [c72]; decide) (by rw [c72]; rfl) (by decide) ?_
    refine q_aload_n 0 C dX8_count_181 rfl ?_
    obtain ⟨v73, e74, h⟩ := bindE h
    refine q_getP C fl_RX8_67 rfl e74 dX8_count_182 ?_
    refine q_iconst (v := (0 : Int32)) C dX8_count_185 (by decide) ?_
    obtain ⟨v75, e76, h⟩ := bindE h
    refine q_iaload C e76 dX8_count_186 ?_
    cases h
    exact q_iret C kf dX8_count_187
  have h := ifF c72 h
  by_cases c77 : l1 = (14 : Int32)
  · have h := ifT c77 h
    refine q_tableIn (off := 187) (tgt := 188) C dX8_count_1 (by rw [c77]; decide) (by rw [c77]; decide) (by rw [c77]; rfl) (by decide) ?_
    refine q_aload_n 0 C dX8_count_188 rfl ?_
    obtain ⟨v78, e79, h⟩ := bindE h
    refine q_getP C fl_RX8_67 rfl e79 dX8_count_189 ?_
    refine q_iconst (v := (1 : Int32)) C dX8_count_192 (by decide) ?_
    obtain ⟨v80, e81, h⟩ := bindE h
    refine q_iaload C e81 dX8_count_193 ?_
    cases h
    exact q_iret C kf dX8_count_194
  have h := ifF c77 h
  by_cases c82 : l1 = (15 : Int32)
  · have h := ifT c82 h
    refine q_tableIn (off := 194) (tgt := 195) C dX8_count_1 (by rw [c82]; decide) (by rw [c82]; decide) (by rw [c82]; rfl) (by decide) ?_
    refine q_aload_n 0 C dX8_count_195 rfl ?_
    obtain ⟨v83, e84, h⟩ := bindE h
    refine q_getP C fl_RX8_67 rfl e84 dX8_count_196 ?_
    refine q_iconst (v := (2 : Int32)) C dX8_count_199 (by decide) ?_
    obtain ⟨v85, e86, h⟩ := bindE h
    refine q_iaload C e86 dX8_count_200 ?_
    cases h
    exact q_iret C kf dX8_count_201
  have h := ifF c82 h
  refine q_tableOut (tgt := 202) C dX8_count_1 (by have z0 := neI c1; have z1 := neI c6; have z2 := neI c11; have z3 := neI c16; have z4 := neI c24; have z5 := neI c29; have z6 := neI c33; have z7 := neI c39; have z8 := neI c45; have z9 := neI c49; have z10 := neI c54; have z11 := neI c60; have z12 := neI c66; have z13 := neI c72; have z14 := neI c77; have z15 := neI c82; simp only [Int32.reduceToInt] at *; omega) (by decide) ?_
  obtain ⟨M87, e88, h⟩ := bindE h
  cases h
  exact q_throwN (e0 := 1) (i := 16) C kf hl (by decide) cl_RX8_154 in_ex1 rfl at_RX8_158 gd_RX8_158 e88 dX8_count_202 dX8_count_205 dX8_count_206 dX8_count_208 dX8_count_211 (by decide) (Nat.le_of_ble_eq_true rfl)
theorem k_X8_count (l : Launch) (hl : l.stackTraces = false) (G : GG) (l0 : Nat) (l1 : Int32) (M : Mem) (x : (Int32 × Mem) ⊕ (Nat × Mem)) (h : F_X8_count l0 l1 M = some x) : Ct l G yX8_count (.code yX8_count cX8_count 2 (some .int)) 13 284 [.ref l0, .int l1] M (rs_tI x) (ms_tI x) := by
  refine Ct_of (by decide +kernel) (Nat.le_of_ble_eq_true rfl) fun X e1 e2 e3 C FN hnm => ?_
  subst e1; subst e2
  show wq X 2 0 [(0, .ref l0), (1, .int l1)] [] M
  exact w_X8_count C FN.2.2.2 hl l0 l1 M h FN
/-! X8_dampest -/
set_option maxRecDepth 100000 in
set_option maxHeartbeats 4000000 in
theorem w_X8_dampest_s22 {X : CX} {y : (Int32 × Int32 × Int32) ⊕ (Int32)} (C : CK X cX8_dampest 6 RX8 10 204) (hRO : RO X.2.2.1 X.1.2.2.2.2.1 X.1.2.2.2.2.1.heap) (hl : X.1.2.1.stackTraces = false) (l0 : Nat) (l1 : Int32) (M : Mem) (l2 : Int32) (l3 : Int32) (l4 : Int32) (h : F_X8_dampest_s22 l0 l1 M l2 l3 l4 = some y) (kc : ∀ s' : Int32 × Int32 × Int32, y = .inl s' → wq X 6 22 [(0, .ref l0), (1, .int l1), (2, .int (s'.1)), (3, .int (s'.2.1)), (4, .int (s'.2.2))] [] M) (kx : ∀ e' : Int32, y = (.inr e') → wq X 6 65 [(2, .int (e'))] [] M) : wq X 6 22 [(0, .ref l0), (1, .int l1), (2, .int l2), (3, .int l3), (4, .int l4)] [] M := by
  unfold F_X8_dampest_s22 at h
  refine q_iload 4 C dX8_dampest_22 rfl ?_
  refine q_iload_n 1 C dX8_dampest_24 rfl ?_
  refine q_icmp_ge (tgt := 65) C dX8_dampest_25 (by decide) (fun c11 => ?_) (fun c11 => ?_)
  · have h := ifT c11 h
    exact q_sub (lv' := [(2, .int l2)]) [2] rfl (kx l2 (someI h))
  · have h := ifF c11 h
    refine q_aload_n 0 C dX8_dampest_28 rfl ?_
    obtain ⟨v12, e13, h⟩ := bindE h
    refine q_getP C fl_RX8_23 rfl e13 dX8_dampest_29 ?_
    refine q_aload_n 0 C dX8_dampest_32 rfl ?_
    obtain ⟨v14, e15, h⟩ := bindE h
    refine q_getP C fl_RX8_33 rfl e15 dX8_dampest_33 ?_
    obtain ⟨v16, e17, h⟩ := bindE h
    refine q_getI C fl_RX8_125 rfl e17 dX8_dampest_36 ?_
    refine q_iload 4 C dX8_dampest_39 rfl ?_
    refine q_iadd C dX8_dampest_41 ?_
    obtain ⟨e18, h⟩ := ckOE h
    obtain ⟨v20, e19, h⟩ := bindE h
    refine q_callV (v := some (.int v20)) [.int (v16 + l4)] C hRO lk_RX8_396 vk_X2_dampOn e18 rfl rfl rfl (Nat.le_of_ble_eq_true rfl) (by decide) (by decide) dX8_dampest_42 (k_X2_dampOn X.1.2.1 hl X.2.2.1 v12 (v16 + l4) M _ e19) ?_
    refine q_istore (i := 5) (lv' := [(5, .int v20), (0, .ref l0), (1, .int l1), (2, .int l2), (3, .int l3), (4, .int l4)]) C dX8_dampest_45 (by decide) rfl ?_
    refine q_iload 0 C dX8_dampest_47 rfl ?_
    refine q_iload_n 4 C dX8_dampest_49 rfl ?_
    refine q_icmp_le (tgt := 59) C dX8_dampest_50 (by decide) (fun c21 => ?_) (fun c21 => ?_)
    · have h := ifT c21 h
      refine q_iinc 5 (v := (l4 + (1 : Int32))) (lv' := [(4, .int (l4 + (1 : Int32))), (5, .int v20), (0, .ref l0), (1, .int l1), (2, .int l2), (3, .int l3)]) C dX8_dampest_59 rfl rfl (by decide) rfl ?_
      refine q_goto (tgt := 22) C dX8_dampest_62 (by decide) ?_
      exact q_sub (lv' := [(0, .ref l0), (1, .int l1), (2, .int l2), (3, .int l3), (4, .int (l4 + (1 : Int32)))]) [2, 3, 4, 5, 0] rfl (kc (l2, l3, (l4 + (1 : Int32))) (someI h))
    · have h := ifF c21 h
      refine q_iload 0 C dX8_dampest_53 rfl ?_
      refine q_istore_n (i := 3) (lv' := [(3, .int v20), (5, .int v20), (0, .ref l0), (1, .int l1), (2, .int l2), (4, .int l4)]) C dX8_dampest_55 rfl (by decide) rfl ?_
      refine q_iload 5 C dX8_dampest_56 rfl ?_
      refine q_istore_n (i := 2) (lv' := [(2, .int l4), (3, .int v20), (5, .int v20), (0, .ref l0), (1, .int l1), (4, .int l4)]) C dX8_dampest_58 rfl (by decide) rfl ?_
      refine q_iinc 5 (v := (l4 + (1 : Int32))) (lv' := [(4, .int (l4 + (1 : Int32))), (2, .int l4), (3, .int v20), (5, .int v20), (0, .ref l0), (1, .int l1)]) C dX8_dampest_59 rfl rfl (by decide) rfl ?_
      refine q_goto (tgt := 22) C dX8_dampest_62 (by decide) ?_
      exact q_sub (lv' := [(0, .ref l0), (1, .int l1), (2, .int l4), (3, .int v20), (4, .int (l4 + (1 : Int32)))]) [4, 5, 1, 2, 0] rfl (kc (l4, v20, (l4 + (1 : Int32))) (someI h))
theorem w_X8_dampest_l22 {X : CX} {r : Int32} (C : CK X cX8_dampest 6 RX8 10 204) (hRO : RO X.2.2.1 X.1.2.2.2.2.1 X.1.2.2.2.2.1.heap) (hl : X.1.2.1.stackTraces = false) (l0 : Nat) (l1 : Int32) (M : Mem) (l2 : Int32) (l3 : Int32) (l4 : Int32) (h : loop (fun s => F_X8_dampest_s22 l0 l1 M s.1 s.2.1 s.2.2) (l2, l3, l4) = some r) (kx : ∀ e' : Int32, r = e' → wq X 6 65 [(2, .int (e'))] [] M) : wq X 6 22 [(0, .ref l0), (1, .int l1), (2, .int l2), (3, .int l3), (4, .int l4)] [] M :=
  loop_ind (P := fun s => wq X 6 22 [(0, .ref l0), (1, .int l1), (2, .int s.1), (3, .int s.2.1), (4, .int s.2.2)] [] M) h (fun s y hy kc kr => w_X8_dampest_s22 C hRO hl l0 l1 M s.1 s.2.1 s.2.2 hy kc (fun e' he => kx e' (kr _ he).symm))
set_option maxRecDepth 100000 in
set_option maxHeartbeats 4000000 in
theorem w_X8_dampest {X : CX} {y : (Int32 × Mem) ⊕ (Nat × Mem)} (C : CK X cX8_dampest 6 RX8 10 204) (hRO : RO X.2.2.1 X.1.2.2.2.2.1 X.1.2.2.2.2.1.heap) (hl : X.1.2.1.stackTraces = false) (l0 : Nat) (l1 : Int32) (M : Mem) (h : F_X8_dampest l0 l1 M = some y) (kf : FIN X (some .int) (rs_tI y) (ms_tI y)) : wq X 6 0 [(0, .ref l0), (1, .int l1)] [] M := by
  unfold F_X8_dampest at h
  refine q_iload_n 1 C dX8_dampest_0 rfl ?_
  refine q_iconst (v := (1 : Int32)) C dX8_dampest_1 (by decide) ?_
  rcases bdVE h with ⟨M2, e1, h⟩ | ⟨x26, M27, e1, h⟩
  · refine q_callS (v := none) [.int l1, .int (1 : Int32)] C hRO lk_RX8_280 sk_X8_needDays rfl rfl (Nat.le_of_ble_eq_true rfl) (by decide) (by decide) dX8_dampest_2 (k_X8_needDays X.1.2.1 hl X.2.2.1 l1 (1 : Int32) M _ e1) ?_
    refine q_iconst (v := (0 : Int32)) C dX8_dampest_5 (by decide) ?_
    refine q_istore_n (i := 2) (lv' := [(2, .int (0 : Int32)), (0, .ref l0), (1, .int l1)]) C dX8_dampest_6 rfl (by decide) rfl ?_
    refine q_aload_n 1 C dX8_dampest_7 rfl ?_
    obtain ⟨v4, e5, h⟩ := bindE h
    refine q_getP C fl_RX8_23 rfl e5 dX8_dampest_8 ?_
    refine q_aload_n 1 C dX8_dampest_11 rfl ?_
    obtain ⟨v6, e7, h⟩ := bindE h
    refine q_getP C fl_RX8_33 rfl e7 dX8_dampest_12 ?_
    obtain ⟨e8, h⟩ := ckOE h
    obtain ⟨v10, e9, h⟩ := bindE h
    refine q_callV (v := some (.int v10)) [.ref v6] C hRO lk_RX8_128 vk_X2_dampOf e8 rfl rfl rfl (Nat.le_of_ble_eq_true rfl) (by decide) (by decide) dX8_dampest_15 (k_X2_dampOf X.1.2.1 hl X.2.2.1 v4 v6 M2 _ e9) ?_
    refine q_istore_n (i := 3) (lv' := [(3, .int v10), (2, .int (0 : Int32)), (0, .ref l0), (1, .int l1)]) C dX8_dampest_18 rfl (by decide) rfl ?_
    refine q_iconst (v := (1 : Int32)) C dX8_dampest_19 (by decide) ?_
    refine q_istore (i := 4) (lv' := [(4, .int (1 : Int32)), (3, .int v10), (2, .int (0 : Int32)), (0, .ref l0), (1, .int l1)]) C dX8_dampest_20 (by decide) rfl ?_
    obtain ⟨x24, e23, h⟩ := bindE h
    refine q_sub (lv' := [(0, .ref l0), (1, .int l1), (2, .int (0 : Int32)), (3, .int v10), (4, .int (1 : Int32))]) [3, 4, 2, 1, 0] rfl (w_X8_dampest_l22 C hRO hl l0 l1 M2 (0 : Int32) v10 (1 : Int32) e23 (fun r22 he => ?_))
    subst he
    show wq X 6 65 [(2, .int x24)] [] M2
    refine q_iload_n 0 C dX8_dampest_65 rfl ?_
    cases h
    exact q_iret C kf dX8_dampest_66
  · skip
    cases h
    exact q_callSX [.int l1, .int (1 : Int32)] C kf lk_RX8_280 sk_X8_needDays rfl rfl (Nat.le_of_ble_eq_true rfl) (by decide) (by decide) dX8_dampest_2 (k_X8_needDays X.1.2.1 hl X.2.2.1 l1 (1 : Int32) M _ e1)
theorem k_X8_dampest (l : Launch) (hl : l.stackTraces = false) (G : GG) (l0 : Nat) (l1 : Int32) (M : Mem) (x : (Int32 × Mem) ⊕ (Nat × Mem)) (h : F_X8_dampest l0 l1 M = some x) : Ct l G yX8_dampest (.code yX8_dampest cX8_dampest 6 (some .int)) 10 204 [.ref l0, .int l1] M (rs_tI x) (ms_tI x) := by
  refine Ct_of (by decide +kernel) (Nat.le_of_ble_eq_true rfl) fun X e1 e2 e3 C FN hnm => ?_
  subst e1; subst e2
  show wq X 6 0 [(0, .ref l0), (1, .int l1)] [] M
  exact w_X8_dampest C FN.2.2.2 hl l0 l1 M h FN
/-! X8_days -/
set_option maxRecDepth 100000 in
set_option maxHeartbeats 4000000 in
theorem w_X8_days {X : CX} {y : Int32 × Mem} (C : CK X cX8_days 2 RX8 12 260) (hRO : RO X.2.2.1 X.1.2.2.2.2.1 X.1.2.2.2.2.1.heap) (hl : X.1.2.1.stackTraces = false) (l0 : Nat) (l1 : Int32) (M : Mem) (h : F_X8_days l0 l1 M = some y) (kf : FIN X (some .int) (rs_mI y) (ms_mI y)) : wq X 2 0 [(0, .ref l0), (1, .int l1)] [] M := by
  unfold F_X8_days at h
  refine q_iload_n 1 C dX8_days_0 rfl ?_
  refine q_iconst (v := (1 : Int32)) C dX8_days_1 (by decide) ?_
  refine q_icmp_lt (tgt := 26) C dX8_days_2 (by decide) (fun c1 => ?_) (fun c1 => ?_)
  · have h := ifT c1 h
    refine q_aload_n 0 C dX8_days_26 rfl ?_
    obtain ⟨e2, h⟩ := ckOE h
    obtain ⟨v5, M4, e3, h⟩ := bd2E h
    refine q_callV (v := some (.int v5)) [] C hRO lk_RX8_239 vk_X8_refuseAct e2 rfl rfl rfl (Nat.le_of_ble_eq_true rfl) (by decide) (by decide) dX8_days_27 (k_X8_refuseAct X.1.2.1 hl X.2.2.1 l0 M _ e3) ?_
    cases h
    exact q_iret C kf dX8_days_30
  · have h := ifF c1 h
    refine q_iload_n 1 C dX8_days_5 rfl ?_
    refine q_bipush (v := (20 : Int32)) C dX8_days_6 (by decide) ?_
    refine q_icmp_gt (tgt := 26) C dX8_days_8 (by decide) (fun c6 => ?_) (fun c6 => ?_)
    · have h := ifT c6 h
      refine q_aload_n 0 C dX8_days_26 rfl ?_
      obtain ⟨e7, h⟩ := ckOE h
      obtain ⟨v10, M9, e8, h⟩ := bd2E h
      refine q_callV (v := some (.int v10)) [] C hRO lk_RX8_239 vk_X8_refuseAct e7 rfl rfl rfl (Nat.le_of_ble_eq_true rfl) (by decide) (by decide) dX8_days_27 (k_X8_refuseAct X.1.2.1 hl X.2.2.1 l0 M _ e8) ?_
      cases h
      exact q_iret C kf dX8_days_30
    · have h := ifF c6 h
      refine q_aload_n 0 C dX8_days_11 rfl ?_
      obtain ⟨v11, e12, h⟩ := bindE h
      refine q_getP C fl_RX8_33 rfl e12 dX8_days_12 ?_
      obtain ⟨v13, e14, h⟩ := bindE h
      refine q_getI C fl_RX8_125 rfl e14 dX8_days_15 ?_
      refine q_iload_n 1 C dX8_days_18 rfl ?_
      refine q_iadd C dX8_days_19 ?_
      refine q_sipush (v := (999 : Int32)) C dX8_days_20 (by decide) ?_
      refine q_icmp_le (tgt := 31) C dX8_days_23 (by decide) (fun c15 => ?_) (fun c15 => ?_)
      · have h := ifT c15 h
        refine q_aload_n 0 C dX8_days_31 rfl ?_
        obtain ⟨v16, e17, h⟩ := bindE h
        refine q_getP C fl_RX8_43 rfl e17 dX8_days_32 ?_
        refine q_aload_n 0 C dX8_days_35 rfl ?_
        obtain ⟨v18, e19, h⟩ := bindE h
        refine q_getP C fl_RX8_33 rfl e19 dX8_days_36 ?_
        obtain ⟨e20, h⟩ := ckOE h
        obtain ⟨M22, e21, h⟩ := bindE h
        refine q_callV (v := none) [.ref v18] C hRO lk_RX8_242 vk_X0_keep e20 rfl rfl rfl (Nat.le_of_ble_eq_true rfl) (by decide) (by decide) dX8_days_39 (k_X0_keep X.1.2.1 hl X.2.2.1 v16 v18 M _ e21) ?_
        refine q_aload_n 0 C dX8_days_42 rfl ?_
        refine q_aload_n 0 C dX8_days_43 rfl ?_
        obtain ⟨v24, e25, h⟩ := bindE h
        refine q_getP C fl_RX8_33 rfl e25 dX8_days_44 ?_
        refine q_iload_n 1 C dX8_days_47 rfl ?_
        obtain ⟨e26, h⟩ := ckOE h
        obtain ⟨M28, e27, h⟩ := bindE h
        refine q_callV (v := none) [.ref v24, .int l1] C hRO lk_RX8_245 vk_X8_pass e26 rfl rfl rfl (Nat.le_of_ble_eq_true rfl) (by decide) (by decide) dX8_days_48 (k_X8_pass X.1.2.1 hl X.2.2.1 l0 v24 l1 M22 _ e27) ?_
        refine q_aload_n 0 C dX8_days_51 rfl ?_
        obtain ⟨v30, e31, h⟩ := bindE h
        refine q_getP C fl_RX8_33 rfl e31 dX8_days_52 ?_
        obtain ⟨v32, e33, h⟩ := bindE h
        refine q_getI C fl_RX8_125 rfl e33 dX8_days_55 ?_
        cases h
        exact q_iret C kf dX8_days_58
      · have h := ifF c15 h
        refine q_aload_n 0 C dX8_days_26 rfl ?_
        obtain ⟨e34, h⟩ := ckOE h
        obtain ⟨v37, M36, e35, h⟩ := bd2E h
        refine q_callV (v := some (.int v37)) [] C hRO lk_RX8_239 vk_X8_refuseAct e34 rfl rfl rfl (Nat.le_of_ble_eq_true rfl) (by decide) (by decide) dX8_days_27 (k_X8_refuseAct X.1.2.1 hl X.2.2.1 l0 M _ e35) ?_
        cases h
        exact q_iret C kf dX8_days_30
theorem k_X8_days (l : Launch) (hl : l.stackTraces = false) (G : GG) (l0 : Nat) (l1 : Int32) (M : Mem) (x : Int32 × Mem) (h : F_X8_days l0 l1 M = some x) : Ct l G yX8_days (.code yX8_days cX8_days 2 (some .int)) 12 260 [.ref l0, .int l1] M (rs_mI x) (ms_mI x) := by
  refine Ct_of (by decide +kernel) (Nat.le_of_ble_eq_true rfl) fun X e1 e2 e3 C FN hnm => ?_
  subst e1; subst e2
  show wq X 2 0 [(0, .ref l0), (1, .int l1)] [] M
  exact w_X8_days C FN.2.2.2 hl l0 l1 M h FN
/-! X8_draw -/
set_option maxRecDepth 100000 in
set_option maxHeartbeats 4000000 in
theorem w_X8_draw {X : CX} {y : Int32} (C : CK X cX8_draw 2 RX8 7 140) (hRO : RO X.2.2.1 X.1.2.2.2.2.1 X.1.2.2.2.2.1.heap) (hl : X.1.2.1.stackTraces = false) (l0 : Int32) (l1 : Int32) (M : Mem) (h : F_X8_draw l0 l1 M = some y) (kf : FIN X (some .int) (rs_pI y) M) : wq X 2 0 [(0, .int l0), (1, .int l1)] [] M := by
  unfold F_X8_draw at h
  refine q_iload_n 1 C dX8_draw_0 rfl ?_
  refine q_if_le (tgt := 17) C dX8_draw_1 (by decide) (fun c1 => ?_) (fun c1 => ?_)
  · have h := ifT c1 h
    refine q_iconst (v := (0 : Int32)) C dX8_draw_17 (by decide) ?_
    cases h
    exact q_iret C kf dX8_draw_18
  · have h := ifF c1 h
    refine q_iload_n 0 C dX8_draw_4 rfl ?_
    refine q_bipush (v := (16 : Int32)) C dX8_draw_5 (by decide) ?_
    refine q_iushr C dX8_draw_7 ?_
    refine q_sipush (v := (32767 : Int32)) C dX8_draw_8 (by decide) ?_
    refine q_iand C dX8_draw_11 ?_
    refine q_iload_n 1 C dX8_draw_12 rfl ?_
    have c2 : ¬ l1 = 0 := fun c => nomatch ifT c h
    have h := ifF c2 h
    refine q_irem C c2 dX8_draw_13 ?_
    refine q_goto (tgt := 18) C dX8_draw_14 (by decide) ?_
    cases h
    exact q_iret C kf dX8_draw_18
theorem k_X8_draw (l : Launch) (hl : l.stackTraces = false) (G : GG) (l0 : Int32) (l1 : Int32) (M : Mem) (x : Int32) (h : F_X8_draw l0 l1 M = some x) : Ct l G yX8_draw (.code yX8_draw cX8_draw 2 (some .int)) 7 140 [.int l0, .int l1] M (rs_pI x) M := by
  refine Ct_of (by decide +kernel) (Nat.le_of_ble_eq_true rfl) fun X e1 e2 e3 C FN hnm => ?_
  subst e1; subst e2
  show wq X 2 0 [(0, .int l0), (1, .int l1)] [] M
  exact w_X8_draw C FN.2.2.2 hl l0 l1 M h FN
/-! X8_drawAfter -/
set_option maxRecDepth 100000 in
set_option maxHeartbeats 4000000 in
theorem w_X8_drawAfter {X : CX} {y : Int32} (C : CK X cX8_drawAfter 1 RX8 7 140) (hRO : RO X.2.2.1 X.1.2.2.2.2.1 X.1.2.2.2.2.1.heap) (hl : X.1.2.1.stackTraces = false) (l0 : Int32) (M : Mem) (h : F_X8_drawAfter l0 M = some y) (kf : FIN X (some .int) (rs_pI y) M) : wq X 1 0 [(0, .int l0)] [] M := by
  unfold F_X8_drawAfter at h
  refine q_iload_n 0 C dX8_drawAfter_0 rfl ?_
  refine q_ldcw (v := (1103515245 : Int32)) C cn_RX8_388 dX8_drawAfter_1 ?_
  refine q_imul C dX8_drawAfter_4 ?_
  refine q_sipush (v := (12345 : Int32)) C dX8_drawAfter_5 (by decide) ?_
  refine q_iadd C dX8_drawAfter_8 ?_
  cases h
  exact q_iret C kf dX8_drawAfter_9
theorem k_X8_drawAfter (l : Launch) (hl : l.stackTraces = false) (G : GG) (l0 : Int32) (M : Mem) (x : Int32) (h : F_X8_drawAfter l0 M = some x) : Ct l G yX8_drawAfter (.code yX8_drawAfter cX8_drawAfter 1 (some .int)) 7 140 [.int l0] M (rs_pI x) M := by
  refine Ct_of (by decide +kernel) (Nat.le_of_ble_eq_true rfl) fun X e1 e2 e3 C FN hnm => ?_
  subst e1; subst e2
  show wq X 1 0 [(0, .int l0)] [] M
  exact w_X8_drawAfter C FN.2.2.2 hl l0 M h FN
/-! X8_eased -/
set_option maxRecDepth 100000 in
set_option maxHeartbeats 4000000 in
theorem w_X8_eased_j82_35 {X : CX} {y : (Int32 × Int32 × Int32 × Mem) ⊕ (Int32 × Mem)} (C : CK X cX8_eased 8 RX8 12 260) (hRO : RO X.2.2.1 X.1.2.2.2.2.1 X.1.2.2.2.2.1.heap) (hl : X.1.2.1.stackTraces = false) (l0 : Nat) (l1 : Int32) (l2 : Int32) (l3 : Int32) (l4 : Int32) (l5 : Int32) (l6 : Int32) (M : Mem) (h : F_X8_eased_j82_35 l0 l1 l2 l3 l4 l5 l6 M = some y) (kc : ∀ s' : Int32 × Int32 × Int32 × Mem, y = .inl s' → wq X 8 35 [(0, .ref l0), (1, .int l1), (2, .int l2), (3, .int l3), (4, .int (s'.1)), (5, .int (s'.2.1)), (6, .int (s'.2.2.1))] [] s'.2.2.2) (kx : ∀ e' : Int32 × Mem, y = (.inr e') → wq X 8 97 [(4, .int (e'.1))] [] e'.2) : wq X 8 82 [(0, .ref l0), (1, .int l1), (2, .int l2), (3, .int l3), (4, .int l4), (5, .int l5), (6, .int l6)] [] M := by
  unfold F_X8_eased_j82_35 at h
  refine q_aload_n 0 C dX8_eased_82 rfl ?_
  refine q_aload_n 0 C dX8_eased_83 rfl ?_
  obtain ⟨v37, e38, h⟩ := bindE h
  refine q_getP C fl_RX8_37 rfl e38 dX8_eased_84 ?_
  refine q_iconst (v := (1 : Int32)) C dX8_eased_87 (by decide) ?_
  obtain ⟨e39, h⟩ := ckOE h
  obtain ⟨M41, e40, h⟩ := bindE h
  refine q_callV (v := none) [.ref v37, .int (1 : Int32)] C hRO lk_RX8_245 vk_X8_pass e39 rfl rfl rfl (Nat.le_of_ble_eq_true rfl) (by decide) (by decide) dX8_eased_88 (k_X8_pass X.1.2.1 hl X.2.2.1 l0 v37 (1 : Int32) M _ e40) ?_
  refine q_iinc 6 (v := (l6 + (1 : Int32))) (lv' := [(6, .int (l6 + (1 : Int32))), (0, .ref l0), (1, .int l1), (2, .int l2), (3, .int l3), (4, .int l4), (5, .int l5)]) C dX8_eased_91 rfl rfl (by decide) rfl ?_
  refine q_goto (tgt := 35) C dX8_eased_94 (by decide) ?_
  exact q_sub (lv' := [(0, .ref l0), (1, .int l1), (2, .int l2), (3, .int l3), (4, .int l4), (5, .int l5), (6, .int (l6 + (1 : Int32)))]) [1, 2, 3, 4, 5, 6, 0] rfl (kc (l4, l5, (l6 + (1 : Int32)), M41) (someI h))
set_option maxRecDepth 100000 in
set_option maxHeartbeats 4000000 in
theorem w_X8_eased_s35 {X : CX} {y : (Int32 × Int32 × Int32 × Mem) ⊕ (Int32 × Mem)} (C : CK X cX8_eased 8 RX8 12 260) (hRO : RO X.2.2.1 X.1.2.2.2.2.1 X.1.2.2.2.2.1.heap) (hl : X.1.2.1.stackTraces = false) (l0 : Nat) (l1 : Int32) (l2 : Int32) (l3 : Int32) (l4 : Int32) (l5 : Int32) (l6 : Int32) (M : Mem) (h : F_X8_eased_s35 l0 l1 l2 l3 l4 l5 l6 M = some y) (kc : ∀ s' : Int32 × Int32 × Int32 × Mem, y = .inl s' → wq X 8 35 [(0, .ref l0), (1, .int l1), (2, .int l2), (3, .int l3), (4, .int (s'.1)), (5, .int (s'.2.1)), (6, .int (s'.2.2.1))] [] s'.2.2.2) (kx : ∀ e' : Int32 × Mem, y = (.inr e') → wq X 8 97 [(4, .int (e'.1))] [] e'.2) : wq X 8 35 [(0, .ref l0), (1, .int l1), (2, .int l2), (3, .int l3), (4, .int l4), (5, .int l5), (6, .int l6)] [] M := by
  unfold F_X8_eased_s35 at h
  refine q_iload 6 C dX8_eased_35 rfl ?_
  refine q_iload_n 3 C dX8_eased_37 rfl ?_
  refine q_icmp_ge (tgt := 97) C dX8_eased_38 (by decide) (fun c20 => ?_) (fun c20 => ?_)
  · have h := ifT c20 h
    exact q_sub (lv' := [(4, .int l4)]) [4] rfl (kx (l4, M) (someI h))
  · have h := ifF c20 h
    refine q_aload_n 0 C dX8_eased_41 rfl ?_
    obtain ⟨v21, e22, h⟩ := bindE h
    refine q_getP C fl_RX8_23 rfl e22 dX8_eased_42 ?_
    refine q_aload_n 0 C dX8_eased_45 rfl ?_
    obtain ⟨v23, e24, h⟩ := bindE h
    refine q_getP C fl_RX8_37 rfl e24 dX8_eased_46 ?_
    refine q_iload_n 1 C dX8_eased_49 rfl ?_
    refine q_iload_n 2 C dX8_eased_50 rfl ?_
    refine q_aload_n 0 C dX8_eased_51 rfl ?_
    obtain ⟨v25, e26, h⟩ := bindE h
    refine q_getP C fl_RX8_23 rfl e26 dX8_eased_52 ?_
    refine q_aload_n 0 C dX8_eased_55 rfl ?_
    obtain ⟨v27, e28, h⟩ := bindE h
    refine q_getP C fl_RX8_37 rfl e28 dX8_eased_56 ?_
    obtain ⟨e29, h⟩ := ckOE h
    obtain ⟨v31, e30, h⟩ := bindE h
    refine q_callV (v := some (.int v31)) [.ref v27] C hRO lk_RX8_128 vk_X2_dampOf e29 rfl rfl rfl (Nat.le_of_ble_eq_true rfl) (by decide) (by decide) dX8_eased_59 (k_X2_dampOf X.1.2.1 hl X.2.2.1 v25 v27 M _ e30) ?_
    obtain ⟨e32, h⟩ := ckOE h
    obtain ⟨v35, M34, e33, h⟩ := bd2E h
    refine q_callV (v := some (.int v35)) [.ref v23, .int l1, .int l2, .int v31] C hRO lk_RX8_231 vk_X2_easing e32 rfl rfl rfl (Nat.le_of_ble_eq_true rfl) (by decide) (by decide) dX8_eased_62 (k_X2_easing X.1.2.1 hl X.2.2.1 v21 v23 l1 l2 v31 M _ e33) ?_
    refine q_istore (i := 7) (lv' := [(7, .int v35), (0, .ref l0), (1, .int l1), (2, .int l2), (3, .int l3), (4, .int l4), (5, .int l5), (6, .int l6)]) C dX8_eased_65 (by decide) rfl ?_
    refine q_iload 0 C dX8_eased_67 rfl ?_
    refine q_iload 6 C dX8_eased_69 rfl ?_
    refine q_icmp_le (tgt := 82) C dX8_eased_71 (by decide) (fun c36 => ?_) (fun c36 => ?_)
    · have h := ifT c36 h
      exact q_sub (lv' := [(0, .ref l0), (1, .int l1), (2, .int l2), (3, .int l3), (4, .int l4), (5, .int l5), (6, .int l6)]) [1, 2, 3, 4, 5, 6, 7] rfl (w_X8_eased_j82_35 C hRO hl l0 l1 l2 l3 l4 l5 l6 M34 h kc kx)
    · have h := ifF c36 h
      refine q_iload 0 C dX8_eased_74 rfl ?_
      refine q_istore (i := 5) (lv' := [(5, .int v35), (7, .int v35), (0, .ref l0), (1, .int l1), (2, .int l2), (3, .int l3), (4, .int l4), (6, .int l6)]) C dX8_eased_76 (by decide) rfl ?_
      refine q_iload 7 C dX8_eased_78 rfl ?_
      refine q_istore (i := 4) (lv' := [(4, .int l6), (5, .int v35), (7, .int v35), (0, .ref l0), (1, .int l1), (2, .int l2), (3, .int l3), (6, .int l6)]) C dX8_eased_80 (by decide) rfl ?_
      exact q_sub (lv' := [(0, .ref l0), (1, .int l1), (2, .int l2), (3, .int l3), (4, .int l6), (5, .int v35), (6, .int l6)]) [3, 4, 5, 6, 0, 1, 7] rfl (w_X8_eased_j82_35 C hRO hl l0 l1 l2 l3 l6 v35 l6 M34 h kc kx)
theorem w_X8_eased_l35 {X : CX} {r : Int32 × Mem} (C : CK X cX8_eased 8 RX8 12 260) (hRO : RO X.2.2.1 X.1.2.2.2.2.1 X.1.2.2.2.2.1.heap) (hl : X.1.2.1.stackTraces = false) (l0 : Nat) (l1 : Int32) (l2 : Int32) (l3 : Int32) (l4 : Int32) (l5 : Int32) (l6 : Int32) (M : Mem) (h : loop (fun s => F_X8_eased_s35 l0 l1 l2 l3 s.1 s.2.1 s.2.2.1 s.2.2.2) (l4, l5, l6, M) = some r) (kx : ∀ e' : Int32 × Mem, r = e' → wq X 8 97 [(4, .int (e'.1))] [] e'.2) : wq X 8 35 [(0, .ref l0), (1, .int l1), (2, .int l2), (3, .int l3), (4, .int l4), (5, .int l5), (6, .int l6)] [] M :=
  loop_ind (P := fun s => wq X 8 35 [(0, .ref l0), (1, .int l1), (2, .int l2), (3, .int l3), (4, .int s.1), (5, .int s.2.1), (6, .int s.2.2.1)] [] s.2.2.2) h (fun s y hy kc kr => w_X8_eased_s35 C hRO hl l0 l1 l2 l3 s.1 s.2.1 s.2.2.1 s.2.2.2 hy kc (fun e' he => kx e' (kr _ he).symm))
set_option maxRecDepth 100000 in
set_option maxHeartbeats 4000000 in
theorem w_X8_eased {X : CX} {y : (Int32 × Mem) ⊕ (Nat × Mem)} (C : CK X cX8_eased 8 RX8 12 260) (hRO : RO X.2.2.1 X.1.2.2.2.2.1 X.1.2.2.2.2.1.heap) (hl : X.1.2.1.stackTraces = false) (l0 : Nat) (l1 : Int32) (l2 : Int32) (l3 : Int32) (M : Mem) (h : F_X8_eased l0 l1 l2 l3 M = some y) (kf : FIN X (some .int) (rs_tI y) (ms_tI y)) : wq X 8 0 [(0, .ref l0), (1, .int l1), (2, .int l2), (3, .int l3)] [] M := by
  unfold F_X8_eased at h
  refine q_aload_n 0 C dX8_eased_0 rfl ?_
  refine q_iload_n 1 C dX8_eased_1 rfl ?_
  obtain ⟨e1, h⟩ := ckOE h
  rcases bdVE h with ⟨M3, e2, h⟩ | ⟨x52, M53, e2, h⟩
  · refine q_callV (v := none) [.int l1] C hRO lk_RX8_223 vk_X8_needPerson e1 rfl rfl rfl (Nat.le_of_ble_eq_true rfl) (by decide) (by decide) dX8_eased_2 (k_X8_needPerson X.1.2.1 hl X.2.2.1 l0 l1 M _ e2) ?_
    refine q_aload_n 0 C dX8_eased_5 rfl ?_
    refine q_iload_n 2 C dX8_eased_6 rfl ?_
    obtain ⟨e5, h⟩ := ckOE h
    rcases bdVE h with ⟨M7, e6, h⟩ | ⟨x50, M51, e6, h⟩
    · refine q_callV (v := none) [.int l2] C hRO lk_RX8_186 vk_X8_needHouse e5 rfl rfl rfl (Nat.le_of_ble_eq_true rfl) (by decide) (by decide) dX8_eased_7 (k_X8_needHouse X.1.2.1 hl X.2.2.1 l0 l2 M3 _ e6) ?_
      refine q_iload_n 3 C dX8_eased_10 rfl ?_
      refine q_iconst (v := (1 : Int32)) C dX8_eased_11 (by decide) ?_
      rcases bdVE h with ⟨M10, e9, h⟩ | ⟨x48, M49, e9, h⟩
      · refine q_callS (v := none) [.int l3, .int (1 : Int32)] C hRO lk_RX8_280 sk_X8_needDays rfl rfl (Nat.le_of_ble_eq_true rfl) (by decide) (by decide) dX8_eased_12 (k_X8_needDays X.1.2.1 hl X.2.2.1 l3 (1 : Int32) M7 _ e9) ?_
        refine q_aload_n 0 C dX8_eased_15 rfl ?_
        obtain ⟨v12, e13, h⟩ := bindE h
        refine q_getP C fl_RX8_37 rfl e13 dX8_eased_16 ?_
        refine q_aload_n 0 C dX8_eased_19 rfl ?_
        obtain ⟨v14, e15, h⟩ := bindE h
        refine q_getP C fl_RX8_33 rfl e15 dX8_eased_20 ?_
        obtain ⟨e16, h⟩ := ckOE h
        obtain ⟨M18, e17, h⟩ := bindE h
        refine q_callV (v := none) [.ref v14] C hRO lk_RX8_274 vk_X6_copy e16 rfl rfl rfl (Nat.le_of_ble_eq_true rfl) (by decide) (by decide) dX8_eased_23 (k_X6_copy X.1.2.1 hl X.2.2.1 v12 v14 M10 _ e17) ?_
        refine q_iconst (v := (0 : Int32)) C dX8_eased_26 (by decide) ?_
        refine q_istore (i := 4) (lv' := [(4, .int (0 : Int32)), (0, .ref l0), (1, .int l1), (2, .int l2), (3, .int l3)]) C dX8_eased_27 (by decide) rfl ?_
        refine q_iconst (v := (-1 : Int32)) C dX8_eased_29 (by decide) ?_
        refine q_istore (i := 5) (lv' := [(5, .int (-1 : Int32)), (4, .int (0 : Int32)), (0, .ref l0), (1, .int l1), (2, .int l2), (3, .int l3)]) C dX8_eased_30 (by decide) rfl ?_
        refine q_iconst (v := (0 : Int32)) C dX8_eased_32 (by decide) ?_
        refine q_istore (i := 6) (lv' := [(6, .int (0 : Int32)), (5, .int (-1 : Int32)), (4, .int (0 : Int32)), (0, .ref l0), (1, .int l1), (2, .int l2), (3, .int l3)]) C dX8_eased_33 (by decide) rfl ?_
        obtain ⟨⟨x45, M46⟩, e44, h⟩ := bindE h
        refine q_sub (lv' := [(0, .ref l0), (1, .int l1), (2, .int l2), (3, .int l3), (4, .int (0 : Int32)), (5, .int (-1 : Int32)), (6, .int (0 : Int32))]) [3, 4, 5, 6, 2, 1, 0] rfl (w_X8_eased_l35 C hRO hl l0 l1 l2 l3 (0 : Int32) (-1 : Int32) (0 : Int32) M18 e44 (fun r43 he => ?_))
        subst he
        have h := u2E h
        show wq X 8 97 [(4, .int x45)] [] M46
        refine q_iload 0 C dX8_eased_97 rfl ?_
        cases h
        exact q_iret C kf dX8_eased_99
      · skip
        cases h
        exact q_callSX [.int l3, .int (1 : Int32)] C kf lk_RX8_280 sk_X8_needDays rfl rfl (Nat.le_of_ble_eq_true rfl) (by decide) (by decide) dX8_eased_12 (k_X8_needDays X.1.2.1 hl X.2.2.1 l3 (1 : Int32) M7 _ e9)
    · skip
      cases h
      exact q_callVX [.int l2] C kf lk_RX8_186 vk_X8_needHouse e5 rfl rfl rfl (Nat.le_of_ble_eq_true rfl) (by decide) (by decide) dX8_eased_7 (k_X8_needHouse X.1.2.1 hl X.2.2.1 l0 l2 M3 _ e6)
  · skip
    cases h
    exact q_callVX [.int l1] C kf lk_RX8_223 vk_X8_needPerson e1 rfl rfl rfl (Nat.le_of_ble_eq_true rfl) (by decide) (by decide) dX8_eased_2 (k_X8_needPerson X.1.2.1 hl X.2.2.1 l0 l1 M _ e2)
theorem k_X8_eased (l : Launch) (hl : l.stackTraces = false) (G : GG) (l0 : Nat) (l1 : Int32) (l2 : Int32) (l3 : Int32) (M : Mem) (x : (Int32 × Mem) ⊕ (Nat × Mem)) (h : F_X8_eased l0 l1 l2 l3 M = some x) : Ct l G yX8_eased (.code yX8_eased cX8_eased 8 (some .int)) 12 260 [.ref l0, .int l1, .int l2, .int l3] M (rs_tI x) (ms_tI x) := by
  refine Ct_of (by decide +kernel) (Nat.le_of_ble_eq_true rfl) fun X e1 e2 e3 C FN hnm => ?_
  subst e1; subst e2
  show wq X 8 0 [(0, .ref l0), (1, .int l1), (2, .int l2), (3, .int l3)] [] M
  exact w_X8_eased C FN.2.2.2 hl l0 l1 l2 l3 M h FN
/-! X8_eases -/
set_option maxRecDepth 100000 in
set_option maxHeartbeats 4000000 in
theorem w_X8_eases {X : CX} {y : (Int32 × Mem) ⊕ (Nat × Mem)} (C : CK X cX8_eases 3 RX8 10 212) (hRO : RO X.2.2.1 X.1.2.2.2.2.1 X.1.2.2.2.2.1.heap) (hl : X.1.2.1.stackTraces = false) (l0 : Nat) (l1 : Int32) (l2 : Int32) (M : Mem) (h : F_X8_eases l0 l1 l2 M = some y) (kf : FIN X (some .int) (rs_tI y) (ms_tI y)) : wq X 3 0 [(0, .ref l0), (1, .int l1), (2, .int l2)] [] M := by
  unfold F_X8_eases at h
  refine q_aload_n 0 C dX8_eases_0 rfl ?_
  refine q_iload_n 1 C dX8_eases_1 rfl ?_
  obtain ⟨e1, h⟩ := ckOE h
  rcases bdVE h with ⟨M3, e2, h⟩ | ⟨x26, M27, e2, h⟩
  · refine q_callV (v := none) [.int l1] C hRO lk_RX8_223 vk_X8_needPerson e1 rfl rfl rfl (Nat.le_of_ble_eq_true rfl) (by decide) (by decide) dX8_eases_2 (k_X8_needPerson X.1.2.1 hl X.2.2.1 l0 l1 M _ e2) ?_
    refine q_aload_n 0 C dX8_eases_5 rfl ?_
    refine q_iload_n 2 C dX8_eases_6 rfl ?_
    obtain ⟨e5, h⟩ := ckOE h
    rcases bdVE h with ⟨M7, e6, h⟩ | ⟨x24, M25, e6, h⟩
    · refine q_callV (v := none) [.int l2] C hRO lk_RX8_186 vk_X8_needHouse e5 rfl rfl rfl (Nat.le_of_ble_eq_true rfl) (by decide) (by decide) dX8_eases_7 (k_X8_needHouse X.1.2.1 hl X.2.2.1 l0 l2 M3 _ e6) ?_
      refine q_aload_n 0 C dX8_eases_10 rfl ?_
      obtain ⟨v9, e10, h⟩ := bindE h
      refine q_getP C fl_RX8_23 rfl e10 dX8_eases_11 ?_
      refine q_aload_n 0 C dX8_eases_14 rfl ?_
      obtain ⟨v11, e12, h⟩ := bindE h
      refine q_getP C fl_RX8_33 rfl e12 dX8_eases_15 ?_
      refine q_iload_n 1 C dX8_eases_18 rfl ?_
      refine q_iload_n 2 C dX8_eases_19 rfl ?_
      refine q_aload_n 0 C dX8_eases_20 rfl ?_
      obtain ⟨v13, e14, h⟩ := bindE h
      refine q_getP C fl_RX8_23 rfl e14 dX8_eases_21 ?_
      refine q_aload_n 0 C dX8_eases_24 rfl ?_
      obtain ⟨v15, e16, h⟩ := bindE h
      refine q_getP C fl_RX8_33 rfl e16 dX8_eases_25 ?_
      obtain ⟨e17, h⟩ := ckOE h
      obtain ⟨v19, e18, h⟩ := bindE h
      refine q_callV (v := some (.int v19)) [.ref v15] C hRO lk_RX8_128 vk_X2_dampOf e17 rfl rfl rfl (Nat.le_of_ble_eq_true rfl) (by decide) (by decide) dX8_eases_28 (k_X2_dampOf X.1.2.1 hl X.2.2.1 v13 v15 M7 _ e18) ?_
      obtain ⟨e20, h⟩ := ckOE h
      obtain ⟨v23, M22, e21, h⟩ := bd2E h
      refine q_callV (v := some (.int v23)) [.ref v11, .int l1, .int l2, .int v19] C hRO lk_RX8_231 vk_X2_easing e20 rfl rfl rfl (Nat.le_of_ble_eq_true rfl) (by decide) (by decide) dX8_eases_31 (k_X2_easing X.1.2.1 hl X.2.2.1 v9 v11 l1 l2 v19 M7 _ e21) ?_
      cases h
      exact q_iret C kf dX8_eases_34
    · skip
      cases h
      exact q_callVX [.int l2] C kf lk_RX8_186 vk_X8_needHouse e5 rfl rfl rfl (Nat.le_of_ble_eq_true rfl) (by decide) (by decide) dX8_eases_7 (k_X8_needHouse X.1.2.1 hl X.2.2.1 l0 l2 M3 _ e6)
  · skip
    cases h
    exact q_callVX [.int l1] C kf lk_RX8_223 vk_X8_needPerson e1 rfl rfl rfl (Nat.le_of_ble_eq_true rfl) (by decide) (by decide) dX8_eases_2 (k_X8_needPerson X.1.2.1 hl X.2.2.1 l0 l1 M _ e2)
theorem k_X8_eases (l : Launch) (hl : l.stackTraces = false) (G : GG) (l0 : Nat) (l1 : Int32) (l2 : Int32) (M : Mem) (x : (Int32 × Mem) ⊕ (Nat × Mem)) (h : F_X8_eases l0 l1 l2 M = some x) : Ct l G yX8_eases (.code yX8_eases cX8_eases 3 (some .int)) 10 212 [.ref l0, .int l1, .int l2] M (rs_tI x) (ms_tI x) := by
  refine Ct_of (by decide +kernel) (Nat.le_of_ble_eq_true rfl) fun X e1 e2 e3 C FN hnm => ?_
  subst e1; subst e2
  show wq X 3 0 [(0, .ref l0), (1, .int l1), (2, .int l2)] [] M
  exact w_X8_eases C FN.2.2.2 hl l0 l1 l2 M h FN
/-! X8_endures -/
set_option maxRecDepth 100000 in
set_option maxHeartbeats 4000000 in
theorem w_X8_endures_j63 {X : CX} {y : (Int32 × Mem) ⊕ (Nat × Mem)} (C : CK X cX8_endures 3 RX8 12 260) (hRO : RO X.2.2.1 X.1.2.2.2.2.1 X.1.2.2.2.2.1.heap) (hl : X.1.2.1.stackTraces = false) (l0 : Nat) (l1 : Int32) (l2 : Int32) (M : Mem) (h : F_X8_endures_j63 l0 l1 l2 M = some y) (kf : FIN X (some .int) (rs_tI y) (ms_tI y)) : wq X 3 63 [(0, .ref l0), (1, .int l1), (2, .int l2)] [] M := by
  unfold F_X8_endures_j63 at h
  refine q_aload_n 0 C dX8_endures_63 rfl ?_
  obtain ⟨v30, e31, h⟩ := bindE h
  refine q_getP C fl_RX8_37 rfl e31 dX8_endures_64 ?_
  refine q_iload_n 1 C dX8_endures_67 rfl ?_
  obtain ⟨e32, h⟩ := ckOE h
  obtain ⟨M34, e33, h⟩ := bindE h
  refine q_callV (v := none) [.int l1] C hRO lk_RX8_257 vk_X6_leave e32 rfl rfl rfl (Nat.le_of_ble_eq_true rfl) (by decide) (by decide) dX8_endures_68 (k_X6_leave X.1.2.1 hl X.2.2.1 v30 l1 M _ e33) ?_
  refine q_aload_n 0 C dX8_endures_71 rfl ?_
  obtain ⟨v36, e37, h⟩ := bindE h
  refine q_getP C fl_RX8_37 rfl e37 dX8_endures_72 ?_
  refine q_iload_n 1 C dX8_endures_75 rfl ?_
  refine q_iload_n 2 C dX8_endures_76 rfl ?_
  obtain ⟨e38, h⟩ := ckOE h
  obtain ⟨M40, e39, h⟩ := bindE h
  refine q_callV (v := none) [.int l1, .int l2] C hRO lk_RX8_253 vk_X6_settle e38 rfl rfl rfl (Nat.le_of_ble_eq_true rfl) (by decide) (by decide) dX8_endures_77 (k_X6_settle X.1.2.1 hl X.2.2.1 v36 l1 l2 M34 _ e39) ?_
  refine q_aload_n 0 C dX8_endures_80 rfl ?_
  refine q_iload_n 2 C dX8_endures_81 rfl ?_
  obtain ⟨e42, h⟩ := ckOE h
  obtain ⟨v45, M44, e43, h⟩ := bd2E h
  refine q_callV (v := some (.int v45)) [.int l2] C hRO lk_RX8_287 vk_X8_daysTillBurst e42 rfl rfl rfl (Nat.le_of_ble_eq_true rfl) (by decide) (by decide) dX8_endures_82 (k_X8_daysTillBurst X.1.2.1 hl X.2.2.1 l0 l2 M40 _ e43) ?_
  cases h
  exact q_iret C kf dX8_endures_85
set_option maxRecDepth 100000 in
set_option maxHeartbeats 4000000 in
theorem w_X8_endures {X : CX} {y : (Int32 × Mem) ⊕ (Nat × Mem)} (C : CK X cX8_endures 3 RX8 12 260) (hRO : RO X.2.2.1 X.1.2.2.2.2.1 X.1.2.2.2.2.1.heap) (hl : X.1.2.1.stackTraces = false) (l0 : Nat) (l1 : Int32) (l2 : Int32) (M : Mem) (h : F_X8_endures l0 l1 l2 M = some y) (kf : FIN X (some .int) (rs_tI y) (ms_tI y)) : wq X 3 0 [(0, .ref l0), (1, .int l1), (2, .int l2)] [] M := by
  unfold F_X8_endures at h
  refine q_aload_n 0 C dX8_endures_0 rfl ?_
  refine q_iload_n 1 C dX8_endures_1 rfl ?_
  obtain ⟨e1, h⟩ := ckOE h
  rcases bdVE h with ⟨M3, e2, h⟩ | ⟨x60, M61, e2, h⟩
  · refine q_callV (v := none) [.int l1] C hRO lk_RX8_223 vk_X8_needPerson e1 rfl rfl rfl (Nat.le_of_ble_eq_true rfl) (by decide) (by decide) dX8_endures_2 (k_X8_needPerson X.1.2.1 hl X.2.2.1 l0 l1 M _ e2) ?_
    refine q_aload_n 0 C dX8_endures_5 rfl ?_
    refine q_iload_n 2 C dX8_endures_6 rfl ?_
    obtain ⟨e5, h⟩ := ckOE h
    rcases bdVE h with ⟨M7, e6, h⟩ | ⟨x58, M59, e6, h⟩
    · refine q_callV (v := none) [.int l2] C hRO lk_RX8_186 vk_X8_needHouse e5 rfl rfl rfl (Nat.le_of_ble_eq_true rfl) (by decide) (by decide) dX8_endures_7 (k_X8_needHouse X.1.2.1 hl X.2.2.1 l0 l2 M3 _ e6) ?_
      refine q_aload_n 0 C dX8_endures_10 rfl ?_
      obtain ⟨v9, e10, h⟩ := bindE h
      refine q_getP C fl_RX8_33 rfl e10 dX8_endures_11 ?_
      refine q_iload_n 2 C dX8_endures_14 rfl ?_
      obtain ⟨e11, h⟩ := ckOE h
      obtain ⟨v13, e12, h⟩ := bindE h
      refine q_callV (v := some (.int v13)) [.int l2] C hRO lk_RX8_200 vk_X6_isBurst e11 rfl rfl rfl (Nat.le_of_ble_eq_true rfl) (by decide) (by decide) dX8_endures_15 (k_X6_isBurst X.1.2.1 hl X.2.2.1 v9 l2 M7 _ e12) ?_
      refine q_if_eq (tgt := 23) C dX8_endures_18 (by decide) (fun c14 => ?_) (fun c14 => ?_)
      · have h := ifT c14 h
        refine q_aload_n 0 C dX8_endures_23 rfl ?_
        obtain ⟨v15, e16, h⟩ := bindE h
        refine q_getP C fl_RX8_37 rfl e16 dX8_endures_24 ?_
        refine q_aload_n 0 C dX8_endures_27 rfl ?_
        obtain ⟨v17, e18, h⟩ := bindE h
        refine q_getP C fl_RX8_33 rfl e18 dX8_endures_28 ?_
        obtain ⟨e19, h⟩ := ckOE h
        obtain ⟨M21, e20, h⟩ := bindE h
        refine q_callV (v := none) [.ref v17] C hRO lk_RX8_274 vk_X6_copy e19 rfl rfl rfl (Nat.le_of_ble_eq_true rfl) (by decide) (by decide) dX8_endures_31 (k_X6_copy X.1.2.1 hl X.2.2.1 v15 v17 M7 _ e20) ?_
        refine q_aload_n 0 C dX8_endures_34 rfl ?_
        obtain ⟨v23, e24, h⟩ := bindE h
        refine q_getP C fl_RX8_37 rfl e24 dX8_endures_35 ?_
        obtain ⟨v25, e26, h⟩ := bindE h
        refine q_getP C fl_RX8_159 rfl e26 dX8_endures_38 ?_
        refine q_iload_n 2 C dX8_endures_41 rfl ?_
        obtain ⟨v27, e28, h⟩ := bindE h
        refine q_iaload C e28 dX8_endures_42 ?_
        refine q_iconst (v := (-1 : Int32)) C dX8_endures_43 (by decide) ?_
        refine q_icmp_eq (tgt := 63) C dX8_endures_44 (by decide) (fun c29 => ?_) (fun c29 => ?_)
        · have h := ifT c29 h
          exact q_sub (lv' := [(0, .ref l0), (1, .int l1), (2, .int l2)]) [0, 1, 2] rfl (w_X8_endures_j63 C hRO hl l0 l1 l2 M21 h kf)
        · have h := ifF c29 h
          refine q_aload_n 0 C dX8_endures_47 rfl ?_
          obtain ⟨v46, e47, h⟩ := bindE h
          refine q_getP C fl_RX8_37 rfl e47 dX8_endures_48 ?_
          refine q_aload_n 0 C dX8_endures_51 rfl ?_
          obtain ⟨v48, e49, h⟩ := bindE h
          refine q_getP C fl_RX8_37 rfl e49 dX8_endures_52 ?_
          obtain ⟨v50, e51, h⟩ := bindE h
          refine q_getP C fl_RX8_159 rfl e51 dX8_endures_55 ?_
          refine q_iload_n 2 C dX8_endures_58 rfl ?_
          obtain ⟨v52, e53, h⟩ := bindE h
          refine q_iaload C e53 dX8_endures_59 ?_
          obtain ⟨e54, h⟩ := ckOE h
          obtain ⟨M56, e55, h⟩ := bindE h
          refine q_callV (v := none) [.int v52] C hRO lk_RX8_257 vk_X6_leave e54 rfl rfl rfl (Nat.le_of_ble_eq_true rfl) (by decide) (by decide) dX8_endures_60 (k_X6_leave X.1.2.1 hl X.2.2.1 v46 v52 M21 _ e55) ?_
          exact q_sub (lv' := [(0, .ref l0), (1, .int l1), (2, .int l2)]) [0, 1, 2] rfl (w_X8_endures_j63 C hRO hl l0 l1 l2 M56 h kf)
      · have h := ifF c14 h
        refine q_iconst (v := (-1 : Int32)) C dX8_endures_21 (by decide) ?_
        cases h
        exact q_iret C kf dX8_endures_22
    · skip
      cases h
      exact q_callVX [.int l2] C kf lk_RX8_186 vk_X8_needHouse e5 rfl rfl rfl (Nat.le_of_ble_eq_true rfl) (by decide) (by decide) dX8_endures_7 (k_X8_needHouse X.1.2.1 hl X.2.2.1 l0 l2 M3 _ e6)
  · skip
    cases h
    exact q_callVX [.int l1] C kf lk_RX8_223 vk_X8_needPerson e1 rfl rfl rfl (Nat.le_of_ble_eq_true rfl) (by decide) (by decide) dX8_endures_2 (k_X8_needPerson X.1.2.1 hl X.2.2.1 l0 l1 M _ e2)
theorem k_X8_endures (l : Launch) (hl : l.stackTraces = false) (G : GG) (l0 : Nat) (l1 : Int32) (l2 : Int32) (M : Mem) (x : (Int32 × Mem) ⊕ (Nat × Mem)) (h : F_X8_endures l0 l1 l2 M = some x) : Ct l G yX8_endures (.code yX8_endures cX8_endures 3 (some .int)) 12 260 [.ref l0, .int l1, .int l2] M (rs_tI x) (ms_tI x) := by
  refine Ct_of (by decide +kernel) (Nat.le_of_ble_eq_true rfl) fun X e1 e2 e3 C FN hnm => ?_
  subst e1; subst e2
  show wq X 3 0 [(0, .ref l0), (1, .int l1), (2, .int l2)] [] M
  exact w_X8_endures C FN.2.2.2 hl l0 l1 l2 M h FN
/-! X8_fault -/
set_option maxRecDepth 100000 in
set_option maxHeartbeats 4000000 in
theorem w_X8_fault {X : CX} {y : Int32} (C : CK X cX8_fault 1 RX8 7 140) (hRO : RO X.2.2.1 X.1.2.2.2.2.1 X.1.2.2.2.2.1.heap) (hl : X.1.2.1.stackTraces = false) (l0 : Nat) (M : Mem) (h : F_X8_fault l0 M = some y) (kf : FIN X (some .int) (rs_pI y) M) : wq X 1 0 [(0, .ref l0)] [] M := by
  unfold F_X8_fault at h
  refine q_aload_n 0 C dX8_fault_0 rfl ?_
  obtain ⟨v1, e2, h⟩ := bindE h
  refine q_getI C fl_RX8_16 rfl e2 dX8_fault_1 ?_
  cases h
  exact q_iret C kf dX8_fault_4
theorem k_X8_fault (l : Launch) (hl : l.stackTraces = false) (G : GG) (l0 : Nat) (M : Mem) (x : Int32) (h : F_X8_fault l0 M = some x) : Ct l G yX8_fault (.code yX8_fault cX8_fault 1 (some .int)) 7 140 [.ref l0] M (rs_pI x) M := by
  refine Ct_of (by decide +kernel) (Nat.le_of_ble_eq_true rfl) fun X e1 e2 e3 C FN hnm => ?_
  subst e1; subst e2
  show wq X 1 0 [(0, .ref l0)] [] M
  exact w_X8_fault C FN.2.2.2 hl l0 M h FN
/-! X8_feed -/
set_option maxRecDepth 100000 in
set_option maxHeartbeats 4000000 in
theorem w_X8_feed {X : CX} {y : Int32 × Mem} (C : CK X cX8_feed 6 RX8 8 162) (hRO : RO X.2.2.1 X.1.2.2.2.2.1 X.1.2.2.2.2.1.heap) (hl : X.1.2.1.stackTraces = false) (l0 : Nat) (l1 : Int32) (l2 : Int32) (l3 : Int32) (l4 : Int32) (l5 : Int32) (M : Mem) (h : F_X8_feed l0 l1 l2 l3 l4 l5 M = some y) (kf : FIN X (some .int) (rs_mI y) (ms_mI y)) : wq X 6 0 [(0, .ref l0), (1, .int l1), (2, .int l2), (3, .int l3), (4, .int l4), (5, .int l5)] [] M := by
  unfold F_X8_feed at h
  refine q_aload_n 0 C dX8_feed_0 rfl ?_
  obtain ⟨v1, e2, h⟩ := bindE h
  refine q_getP C fl_RX8_10 rfl e2 dX8_feed_1 ?_
  obtain ⟨e3, h⟩ := ckOE h
  obtain ⟨v5, e4, h⟩ := bindE h
  refine q_callV (v := some (.int v5)) [] C hRO lk_RX8_89 vk_X3_taped e3 rfl rfl rfl (Nat.le_of_ble_eq_true rfl) (by decide) (by decide) dX8_feed_4 (k_X3_taped X.1.2.1 hl X.2.2.1 v1 M _ e4) ?_
  refine q_bipush (v := (20 : Int32)) C dX8_feed_7 (by decide) ?_
  refine q_iadd C dX8_feed_9 ?_
  refine q_sipush (v := (700 : Int32)) C dX8_feed_10 (by decide) ?_
  refine q_icmp_le (tgt := 18) C dX8_feed_13 (by decide) (fun c6 => ?_) (fun c6 => ?_)
  · have h := ifT c6 h
    refine q_aload_n 0 C dX8_feed_18 rfl ?_
    obtain ⟨v7, e8, h⟩ := bindE h
    refine q_getP C fl_RX8_10 rfl e8 dX8_feed_19 ?_
    refine q_iload_n 1 C dX8_feed_22 rfl ?_
    obtain ⟨e9, h⟩ := ckOE h
    obtain ⟨M11, e10, h⟩ := bindE h
    refine q_callV (v := none) [.int l1] C hRO lk_RX8_93 vk_X3_append e9 rfl rfl rfl (Nat.le_of_ble_eq_true rfl) (by decide) (by decide) dX8_feed_23 (k_X3_append X.1.2.1 hl X.2.2.1 v7 l1 M _ e10) ?_
    refine q_aload_n 0 C dX8_feed_26 rfl ?_
    obtain ⟨v13, e14, h⟩ := bindE h
    refine q_getP C fl_RX8_10 rfl e14 dX8_feed_27 ?_
    refine q_iload_n 2 C dX8_feed_30 rfl ?_
    obtain ⟨e15, h⟩ := ckOE h
    obtain ⟨M17, e16, h⟩ := bindE h
    refine q_callV (v := none) [.int l2] C hRO lk_RX8_93 vk_X3_append e15 rfl rfl rfl (Nat.le_of_ble_eq_true rfl) (by decide) (by decide) dX8_feed_31 (k_X3_append X.1.2.1 hl X.2.2.1 v13 l2 M11 _ e16) ?_
    refine q_aload_n 0 C dX8_feed_34 rfl ?_
    obtain ⟨v19, e20, h⟩ := bindE h
    refine q_getP C fl_RX8_10 rfl e20 dX8_feed_35 ?_
    refine q_iload_n 3 C dX8_feed_38 rfl ?_
    obtain ⟨e21, h⟩ := ckOE h
    obtain ⟨M23, e22, h⟩ := bindE h
    refine q_callV (v := none) [.int l3] C hRO lk_RX8_93 vk_X3_append e21 rfl rfl rfl (Nat.le_of_ble_eq_true rfl) (by decide) (by decide) dX8_feed_39 (k_X3_append X.1.2.1 hl X.2.2.1 v19 l3 M17 _ e22) ?_
    refine q_aload_n 0 C dX8_feed_42 rfl ?_
    obtain ⟨v25, e26, h⟩ := bindE h
    refine q_getP C fl_RX8_10 rfl e26 dX8_feed_43 ?_
    refine q_iload 4 C dX8_feed_46 rfl ?_
    obtain ⟨e27, h⟩ := ckOE h
    obtain ⟨M29, e28, h⟩ := bindE h
    refine q_callV (v := none) [.int l4] C hRO lk_RX8_93 vk_X3_append e27 rfl rfl rfl (Nat.le_of_ble_eq_true rfl) (by decide) (by decide) dX8_feed_48 (k_X3_append X.1.2.1 hl X.2.2.1 v25 l4 M23 _ e28) ?_
    refine q_aload_n 0 C dX8_feed_51 rfl ?_
    obtain ⟨v31, e32, h⟩ := bindE h
    refine q_getP C fl_RX8_10 rfl e32 dX8_feed_52 ?_
    refine q_iload 5 C dX8_feed_55 rfl ?_
    obtain ⟨e33, h⟩ := ckOE h
    obtain ⟨M35, e34, h⟩ := bindE h
    refine q_callV (v := none) [.int l5] C hRO lk_RX8_93 vk_X3_append e33 rfl rfl rfl (Nat.le_of_ble_eq_true rfl) (by decide) (by decide) dX8_feed_57 (k_X3_append X.1.2.1 hl X.2.2.1 v31 l5 M29 _ e34) ?_
    refine q_aload_n 0 C dX8_feed_60 rfl ?_
    obtain ⟨v37, e38, h⟩ := bindE h
    refine q_getP C fl_RX8_10 rfl e38 dX8_feed_61 ?_
    obtain ⟨e39, h⟩ := ckOE h
    obtain ⟨v41, e40, h⟩ := bindE h
    refine q_callV (v := some (.int v41)) [] C hRO lk_RX8_89 vk_X3_taped e39 rfl rfl rfl (Nat.le_of_ble_eq_true rfl) (by decide) (by decide) dX8_feed_64 (k_X3_taped X.1.2.1 hl X.2.2.1 v37 M35 _ e40) ?_
    cases h
    exact q_iret C kf dX8_feed_67
  · have h := ifF c6 h
    refine q_iconst (v := (-1 : Int32)) C dX8_feed_16 (by decide) ?_
    cases h
    exact q_iret C kf dX8_feed_17
theorem k_X8_feed (l : Launch) (hl : l.stackTraces = false) (G : GG) (l0 : Nat) (l1 : Int32) (l2 : Int32) (l3 : Int32) (l4 : Int32) (l5 : Int32) (M : Mem) (x : Int32 × Mem) (h : F_X8_feed l0 l1 l2 l3 l4 l5 M = some x) : Ct l G yX8_feed (.code yX8_feed cX8_feed 6 (some .int)) 8 162 [.ref l0, .int l1, .int l2, .int l3, .int l4, .int l5] M (rs_mI x) (ms_mI x) := by
  refine Ct_of (by decide +kernel) (Nat.le_of_ble_eq_true rfl) fun X e1 e2 e3 C FN hnm => ?_
  subst e1; subst e2
  show wq X 6 0 [(0, .ref l0), (1, .int l1), (2, .int l2), (3, .int l3), (4, .int l4), (5, .int l5)] [] M
  exact w_X8_feed C FN.2.2.2 hl l0 l1 l2 l3 l4 l5 M h FN
/-! X8_fittingSizes -/
set_option maxRecDepth 100000 in
set_option maxHeartbeats 4000000 in
theorem w_X8_fittingSizes_j61_5 {X : CX} {y : (Int64 × Int32 × Mem) ⊕ (Int64 × Mem)} (C : CK X cX8_fittingSizes 6 RX8 12 261) (hRO : RO X.2.2.1 X.1.2.2.2.2.1 X.1.2.2.2.2.1.heap) (hl : X.1.2.1.stackTraces = false) (l0 : Nat) (l1 : Int32) (l2 : Int32) (l3 : Int64) (l5 : Int32) (M : Mem) (h : F_X8_fittingSizes_j61_5 l0 l1 l2 l3 l5 M = some y) (kc : ∀ s' : Int64 × Int32 × Mem, y = .inl s' → wq X 6 5 [(0, .ref l0), (1, .int l1), (2, .int l2), (3, .long (s'.1)), (5, .int (s'.2.1))] [] s'.2.2) (kx : ∀ e' : Int64 × Mem, y = (.inr e') → wq X 6 74 [(3, .long (e'.1))] [] e'.2) : wq X 6 61 [(0, .ref l0), (1, .int l1), (2, .int l2), (3, .long l3), (5, .int l5)] [] M := by
  unfold F_X8_fittingSizes_j61_5 at h
  refine q_lload_n 3 C dX8_fittingSizes_61 rfl ?_
  refine q_lconst (v := (1 : Int64)) C dX8_fittingSizes_62 (by decide) ?_
  refine q_iload 4 C dX8_fittingSizes_63 rfl ?_
  refine q_lshl C dX8_fittingSizes_65 ?_
  refine q_lor C dX8_fittingSizes_66 ?_
  obtain ⟨n24, e25, h⟩ := nmE h
  refine q_topL e25 ?_
  refine q_lstore_n (i := 3) (lv' := [(3, .long n24), (0, .ref l0), (1, .int l1), (2, .int l2), (5, .int l5)]) C dX8_fittingSizes_67 rfl (by decide) rfl ?_
  refine q_iinc 4 (v := (l5 + (1 : Int32))) (lv' := [(5, .int (l5 + (1 : Int32))), (3, .long n24), (0, .ref l0), (1, .int l1), (2, .int l2)]) C dX8_fittingSizes_68 rfl rfl (by decide) rfl ?_
  refine q_goto (tgt := 5) C dX8_fittingSizes_71 (by decide) ?_
  exact q_sub (lv' := [(0, .ref l0), (1, .int l1), (2, .int l2), (3, .long n24), (5, .int (l5 + (1 : Int32)))]) [2, 3, 4, 1, 0] rfl (kc (n24, (l5 + (1 : Int32)), M) (someI h))
set_option maxRecDepth 100000 in
set_option maxHeartbeats 4000000 in
theorem w_X8_fittingSizes_s5 {X : CX} {y : (Int64 × Int32 × Mem) ⊕ (Int64 × Mem)} (C : CK X cX8_fittingSizes 6 RX8 12 261) (hRO : RO X.2.2.1 X.1.2.2.2.2.1 X.1.2.2.2.2.1.heap) (hl : X.1.2.1.stackTraces = false) (l0 : Nat) (l1 : Int32) (l2 : Int32) (l3 : Int64) (l5 : Int32) (M : Mem) (h : F_X8_fittingSizes_s5 l0 l1 l2 l3 l5 M = some y) (kc : ∀ s' : Int64 × Int32 × Mem, y = .inl s' → wq X 6 5 [(0, .ref l0), (1, .int l1), (2, .int l2), (3, .long (s'.1)), (5, .int (s'.2.1))] [] s'.2.2) (kx : ∀ e' : Int64 × Mem, y = (.inr e') → wq X 6 74 [(3, .long (e'.1))] [] e'.2) : wq X 6 5 [(0, .ref l0), (1, .int l1), (2, .int l2), (3, .long l3), (5, .int l5)] [] M := by
  unfold F_X8_fittingSizes_s5 at h
  refine q_iload 4 C dX8_fittingSizes_5 rfl ?_
  refine q_bipush (v := (60 : Int32)) C dX8_fittingSizes_7 (by decide) ?_
  refine q_icmp_gt (tgt := 74) C dX8_fittingSizes_9 (by decide) (fun c1 => ?_) (fun c1 => ?_)
  · have h := ifT c1 h
    exact q_sub (lv' := [(3, .long l3)]) [3] rfl (kx (l3, M) (someI h))
  · have h := ifF c1 h
    refine q_aload_n 0 C dX8_fittingSizes_12 rfl ?_
    obtain ⟨v2, e3, h⟩ := bindE h
    refine q_getP C fl_RX8_37 rfl e3 dX8_fittingSizes_13 ?_
    refine q_aload_n 0 C dX8_fittingSizes_16 rfl ?_
    obtain ⟨v4, e5, h⟩ := bindE h
    refine q_getP C fl_RX8_33 rfl e5 dX8_fittingSizes_17 ?_
    obtain ⟨e6, h⟩ := ckOE h
    obtain ⟨M8, e7, h⟩ := bindE h
    refine q_callV (v := none) [.ref v4] C hRO lk_RX8_274 vk_X6_copy e6 rfl rfl rfl (Nat.le_of_ble_eq_true rfl) (by decide) (by decide) dX8_fittingSizes_20 (k_X6_copy X.1.2.1 hl X.2.2.1 v2 v4 M _ e7) ?_
    refine q_aload_n 0 C dX8_fittingSizes_23 rfl ?_
    obtain ⟨v10, e11, h⟩ := bindE h
    refine q_getP C fl_RX8_37 rfl e11 dX8_fittingSizes_24 ?_
    obtain ⟨v12, e13, h⟩ := bindE h
    refine q_getP C fl_RX8_212 rfl e13 dX8_fittingSizes_27 ?_
    refine q_iload_n 1 C dX8_fittingSizes_30 rfl ?_
    refine q_iload 4 C dX8_fittingSizes_31 rfl ?_
    obtain ⟨M14, e15, h⟩ := bindE h
    refine q_iastore C e15 dX8_fittingSizes_33 ?_
    refine q_iload 4 C dX8_fittingSizes_34 rfl ?_
    refine q_aload_n 0 C dX8_fittingSizes_36 rfl ?_
    obtain ⟨v16, e17, h⟩ := bindE h
    refine q_getP C fl_RX8_33 rfl e17 dX8_fittingSizes_37 ?_
    obtain ⟨v18, e19, h⟩ := bindE h
    refine q_getP C fl_RX8_212 rfl e19 dX8_fittingSizes_40 ?_
    refine q_iload_n 1 C dX8_fittingSizes_43 rfl ?_
    obtain ⟨v20, e21, h⟩ := bindE h
    refine q_iaload C e21 dX8_fittingSizes_44 ?_
    refine q_icmp_eq (tgt := 68) C dX8_fittingSizes_45 (by decide) (fun c22 => ?_) (fun c22 => ?_)
    · have h := ifT c22 h
      refine q_iinc 4 (v := (l5 + (1 : Int32))) (lv' := [(5, .int (l5 + (1 : Int32))), (0, .ref l0), (1, .int l1), (2, .int l2), (3, .long l3)]) C dX8_fittingSizes_68 rfl rfl (by decide) rfl ?_
      refine q_goto (tgt := 5) C dX8_fittingSizes_71 (by decide) ?_
      exact q_sub (lv' := [(0, .ref l0), (1, .int l1), (2, .int l2), (3, .long l3), (5, .int (l5 + (1 : Int32)))]) [1, 2, 3, 4, 0] rfl (kc (l3, (l5 + (1 : Int32)), M14) (someI h))
    · have h := ifF c22 h
      refine q_iload_n 2 C dX8_fittingSizes_48 rfl ?_
      refine q_iconst (v := (-1 : Int32)) C dX8_fittingSizes_49 (by decide) ?_
      refine q_icmp_eq (tgt := 61) C dX8_fittingSizes_50 (by decide) (fun c23 => ?_) (fun c23 => ?_)
      · have h := ifT c23 h
        exact q_sub (lv' := [(0, .ref l0), (1, .int l1), (2, .int l2), (3, .long l3), (5, .int l5)]) [0, 1, 2, 3, 4] rfl (w_X8_fittingSizes_j61_5 C hRO hl l0 l1 l2 l3 l5 M14 h kc kx)
      · have h := ifF c23 h
        refine q_aload_n 0 C dX8_fittingSizes_53 rfl ?_
        refine q_iload_n 2 C dX8_fittingSizes_54 rfl ?_
        obtain ⟨e26, h⟩ := ckOE h
        obtain ⟨v29, M28, e27, h⟩ := bd2E h
        refine q_callV (v := some (.int v29)) [.int l2] C hRO lk_RX8_333 vk_X8_agreesFromLater e26 rfl rfl rfl (Nat.le_of_ble_eq_true rfl) (by decide) (by decide) dX8_fittingSizes_55 (k_X8_agreesFromLater X.1.2.1 hl X.2.2.1 l0 l2 M14 _ e27) ?_
        refine q_if_eq (tgt := 68) C dX8_fittingSizes_58 (by decide) (fun c30 => ?_) (fun c30 => ?_)
        · have h := ifT c30 h
          refine q_iinc 4 (v := (l5 + (1 : Int32))) (lv' := [(5, .int (l5 + (1 : Int32))), (0, .ref l0), (1, .int l1), (2, .int l2), (3, .long l3)]) C dX8_fittingSizes_68 rfl rfl (by decide) rfl ?_
          refine q_goto (tgt := 5) C dX8_fittingSizes_71 (by decide) ?_
          exact q_sub (lv' := [(0, .ref l0), (1, .int l1), (2, .int l2), (3, .long l3), (5, .int (l5 + (1 : Int32)))]) [1, 2, 3, 4, 0] rfl (kc (l3, (l5 + (1 : Int32)), M28) (someI h))
        · have h := ifF c30 h
          exact q_sub (lv' := [(0, .ref l0), (1, .int l1), (2, .int l2), (3, .long l3), (5, .int l5)]) [0, 1, 2, 3, 4] rfl (w_X8_fittingSizes_j61_5 C hRO hl l0 l1 l2 l3 l5 M28 h kc kx)
theorem w_X8_fittingSizes_l5 {X : CX} {r : Int64 × Mem} (C : CK X cX8_fittingSizes 6 RX8 12 261) (hRO : RO X.2.2.1 X.1.2.2.2.2.1 X.1.2.2.2.2.1.heap) (hl : X.1.2.1.stackTraces = false) (l0 : Nat) (l1 : Int32) (l2 : Int32) (l3 : Int64) (l5 : Int32) (M : Mem) (h : loop (fun s => F_X8_fittingSizes_s5 l0 l1 l2 s.1 s.2.1 s.2.2) (l3, l5, M) = some r) (kx : ∀ e' : Int64 × Mem, r = e' → wq X 6 74 [(3, .long (e'.1))] [] e'.2) : wq X 6 5 [(0, .ref l0), (1, .int l1), (2, .int l2), (3, .long l3), (5, .int l5)] [] M :=
  loop_ind (P := fun s => wq X 6 5 [(0, .ref l0), (1, .int l1), (2, .int l2), (3, .long s.1), (5, .int s.2.1)] [] s.2.2) h (fun s y hy kc kr => w_X8_fittingSizes_s5 C hRO hl l0 l1 l2 s.1 s.2.1 s.2.2 hy kc (fun e' he => kx e' (kr _ he).symm))
set_option maxRecDepth 100000 in
set_option maxHeartbeats 4000000 in
theorem w_X8_fittingSizes {X : CX} {y : Int64 × Mem} (C : CK X cX8_fittingSizes 6 RX8 12 261) (hRO : RO X.2.2.1 X.1.2.2.2.2.1 X.1.2.2.2.2.1.heap) (hl : X.1.2.1.stackTraces = false) (l0 : Nat) (l1 : Int32) (l2 : Int32) (M : Mem) (h : F_X8_fittingSizes l0 l1 l2 M = some y) (kf : FIN X (some .long) (rs_mL y) (ms_mL y)) : wq X 6 0 [(0, .ref l0), (1, .int l1), (2, .int l2)] [] M := by
  unfold F_X8_fittingSizes at h
  refine q_lconst (v := (0 : Int64)) C dX8_fittingSizes_0 (by decide) ?_
  refine q_lstore_n (i := 3) (lv' := [(3, .long (0 : Int64)), (0, .ref l0), (1, .int l1), (2, .int l2)]) C dX8_fittingSizes_1 rfl (by decide) rfl ?_
  refine q_iconst (v := (1 : Int32)) C dX8_fittingSizes_2 (by decide) ?_
  refine q_istore (i := 5) (lv' := [(5, .int (1 : Int32)), (3, .long (0 : Int64)), (0, .ref l0), (1, .int l1), (2, .int l2)]) C dX8_fittingSizes_3 (by decide) rfl ?_
  obtain ⟨⟨x33, M34⟩, e32, h⟩ := bindE h
  refine q_sub (lv' := [(0, .ref l0), (1, .int l1), (2, .int l2), (3, .long (0 : Int64)), (5, .int (1 : Int32))]) [2, 3, 4, 1, 0] rfl (w_X8_fittingSizes_l5 C hRO hl l0 l1 l2 (0 : Int64) (1 : Int32) M e32 (fun r31 he => ?_))
  subst he
  have h := u2E h
  show wq X 6 74 [(3, .long x33)] [] M34
  refine q_lload_n 0 C dX8_fittingSizes_74 rfl ?_
  cases h
  exact q_lret C kf dX8_fittingSizes_75
theorem k_X8_fittingSizes (l : Launch) (hl : l.stackTraces = false) (G : GG) (l0 : Nat) (l1 : Int32) (l2 : Int32) (M : Mem) (x : Int64 × Mem) (h : F_X8_fittingSizes l0 l1 l2 M = some x) : Ct l G yX8_fittingSizes (.code yX8_fittingSizes cX8_fittingSizes 6 (some .long)) 12 261 [.ref l0, .int l1, .int l2] M (rs_mL x) (ms_mL x) := by
  refine Ct_of (by decide +kernel) (Nat.le_of_ble_eq_true rfl) fun X e1 e2 e3 C FN hnm => ?_
  subst e1; subst e2
  show wq X 6 0 [(0, .ref l0), (1, .int l1), (2, .int l2)] [] M
  exact w_X8_fittingSizes C FN.2.2.2 hl l0 l1 l2 M h FN
/-! X8_findFitting -/
set_option maxRecDepth 100000 in
set_option maxHeartbeats 4000000 in
theorem w_X8_findFitting_j50_7 {X : CX} {y : (Int32 × Mem) ⊕ (Mem)} (C : CK X cX8_findFitting 5 RX8 13 286) (hRO : RO X.2.2.1 X.1.2.2.2.2.1 X.1.2.2.2.2.1.heap) (hl : X.1.2.1.stackTraces = false) (l0 : Nat) (l1 : Int32) (l2 : Int32) (l3 : Int32) (t0 : Int32) (M : Mem) (h : F_X8_findFitting_j50_7 l0 l1 l2 l3 t0 M = some y) (kc : ∀ s' : Int32 × Mem, y = .inl s' → wq X 5 7 [(0, .ref l0), (1, .int l1), (2, .int (s'.1))] [] s'.2) (kx : ∀ e' : Mem, y = (.inr e') → wq X 5 83 [] [] e') : wq X 5 50 [(0, .ref l0), (1, .int l1), (2, .int l2), (3, .int l3)] [.int t0] M := by
  unfold F_X8_findFitting_j50_7 at h
  refine q_istore (i := 4) (lv' := [(4, .int t0), (0, .ref l0), (1, .int l1), (2, .int l2), (3, .int l3)]) C dX8_findFitting_50 (by decide) rfl ?_
  refine q_aload_n 1 C dX8_findFitting_52 rfl ?_
  obtain ⟨v20, e21, h⟩ := bindE h
  refine q_getP C fl_RX8_85 rfl e21 dX8_findFitting_53 ?_
  refine q_iload_n 3 C dX8_findFitting_56 rfl ?_
  refine q_iload_n 2 C dX8_findFitting_57 rfl ?_
  refine q_iload 0 C dX8_findFitting_58 rfl ?_
  refine q_iand C dX8_findFitting_60 ?_
  refine q_iload 0 C dX8_findFitting_61 rfl ?_
  refine q_icmp_ne (tgt := 75) C dX8_findFitting_63 (by decide) (fun c22 => ?_) (fun c22 => ?_)
  · have h := ifF c22 h
    refine q_lconst (v := (0 : Int64)) C dX8_findFitting_75 (by decide) ?_
    obtain ⟨M23, e24, h⟩ := bindE h
    refine q_lastore C e24 dX8_findFitting_76 ?_
    refine q_iinc 3 (v := (l2 + (1 : Int32))) (lv' := [(2, .int (l2 + (1 : Int32))), (4, .int t0), (0, .ref l0), (1, .int l1), (3, .int l3)]) C dX8_findFitting_77 rfl rfl (by decide) rfl ?_
    refine q_goto (tgt := 7) C dX8_findFitting_80 (by decide) ?_
    exact q_sub (lv' := [(0, .ref l0), (1, .int l1), (2, .int (l2 + (1 : Int32)))]) [2, 3, 0] rfl (kc ((l2 + (1 : Int32)), M23) (someI h))
  · have h := ifT c22 h
    refine q_aload_n 1 C dX8_findFitting_66 rfl ?_
    refine q_iload_n 3 C dX8_findFitting_67 rfl ?_
    refine q_iload_n 4 C dX8_findFitting_68 rfl ?_
    obtain ⟨e25, h⟩ := ckOE h
    obtain ⟨v28, M27, e26, h⟩ := bd2E h
    refine q_callV (v := some (.long v28)) [.int l2, .int l3] C hRO lk_RX8_343 vk_X8_fittingSizes e25 rfl rfl rfl (Nat.le_of_ble_eq_true rfl) (by decide) (by decide) dX8_findFitting_69 (k_X8_fittingSizes X.1.2.1 hl X.2.2.1 l0 l2 l3 M _ e26) ?_
    refine q_goto (tgt := 76) C dX8_findFitting_72 (by decide) ?_
    obtain ⟨M29, e30, h⟩ := bindE h
    refine q_lastore C e30 dX8_findFitting_76 ?_
    refine q_iinc 3 (v := (l2 + (1 : Int32))) (lv' := [(2, .int (l2 + (1 : Int32))), (4, .int t0), (0, .ref l0), (1, .int l1), (3, .int l3)]) C dX8_findFitting_77 rfl rfl (by decide) rfl ?_
    refine q_goto (tgt := 7) C dX8_findFitting_80 (by decide) ?_
    exact q_sub (lv' := [(0, .ref l0), (1, .int l1), (2, .int (l2 + (1 : Int32)))]) [2, 3, 0] rfl (kc ((l2 + (1 : Int32)), M29) (someI h))
set_option maxRecDepth 100000 in
set_option maxHeartbeats 4000000 in
theorem w_X8_findFitting_s7 {X : CX} {y : (Int32 × Mem) ⊕ (Mem)} (C : CK X cX8_findFitting 5 RX8 13 286) (hRO : RO X.2.2.1 X.1.2.2.2.2.1 X.1.2.2.2.2.1.heap) (hl : X.1.2.1.stackTraces = false) (l0 : Nat) (l1 : Int32) (l2 : Int32) (M : Mem) (h : F_X8_findFitting_s7 l0 l1 l2 M = some y) (kc : ∀ s' : Int32 × Mem, y = .inl s' → wq X 5 7 [(0, .ref l0), (1, .int l1), (2, .int (s'.1))] [] s'.2) (kx : ∀ e' : Mem, y = (.inr e') → wq X 5 83 [] [] e') : wq X 5 7 [(0, .ref l0), (1, .int l1), (2, .int l2)] [] M := by
  unfold F_X8_findFitting_s7 at h
  refine q_iload_n 2 C dX8_findFitting_7 rfl ?_
  refine q_aload_n 0 C dX8_findFitting_8 rfl ?_
  obtain ⟨v5, e6, h⟩ := bindE h
  refine q_getP C fl_RX8_23 rfl e6 dX8_findFitting_9 ?_
  obtain ⟨v7, e8, h⟩ := bindE h
  refine q_getI C fl_RX8_122 rfl e8 dX8_findFitting_12 ?_
  refine q_icmp_ge (tgt := 83) C dX8_findFitting_15 (by decide) (fun c9 => ?_) (fun c9 => ?_)
  · have h := ifT c9 h
    exact q_sub (lv' := []) [] rfl (kx M (someI h))
  · have h := ifF c9 h
    refine q_aload_n 0 C dX8_findFitting_18 rfl ?_
    obtain ⟨v10, e11, h⟩ := bindE h
    refine q_getP C fl_RX8_33 rfl e11 dX8_findFitting_19 ?_
    obtain ⟨v12, e13, h⟩ := bindE h
    refine q_getP C fl_RX8_162 rfl e13 dX8_findFitting_22 ?_
    refine q_iload_n 2 C dX8_findFitting_25 rfl ?_
    obtain ⟨v14, e15, h⟩ := bindE h
    refine q_iaload C e15 dX8_findFitting_26 ?_
    refine q_istore_n (i := 3) (lv' := [(3, .int v14), (0, .ref l0), (1, .int l1), (2, .int l2)]) C dX8_findFitting_27 rfl (by decide) rfl ?_
    refine q_iload_n 0 C dX8_findFitting_28 rfl ?_
    refine q_iconst (v := (-1 : Int32)) C dX8_findFitting_29 (by decide) ?_
    refine q_icmp_ne (tgt := 40) C dX8_findFitting_30 (by decide) (fun c16 => ?_) (fun c16 => ?_)
    · have h := ifF c16 h
      refine q_aload_n 1 C dX8_findFitting_40 rfl ?_
      obtain ⟨e17, h⟩ := ckOE h
      obtain ⟨v19, e18, h⟩ := bindE h
      refine q_callV (v := some (.int v19)) [] C hRO lk_RX8_318 vk_X8_allHouses e17 rfl rfl rfl (Nat.le_of_ble_eq_true rfl) (by decide) (by decide) dX8_findFitting_41 (k_X8_allHouses X.1.2.1 hl X.2.2.1 l0 M _ e18) ?_
      refine q_iconst (v := (1 : Int32)) C dX8_findFitting_44 (by decide) ?_
      refine q_iload_n 0 C dX8_findFitting_45 rfl ?_
      refine q_ishl C dX8_findFitting_46 ?_
      refine q_iconst (v := (-1 : Int32)) C dX8_findFitting_47 (by decide) ?_
      refine q_ixor C dX8_findFitting_48 ?_
      refine q_iand C dX8_findFitting_49 ?_
      exact q_sub (lv' := [(0, .ref l0), (1, .int l1), (2, .int l2), (3, .int v14)]) [1, 2, 3, 0] rfl (w_X8_findFitting_j50_7 C hRO hl l0 l1 l2 v14 (v19 &&& (((1 : Int32) <<< (v14 &&& 31)) ^^^ (-1 : Int32))) M h kc kx)
    · have h := ifT c16 h
      refine q_aload_n 1 C dX8_findFitting_33 rfl ?_
      obtain ⟨e31, h⟩ := ckOE h
      obtain ⟨v33, e32, h⟩ := bindE h
      refine q_callV (v := some (.int v33)) [] C hRO lk_RX8_318 vk_X8_allHouses e31 rfl rfl rfl (Nat.le_of_ble_eq_true rfl) (by decide) (by decide) dX8_findFitting_34 (k_X8_allHouses X.1.2.1 hl X.2.2.1 l0 M _ e32) ?_
      refine q_goto (tgt := 50) C dX8_findFitting_37 (by decide) ?_
      exact q_sub (lv' := [(0, .ref l0), (1, .int l1), (2, .int l2), (3, .int v14)]) [1, 2, 3, 0] rfl (w_X8_findFitting_j50_7 C hRO hl l0 l1 l2 v14 v33 M h kc kx)
theorem w_X8_findFitting_l7 {X : CX} {r : Mem} (C : CK X cX8_findFitting 5 RX8 13 286) (hRO : RO X.2.2.1 X.1.2.2.2.2.1 X.1.2.2.2.2.1.heap) (hl : X.1.2.1.stackTraces = false) (l0 : Nat) (l1 : Int32) (l2 : Int32) (M : Mem) (h : loop (fun s => F_X8_findFitting_s7 l0 l1 s.1 s.2) (l2, M) = some r) (kx : ∀ e' : Mem, r = e' → wq X 5 83 [] [] e') : wq X 5 7 [(0, .ref l0), (1, .int l1), (2, .int l2)] [] M :=
  loop_ind (P := fun s => wq X 5 7 [(0, .ref l0), (1, .int l1), (2, .int s.1)] [] s.2) h (fun s y hy kc kr => w_X8_findFitting_s7 C hRO hl l0 l1 s.1 s.2 hy kc (fun e' he => kx e' (kr _ he).symm))
set_option maxRecDepth 100000 in
set_option maxHeartbeats 4000000 in
theorem w_X8_findFitting {X : CX} {y : Mem} (C : CK X cX8_findFitting 5 RX8 13 286) (hRO : RO X.2.2.1 X.1.2.2.2.2.1 X.1.2.2.2.2.1.heap) (hl : X.1.2.1.stackTraces = false) (l0 : Nat) (M : Mem) (h : F_X8_findFitting l0 M = some y) (kf : FIN X none (rs_mV y) (ms_mV y)) : wq X 5 0 [(0, .ref l0)] [] M := by
  unfold F_X8_findFitting at h
  refine q_aload_n 0 C dX8_findFitting_0 rfl ?_
  obtain ⟨e1, h⟩ := ckOE h
  obtain ⟨v4, M3, e2, h⟩ := bd2E h
  refine q_callV (v := some (.int v4)) [] C hRO lk_RX8_315 vk_X8_agreeingHouses e1 rfl rfl rfl (Nat.le_of_ble_eq_true rfl) (by decide) (by decide) dX8_findFitting_1 (k_X8_agreeingHouses X.1.2.1 hl X.2.2.1 l0 M _ e2) ?_
  refine q_istore_n (i := 1) (lv' := [(1, .int v4), (0, .ref l0)]) C dX8_findFitting_4 rfl (by decide) rfl ?_
  refine q_iconst (v := (0 : Int32)) C dX8_findFitting_5 (by decide) ?_
  refine q_istore_n (i := 2) (lv' := [(2, .int (0 : Int32)), (1, .int v4), (0, .ref l0)]) C dX8_findFitting_6 rfl (by decide) rfl ?_
  obtain ⟨M36, e35, h⟩ := bindE h
  refine q_sub (lv' := [(0, .ref l0), (1, .int v4), (2, .int (0 : Int32))]) [2, 1, 0] rfl (w_X8_findFitting_l7 C hRO hl l0 v4 (0 : Int32) M3 e35 (fun r34 he => ?_))
  subst he
  show wq X 5 83 [] [] M36
  cases h
  exact q_vret C kf dX8_findFitting_83
theorem k_X8_findFitting (l : Launch) (hl : l.stackTraces = false) (G : GG) (l0 : Nat) (M : Mem) (x : Mem) (h : F_X8_findFitting l0 M = some x) : Ct l G yX8_findFitting (.code yX8_findFitting cX8_findFitting 5 none) 13 286 [.ref l0] M (rs_mV x) (ms_mV x) := by
  refine Ct_of (by decide +kernel) (Nat.le_of_ble_eq_true rfl) fun X e1 e2 e3 C FN hnm => ?_
  subst e1; subst e2
  show wq X 5 0 [(0, .ref l0)] [] M
  exact w_X8_findFitting C FN.2.2.2 hl l0 M h FN
/-! X8_forget -/
set_option maxRecDepth 100000 in
set_option maxHeartbeats 4000000 in
theorem w_X8_forget {X : CX} {y : Mem} (C : CK X cX8_forget 1 RX8 8 160) (hRO : RO X.2.2.1 X.1.2.2.2.2.1 X.1.2.2.2.2.1.heap) (hl : X.1.2.1.stackTraces = false) (l0 : Nat) (M : Mem) (h : F_X8_forget l0 M = some y) (kf : FIN X none (rs_mV y) (ms_mV y)) : wq X 1 0 [(0, .ref l0)] [] M := by
  unfold F_X8_forget at h
  refine q_aload_n 0 C dX8_forget_0 rfl ?_
  obtain ⟨v1, e2, h⟩ := bindE h
  refine q_getP C fl_RX8_50 rfl e2 dX8_forget_1 ?_
  obtain ⟨e3, h⟩ := ckOE h
  obtain ⟨M5, e4, h⟩ := bindE h
  refine q_callV (v := none) [] C hRO lk_RX8_118 vk_X5_clear e3 rfl rfl rfl (Nat.le_of_ble_eq_true rfl) (by decide) (by decide) dX8_forget_4 (k_X5_clear X.1.2.1 hl X.2.2.1 v1 M _ e4) ?_
  cases h
  exact q_vret C kf dX8_forget_7
theorem k_X8_forget (l : Launch) (hl : l.stackTraces = false) (G : GG) (l0 : Nat) (M : Mem) (x : Mem) (h : F_X8_forget l0 M = some x) : Ct l G yX8_forget (.code yX8_forget cX8_forget 1 none) 8 160 [.ref l0] M (rs_mV x) (ms_mV x) := by
  refine Ct_of (by decide +kernel) (Nat.le_of_ble_eq_true rfl) fun X e1 e2 e3 C FN hnm => ?_
  subst e1; subst e2
  show wq X 1 0 [(0, .ref l0)] [] M
  exact w_X8_forget C FN.2.2.2 hl l0 M h FN
/-! X8_free -/
set_option maxRecDepth 100000 in
set_option maxHeartbeats 4000000 in
theorem w_X8_free_j54_13 {X : CX} {y : (Int32 × Int32 × Int32 × Mem) ⊕ (Int32 × Mem)} (C : CK X cX8_free 6 RX8 12 258) (hRO : RO X.2.2.1 X.1.2.2.2.2.1 X.1.2.2.2.2.1.heap) (hl : X.1.2.1.stackTraces = false) (l0 : Nat) (l1 : Int32) (l2 : Int32) (l3 : Int32) (l4 : Int32) (t0 : Int32) (M : Mem) (h : F_X8_free_j54_13 l0 l1 l2 l3 l4 t0 M = some y) (kc : ∀ s' : Int32 × Int32 × Int32 × Mem, y = .inl s' → wq X 6 13 [(0, .ref l0), (1, .int l1), (2, .int (s'.1)), (3, .int (s'.2.1)), (4, .int (s'.2.2.1))] [] s'.2.2.2) (kx : ∀ e' : Int32 × Mem, y = (.inr e') → wq X 6 95 [(2, .int (e'.1))] [] e'.2) : wq X 6 54 [(0, .ref l0), (1, .int l1), (2, .int l2), (3, .int l3), (4, .int l4)] [.int t0] M := by
  unfold F_X8_free_j54_13 at h
  refine q_istore (i := 5) (lv' := [(5, .int t0), (0, .ref l0), (1, .int l1), (2, .int l2), (3, .int l3), (4, .int l4)]) C dX8_free_54 (by decide) rfl ?_
  refine q_iload 0 C dX8_free_56 rfl ?_
  refine q_if_eq (tgt := 89) C dX8_free_58 (by decide) (fun c17 => ?_) (fun c17 => ?_)
  · have h := ifT c17 h
    refine q_iinc 5 (v := (l4 + (1 : Int32))) (lv' := [(4, .int (l4 + (1 : Int32))), (5, .int t0), (0, .ref l0), (1, .int l1), (2, .int l2), (3, .int l3)]) C dX8_free_89 rfl rfl (by decide) rfl ?_
    refine q_goto (tgt := 13) C dX8_free_92 (by decide) ?_
    exact q_sub (lv' := [(0, .ref l0), (1, .int l1), (2, .int l2), (3, .int l3), (4, .int (l4 + (1 : Int32)))]) [2, 3, 4, 5, 0] rfl (kc (l2, l3, (l4 + (1 : Int32)), M) (someI h))
  · have h := ifF c17 h
    refine q_aload_n 1 C dX8_free_61 rfl ?_
    obtain ⟨v18, e19, h⟩ := bindE h
    refine q_getP C fl_RX8_33 rfl e19 dX8_free_62 ?_
    refine q_iload_n 2 C dX8_free_65 rfl ?_
    refine q_iload 5 C dX8_free_66 rfl ?_
    obtain ⟨e20, h⟩ := ckOE h
    obtain ⟨v22, e21, h⟩ := bindE h
    refine q_callV (v := some (.int v22)) [.int l1, .int l4] C hRO lk_RX8_172 vk_X6_tight e20 rfl rfl rfl (Nat.le_of_ble_eq_true rfl) (by decide) (by decide) dX8_free_68 (k_X6_tight X.1.2.1 hl X.2.2.1 v18 l1 l4 M _ e21) ?_
    refine q_iload_n 4 C dX8_free_71 rfl ?_
    refine q_icmp_ge (tgt := 89) C dX8_free_72 (by decide) (fun c23 => ?_) (fun c23 => ?_)
    · have h := ifT c23 h
      refine q_iinc 5 (v := (l4 + (1 : Int32))) (lv' := [(4, .int (l4 + (1 : Int32))), (5, .int t0), (0, .ref l0), (1, .int l1), (2, .int l2), (3, .int l3)]) C dX8_free_89 rfl rfl (by decide) rfl ?_
      refine q_goto (tgt := 13) C dX8_free_92 (by decide) ?_
      exact q_sub (lv' := [(0, .ref l0), (1, .int l1), (2, .int l2), (3, .int l3), (4, .int (l4 + (1 : Int32)))]) [2, 3, 4, 5, 0] rfl (kc (l2, l3, (l4 + (1 : Int32)), M) (someI h))
    · have h := ifF c23 h
      refine q_aload_n 1 C dX8_free_75 rfl ?_
      obtain ⟨v24, e25, h⟩ := bindE h
      refine q_getP C fl_RX8_33 rfl e25 dX8_free_76 ?_
      refine q_iload_n 2 C dX8_free_79 rfl ?_
      refine q_iload 5 C dX8_free_80 rfl ?_
      obtain ⟨e26, h⟩ := ckOE h
      obtain ⟨v28, e27, h⟩ := bindE h
      refine q_callV (v := some (.int v28)) [.int l1, .int l4] C hRO lk_RX8_172 vk_X6_tight e26 rfl rfl rfl (Nat.le_of_ble_eq_true rfl) (by decide) (by decide) dX8_free_82 (k_X6_tight X.1.2.1 hl X.2.2.1 v24 l1 l4 M _ e27) ?_
      refine q_istore_n (i := 3) (lv' := [(3, .int v28), (5, .int t0), (0, .ref l0), (1, .int l1), (2, .int l2), (4, .int l4)]) C dX8_free_85 rfl (by decide) rfl ?_
      refine q_iload 5 C dX8_free_86 rfl ?_
      refine q_istore_n (i := 2) (lv' := [(2, .int l4), (3, .int v28), (5, .int t0), (0, .ref l0), (1, .int l1), (4, .int l4)]) C dX8_free_88 rfl (by decide) rfl ?_
      refine q_iinc 5 (v := (l4 + (1 : Int32))) (lv' := [(4, .int (l4 + (1 : Int32))), (2, .int l4), (3, .int v28), (5, .int t0), (0, .ref l0), (1, .int l1)]) C dX8_free_89 rfl rfl (by decide) rfl ?_
      refine q_goto (tgt := 13) C dX8_free_92 (by decide) ?_
      exact q_sub (lv' := [(0, .ref l0), (1, .int l1), (2, .int l4), (3, .int v28), (4, .int (l4 + (1 : Int32)))]) [4, 5, 1, 2, 0] rfl (kc (l4, v28, (l4 + (1 : Int32)), M) (someI h))
set_option maxRecDepth 100000 in
set_option maxHeartbeats 4000000 in
theorem w_X8_free_j53_13 {X : CX} {y : (Int32 × Int32 × Int32 × Mem) ⊕ (Int32 × Mem)} (C : CK X cX8_free 6 RX8 12 258) (hRO : RO X.2.2.1 X.1.2.2.2.2.1 X.1.2.2.2.2.1.heap) (hl : X.1.2.1.stackTraces = false) (l0 : Nat) (l1 : Int32) (l2 : Int32) (l3 : Int32) (l4 : Int32) (M : Mem) (h : F_X8_free_j53_13 l0 l1 l2 l3 l4 M = some y) (kc : ∀ s' : Int32 × Int32 × Int32 × Mem, y = .inl s' → wq X 6 13 [(0, .ref l0), (1, .int l1), (2, .int (s'.1)), (3, .int (s'.2.1)), (4, .int (s'.2.2.1))] [] s'.2.2.2) (kx : ∀ e' : Int32 × Mem, y = (.inr e') → wq X 6 95 [(2, .int (e'.1))] [] e'.2) : wq X 6 53 [(0, .ref l0), (1, .int l1), (2, .int l2), (3, .int l3), (4, .int l4)] [] M := by
  unfold F_X8_free_j53_13 at h
  refine q_iconst (v := (0 : Int32)) C dX8_free_53 (by decide) ?_
  exact q_sub (lv' := [(0, .ref l0), (1, .int l1), (2, .int l2), (3, .int l3), (4, .int l4)]) [0, 1, 2, 3, 4] rfl (w_X8_free_j54_13 C hRO hl l0 l1 l2 l3 l4 (0 : Int32) M h kc kx)
set_option maxRecDepth 100000 in
set_option maxHeartbeats 4000000 in
theorem w_X8_free_s13 {X : CX} {y : (Int32 × Int32 × Int32 × Mem) ⊕ (Int32 × Mem)} (C : CK X cX8_free 6 RX8 12 258) (hRO : RO X.2.2.1 X.1.2.2.2.2.1 X.1.2.2.2.2.1.heap) (hl : X.1.2.1.stackTraces = false) (l0 : Nat) (l1 : Int32) (l2 : Int32) (l3 : Int32) (l4 : Int32) (M : Mem) (h : F_X8_free_s13 l0 l1 l2 l3 l4 M = some y) (kc : ∀ s' : Int32 × Int32 × Int32 × Mem, y = .inl s' → wq X 6 13 [(0, .ref l0), (1, .int l1), (2, .int (s'.1)), (3, .int (s'.2.1)), (4, .int (s'.2.2.1))] [] s'.2.2.2) (kx : ∀ e' : Int32 × Mem, y = (.inr e') → wq X 6 95 [(2, .int (e'.1))] [] e'.2) : wq X 6 13 [(0, .ref l0), (1, .int l1), (2, .int l2), (3, .int l3), (4, .int l4)] [] M := by
  unfold F_X8_free_s13 at h
  refine q_iload 4 C dX8_free_13 rfl ?_
  refine q_aload_n 0 C dX8_free_15 rfl ?_
  obtain ⟨v5, e6, h⟩ := bindE h
  refine q_getP C fl_RX8_23 rfl e6 dX8_free_16 ?_
  obtain ⟨v7, e8, h⟩ := bindE h
  refine q_getI C fl_RX8_119 rfl e8 dX8_free_19 ?_
  refine q_icmp_ge (tgt := 95) C dX8_free_22 (by decide) (fun c9 => ?_) (fun c9 => ?_)
  · have h := ifT c9 h
    exact q_sub (lv' := [(2, .int l2)]) [2] rfl (kx (l2, M) (someI h))
  · have h := ifF c9 h
    refine q_aload_n 0 C dX8_free_25 rfl ?_
    obtain ⟨v10, e11, h⟩ := bindE h
    refine q_getP C fl_RX8_33 rfl e11 dX8_free_26 ?_
    obtain ⟨v12, e13, h⟩ := bindE h
    refine q_getP C fl_RX8_159 rfl e13 dX8_free_29 ?_
    refine q_iload 4 C dX8_free_32 rfl ?_
    obtain ⟨v14, e15, h⟩ := bindE h
    refine q_iaload C e15 dX8_free_34 ?_
    refine q_iconst (v := (-1 : Int32)) C dX8_free_35 (by decide) ?_
    refine q_icmp_ne (tgt := 53) C dX8_free_36 (by decide) (fun c16 => ?_) (fun c16 => ?_)
    · have h := ifF c16 h
      exact q_sub (lv' := [(0, .ref l0), (1, .int l1), (2, .int l2), (3, .int l3), (4, .int l4)]) [0, 1, 2, 3, 4] rfl (w_X8_free_j53_13 C hRO hl l0 l1 l2 l3 l4 M h kc kx)
    · have h := ifT c16 h
      refine q_aload_n 0 C dX8_free_39 rfl ?_
      refine q_iload_n 1 C dX8_free_40 rfl ?_
      refine q_iload 4 C dX8_free_41 rfl ?_
      obtain ⟨e29, h⟩ := ckOE h
      obtain ⟨v32, M31, e30, h⟩ := bd2E h
      refine q_callV (v := some (.int v32)) [.int l1, .int l4] C hRO lk_RX8_249 vk_X8_entersNow e29 rfl rfl rfl (Nat.le_of_ble_eq_true rfl) (by decide) (by decide) dX8_free_43 (k_X8_entersNow X.1.2.1 hl X.2.2.1 l0 l1 l4 M _ e30) ?_
      refine q_if_eq (tgt := 53) C dX8_free_46 (by decide) (fun c33 => ?_) (fun c33 => ?_)
      · have h := ifT c33 h
        exact q_sub (lv' := [(0, .ref l0), (1, .int l1), (2, .int l2), (3, .int l3), (4, .int l4)]) [0, 1, 2, 3, 4] rfl (w_X8_free_j53_13 C hRO hl l0 l1 l2 l3 l4 M31 h kc kx)
      · have h := ifF c33 h
        refine q_iconst (v := (1 : Int32)) C dX8_free_49 (by decide) ?_
        refine q_goto (tgt := 54) C dX8_free_50 (by decide) ?_
        exact q_sub (lv' := [(0, .ref l0), (1, .int l1), (2, .int l2), (3, .int l3), (4, .int l4)]) [0, 1, 2, 3, 4] rfl (w_X8_free_j54_13 C hRO hl l0 l1 l2 l3 l4 (1 : Int32) M31 h kc kx)
theorem w_X8_free_l13 {X : CX} {r : Int32 × Mem} (C : CK X cX8_free 6 RX8 12 258) (hRO : RO X.2.2.1 X.1.2.2.2.2.1 X.1.2.2.2.2.1.heap) (hl : X.1.2.1.stackTraces = false) (l0 : Nat) (l1 : Int32) (l2 : Int32) (l3 : Int32) (l4 : Int32) (M : Mem) (h : loop (fun s => F_X8_free_s13 l0 l1 s.1 s.2.1 s.2.2.1 s.2.2.2) (l2, l3, l4, M) = some r) (kx : ∀ e' : Int32 × Mem, r = e' → wq X 6 95 [(2, .int (e'.1))] [] e'.2) : wq X 6 13 [(0, .ref l0), (1, .int l1), (2, .int l2), (3, .int l3), (4, .int l4)] [] M :=
  loop_ind (P := fun s => wq X 6 13 [(0, .ref l0), (1, .int l1), (2, .int s.1), (3, .int s.2.1), (4, .int s.2.2.1)] [] s.2.2.2) h (fun s y hy kc kr => w_X8_free_s13 C hRO hl l0 l1 s.1 s.2.1 s.2.2.1 s.2.2.2 hy kc (fun e' he => kx e' (kr _ he).symm))
set_option maxRecDepth 100000 in
set_option maxHeartbeats 4000000 in
theorem w_X8_free {X : CX} {y : (Int32 × Mem) ⊕ (Nat × Mem)} (C : CK X cX8_free 6 RX8 12 258) (hRO : RO X.2.2.1 X.1.2.2.2.2.1 X.1.2.2.2.2.1.heap) (hl : X.1.2.1.stackTraces = false) (l0 : Nat) (l1 : Int32) (M : Mem) (h : F_X8_free l0 l1 M = some y) (kf : FIN X (some .int) (rs_tI y) (ms_tI y)) : wq X 6 0 [(0, .ref l0), (1, .int l1)] [] M := by
  unfold F_X8_free at h
  refine q_aload_n 0 C dX8_free_0 rfl ?_
  refine q_iload_n 1 C dX8_free_1 rfl ?_
  obtain ⟨e1, h⟩ := ckOE h
  rcases bdVE h with ⟨M3, e2, h⟩ | ⟨x39, M40, e2, h⟩
  · refine q_callV (v := none) [.int l1] C hRO lk_RX8_223 vk_X8_needPerson e1 rfl rfl rfl (Nat.le_of_ble_eq_true rfl) (by decide) (by decide) dX8_free_2 (k_X8_needPerson X.1.2.1 hl X.2.2.1 l0 l1 M _ e2) ?_
    refine q_iconst (v := (-1 : Int32)) C dX8_free_5 (by decide) ?_
    refine q_istore_n (i := 2) (lv' := [(2, .int (-1 : Int32)), (0, .ref l0), (1, .int l1)]) C dX8_free_6 rfl (by decide) rfl ?_
    refine q_bipush (v := (31 : Int32)) C dX8_free_7 (by decide) ?_
    refine q_istore_n (i := 3) (lv' := [(3, .int (31 : Int32)), (2, .int (-1 : Int32)), (0, .ref l0), (1, .int l1)]) C dX8_free_9 rfl (by decide) rfl ?_
    refine q_iconst (v := (0 : Int32)) C dX8_free_10 (by decide) ?_
    refine q_istore (i := 4) (lv' := [(4, .int (0 : Int32)), (3, .int (31 : Int32)), (2, .int (-1 : Int32)), (0, .ref l0), (1, .int l1)]) C dX8_free_11 (by decide) rfl ?_
    obtain ⟨⟨x36, M37⟩, e35, h⟩ := bindE h
    refine q_sub (lv' := [(0, .ref l0), (1, .int l1), (2, .int (-1 : Int32)), (3, .int (31 : Int32)), (4, .int (0 : Int32))]) [3, 4, 2, 1, 0] rfl (w_X8_free_l13 C hRO hl l0 l1 (-1 : Int32) (31 : Int32) (0 : Int32) M3 e35 (fun r34 he => ?_))
    subst he
    have h := u2E h
    show wq X 6 95 [(2, .int x36)] [] M37
    refine q_iload_n 0 C dX8_free_95 rfl ?_
    cases h
    exact q_iret C kf dX8_free_96
  · skip
    cases h
    exact q_callVX [.int l1] C kf lk_RX8_223 vk_X8_needPerson e1 rfl rfl rfl (Nat.le_of_ble_eq_true rfl) (by decide) (by decide) dX8_free_2 (k_X8_needPerson X.1.2.1 hl X.2.2.1 l0 l1 M _ e2)
theorem k_X8_free (l : Launch) (hl : l.stackTraces = false) (G : GG) (l0 : Nat) (l1 : Int32) (M : Mem) (x : (Int32 × Mem) ⊕ (Nat × Mem)) (h : F_X8_free l0 l1 M = some x) : Ct l G yX8_free (.code yX8_free cX8_free 6 (some .int)) 12 258 [.ref l0, .int l1] M (rs_tI x) (ms_tI x) := by
  refine Ct_of (by decide +kernel) (Nat.le_of_ble_eq_true rfl) fun X e1 e2 e3 C FN hnm => ?_
  subst e1; subst e2
  show wq X 6 0 [(0, .ref l0), (1, .int l1)] [] M
  exact w_X8_free C FN.2.2.2 hl l0 l1 M h FN
/-! X8_gain -/
set_option maxRecDepth 100000 in
set_option maxHeartbeats 4000000 in
theorem w_X8_gain_j25 {X : CX} {y : Int32 × Mem} (C : CK X cX8_gain 6 RX8 12 258) (hRO : RO X.2.2.1 X.1.2.2.2.2.1 X.1.2.2.2.2.1.heap) (hl : X.1.2.1.stackTraces = false) (l0 : Nat) (l1 : Int32) (l5 : Int32) (M : Mem) (h : F_X8_gain_j25 l0 l1 l5 M = some y) (kf : FIN X (some .int) (rs_mI y) (ms_mI y)) : wq X 6 25 [(0, .ref l0), (1, .int l1), (5, .int l5)] [] M := by
  unfold F_X8_gain_j25 at h
  refine q_aload_n 0 C dX8_gain_25 rfl ?_
  refine q_iload_n 1 C dX8_gain_26 rfl ?_
  refine q_iload 2 C dX8_gain_27 rfl ?_
  obtain ⟨e3, h⟩ := ckOE h
  obtain ⟨v6, M5, e4, h⟩ := bd2E h
  refine q_callV (v := some (.int v6)) [.int l1, .int l5] C hRO lk_RX8_249 vk_X8_entersNow e3 rfl rfl rfl (Nat.le_of_ble_eq_true rfl) (by decide) (by decide) dX8_gain_29 (k_X8_entersNow X.1.2.1 hl X.2.2.1 l0 l1 l5 M _ e4) ?_
  refine q_if_eq (tgt := 53) C dX8_gain_32 (by decide) (fun c7 => ?_) (fun c7 => ?_)
  · have h := ifT c7 h
    refine q_bipush (v := (-3 : Int32)) C dX8_gain_53 (by decide) ?_
    cases h
    exact q_iret C kf dX8_gain_55
  · have h := ifF c7 h
    refine q_bipush (v := (20 : Int32)) C dX8_gain_35 (by decide) ?_
    refine q_iconst (v := (2 : Int32)) C dX8_gain_37 (by decide) ?_
    refine q_aload_n 0 C dX8_gain_38 rfl ?_
    obtain ⟨v8, e9, h⟩ := bindE h
    refine q_getP C fl_RX8_33 rfl e9 dX8_gain_39 ?_
    refine q_iload_n 1 C dX8_gain_42 rfl ?_
    refine q_iload 2 C dX8_gain_43 rfl ?_
    obtain ⟨e10, h⟩ := ckOE h
    obtain ⟨v12, e11, h⟩ := bindE h
    refine q_callV (v := some (.int v12)) [.int l1, .int l5] C hRO lk_RX8_172 vk_X6_tight e10 rfl rfl rfl (Nat.le_of_ble_eq_true rfl) (by decide) (by decide) dX8_gain_45 (k_X6_tight X.1.2.1 hl X.2.2.1 v8 l1 l5 M5 _ e11) ?_
    refine q_imul C dX8_gain_48 ?_
    refine q_isub C dX8_gain_49 ?_
    refine q_goto (tgt := 55) C dX8_gain_50 (by decide) ?_
    cases h
    exact q_iret C kf dX8_gain_55
set_option maxRecDepth 100000 in
set_option maxHeartbeats 4000000 in
theorem w_X8_gain {X : CX} {y : Int32 × Mem} (C : CK X cX8_gain 6 RX8 12 258) (hRO : RO X.2.2.1 X.1.2.2.2.2.1 X.1.2.2.2.2.1.heap) (hl : X.1.2.1.stackTraces = false) (l0 : Nat) (l1 : Int32) (l2 : Int32) (l3 : Int32) (l4 : Int32) (l5 : Int32) (M : Mem) (h : F_X8_gain l0 l1 l2 l3 l4 l5 M = some y) (kf : FIN X (some .int) (rs_mI y) (ms_mI y)) : wq X 6 0 [(0, .ref l0), (1, .int l1), (2, .int l2), (3, .int l3), (4, .int l4), (5, .int l5)] [] M := by
  unfold F_X8_gain at h
  refine q_iload_n 2 C dX8_gain_0 rfl ?_
  refine q_if_ne (tgt := 6) C dX8_gain_1 (by decide) (fun c1 => ?_) (fun c1 => ?_)
  · have h := ifF c1 h
    refine q_iload 4 C dX8_gain_6 rfl ?_
    refine q_if_eq (tgt := 25) C dX8_gain_8 (by decide) (fun c2 => ?_) (fun c2 => ?_)
    · have h := ifT c2 h
      exact q_sub (lv' := [(0, .ref l0), (1, .int l1), (5, .int l5)]) [0, 1, 5] rfl (w_X8_gain_j25 C hRO hl l0 l1 l5 M h kf)
    · have h := ifF c2 h
      refine q_aload_n 0 C dX8_gain_11 rfl ?_
      refine q_iload_n 1 C dX8_gain_12 rfl ?_
      refine q_iload_n 3 C dX8_gain_13 rfl ?_
      refine q_iload 5 C dX8_gain_14 rfl ?_
      obtain ⟨e13, h⟩ := ckOE h
      obtain ⟨v15, e14, h⟩ := bindE h
      refine q_callV (v := some (.int v15)) [.int l1, .int l3, .int l5] C hRO lk_RX8_372 vk_X8_comesFirst e13 rfl rfl rfl (Nat.le_of_ble_eq_true rfl) (by decide) (by decide) dX8_gain_16 (k_X8_comesFirst X.1.2.1 hl X.2.2.1 l0 l1 l3 l5 M _ e14) ?_
      refine q_if_ne (tgt := 25) C dX8_gain_19 (by decide) (fun c16 => ?_) (fun c16 => ?_)
      · have h := ifF c16 h
        exact q_sub (lv' := [(0, .ref l0), (1, .int l1), (5, .int l5)]) [0, 1, 5] rfl (w_X8_gain_j25 C hRO hl l0 l1 l5 M h kf)
      · have h := ifT c16 h
        refine q_bipush (v := (-5 : Int32)) C dX8_gain_22 (by decide) ?_
        cases h
        exact q_iret C kf dX8_gain_24
  · have h := ifT c1 h
    refine q_iconst (v := (2 : Int32)) C dX8_gain_4 (by decide) ?_
    cases h
    exact q_iret C kf dX8_gain_5
theorem k_X8_gain (l : Launch) (hl : l.stackTraces = false) (G : GG) (l0 : Nat) (l1 : Int32) (l2 : Int32) (l3 : Int32) (l4 : Int32) (l5 : Int32) (M : Mem) (x : Int32 × Mem) (h : F_X8_gain l0 l1 l2 l3 l4 l5 M = some x) : Ct l G yX8_gain (.code yX8_gain cX8_gain 6 (some .int)) 12 258 [.ref l0, .int l1, .int l2, .int l3, .int l4, .int l5] M (rs_mI x) (ms_mI x) := by
  refine Ct_of (by decide +kernel) (Nat.le_of_ble_eq_true rfl) fun X e1 e2 e3 C FN hnm => ?_
  subst e1; subst e2
  show wq X 6 0 [(0, .ref l0), (1, .int l1), (2, .int l2), (3, .int l3), (4, .int l4), (5, .int l5)] [] M
  exact w_X8_gain C FN.2.2.2 hl l0 l1 l2 l3 l4 l5 M h FN
/-! X8_needWhat -/
set_option maxRecDepth 100000 in
set_option maxHeartbeats 4000000 in
theorem w_X8_needWhat {X : CX} {y : (Mem) ⊕ (Nat × Mem)} (C : CK X cX8_needWhat 2 RX8 7 140) (hRO : RO X.2.2.1 X.1.2.2.2.2.1 X.1.2.2.2.2.1.heap) (hl : X.1.2.1.stackTraces = false) (l0 : Int32) (l1 : Int32) (M : Mem) (h : F_X8_needWhat l0 l1 M = some y) (kf : FIN X none (rs_tV y) (ms_tV y)) : wq X 2 0 [(0, .int l0), (1, .int l1)] [] M := by
  unfold F_X8_needWhat at h
  refine q_iload_n 0 C dX8_needWhat_0 rfl ?_
  refine q_if_lt (tgt := 9) C dX8_needWhat_1 (by decide) (fun c1 => ?_) (fun c1 => ?_)
  · have h := ifT c1 h
    obtain ⟨M2, e3, h⟩ := bindE h
    cases h
    exact q_throwNW (e0 := 1) (i := 21) C kf hl (by decide) cl_RX8_154 in_ex1 rfl at_RX8_158 gd_RX8_158 e3 dX8_needWhat_9 dX8_needWhat_12 dX8_needWhat_13 dX8_needWhat_16 dX8_needWhat_19 (by decide) (Nat.le_of_ble_eq_true rfl)
  · have h := ifF c1 h
    refine q_iload_n 0 C dX8_needWhat_4 rfl ?_
    refine q_iload_n 1 C dX8_needWhat_5 rfl ?_
    refine q_icmp_le (tgt := 20) C dX8_needWhat_6 (by decide) (fun c4 => ?_) (fun c4 => ?_)
    · have h := ifT c4 h
      cases h
      exact q_vret C kf dX8_needWhat_20
    · have h := ifF c4 h
      obtain ⟨M5, e6, h⟩ := bindE h
      cases h
      exact q_throwNW (e0 := 1) (i := 21) C kf hl (by decide) cl_RX8_154 in_ex1 rfl at_RX8_158 gd_RX8_158 e6 dX8_needWhat_9 dX8_needWhat_12 dX8_needWhat_13 dX8_needWhat_16 dX8_needWhat_19 (by decide) (Nat.le_of_ble_eq_true rfl)
theorem k_X8_needWhat (l : Launch) (hl : l.stackTraces = false) (G : GG) (l0 : Int32) (l1 : Int32) (M : Mem) (x : (Mem) ⊕ (Nat × Mem)) (h : F_X8_needWhat l0 l1 M = some x) : Ct l G yX8_needWhat (.code yX8_needWhat cX8_needWhat 2 none) 7 140 [.int l0, .int l1] M (rs_tV x) (ms_tV x) := by
  refine Ct_of (by decide +kernel) (Nat.le_of_ble_eq_true rfl) fun X e1 e2 e3 C FN hnm => ?_
  subst e1; subst e2
  show wq X 2 0 [(0, .int l0), (1, .int l1)] [] M
  exact w_X8_needWhat C FN.2.2.2 hl l0 l1 M h FN
/-! X8_stays -/
set_option maxRecDepth 100000 in
set_option maxHeartbeats 4000000 in
theorem w_X8_stays_j24 {X : CX} {y : Int32 × Mem} (C : CK X cX8_stays 7 RX8 13 283) (hRO : RO X.2.2.1 X.1.2.2.2.2.1 X.1.2.2.2.2.1.heap) (hl : X.1.2.1.stackTraces = false) (l3 : Int32) (l4 : Int32) (l5 : Int32) (l6 : Int32) (t0 : Int32) (t1 : Int32) (t2 : Nat) (M : Mem) (h : F_X8_stays_j24 l3 l4 l5 l6 t0 t1 t2 M = some y) (kf : FIN X (some .boolean) (rs_mI y) (ms_mI y)) : wq X 7 24 [(3, .int l3), (4, .int l4), (5, .int l5), (6, .int l6)] [.int t0, .int t1, .ref t2] M := by
  unfold F_X8_stays_j24 at h
  refine q_iload_n 0 C dX8_stays_24 rfl ?_
  refine q_iload 1 C dX8_stays_25 rfl ?_
  refine q_iload 2 C dX8_stays_27 rfl ?_
  obtain ⟨e6, h⟩ := ckOE h
  obtain ⟨v9, M8, e7, h⟩ := bd2E h
  refine q_callV (v := some (.int v9)) [.int t1, .int t0, .int l3, .int l4, .int l5] C hRO lk_RX8_368 vk_X8_gain e6 rfl rfl rfl (Nat.le_of_ble_eq_true rfl) (by decide) (by decide) dX8_stays_29 (k_X8_gain X.1.2.1 hl X.2.2.1 t2 t1 t0 l3 l4 l5 M _ e7) ?_
  refine q_iload 3 C dX8_stays_32 rfl ?_
  refine q_icmp_gt (tgt := 41) C dX8_stays_34 (by decide) (fun c10 => ?_) (fun c10 => ?_)
  · have h := ifT c10 h
    refine q_iconst (v := (0 : Int32)) C dX8_stays_41 (by decide) ?_
    cases h
    exact q_zretE (w := (0 : Int32)) (by decide) C kf dX8_stays_42
  · have h := ifF c10 h
    refine q_iconst (v := (1 : Int32)) C dX8_stays_37 (by decide) ?_
    refine q_goto (tgt := 42) C dX8_stays_38 (by decide) ?_
    cases h
    exact q_zretE (w := (1 : Int32)) (by decide) C kf dX8_stays_42
set_option maxRecDepth 100000 in
set_option maxHeartbeats 4000000 in
theorem w_X8_stays {X : CX} {y : Int32 × Mem} (C : CK X cX8_stays 7 RX8 13 283) (hRO : RO X.2.2.1 X.1.2.2.2.2.1 X.1.2.2.2.2.1.heap) (hl : X.1.2.1.stackTraces = false) (l0 : Nat) (l1 : Int32) (l2 : Int32) (l3 : Int32) (l4 : Int32) (l5 : Int32) (M : Mem) (h : F_X8_stays l0 l1 l2 l3 l4 l5 M = some y) (kf : FIN X (some .boolean) (rs_mI y) (ms_mI y)) : wq X 7 0 [(0, .ref l0), (1, .int l1), (2, .int l2), (3, .int l3), (4, .int l4), (5, .int l5)] [] M := by
  unfold F_X8_stays at h
  refine q_aload_n 0 C dX8_stays_0 rfl ?_
  refine q_iload_n 1 C dX8_stays_1 rfl ?_
  refine q_iload_n 2 C dX8_stays_2 rfl ?_
  refine q_iload_n 3 C dX8_stays_3 rfl ?_
  refine q_iload 4 C dX8_stays_4 rfl ?_
  refine q_iload 5 C dX8_stays_6 rfl ?_
  obtain ⟨e1, h⟩ := ckOE h
  obtain ⟨v4, M3, e2, h⟩ := bd2E h
  refine q_callV (v := some (.int v4)) [.int l1, .int l2, .int l3, .int l4, .int l5] C hRO lk_RX8_368 vk_X8_gain e1 rfl rfl rfl (Nat.le_of_ble_eq_true rfl) (by decide) (by decide) dX8_stays_8 (k_X8_gain X.1.2.1 hl X.2.2.1 l0 l1 l2 l3 l4 l5 M _ e2) ?_
  refine q_istore (i := 6) (lv' := [(6, .int v4), (0, .ref l0), (1, .int l1), (2, .int l2), (3, .int l3), (4, .int l4), (5, .int l5)]) C dX8_stays_11 (by decide) rfl ?_
  refine q_aload_n 1 C dX8_stays_13 rfl ?_
  refine q_iload_n 2 C dX8_stays_14 rfl ?_
  refine q_iload_n 3 C dX8_stays_15 rfl ?_
  refine q_if_ne (tgt := 23) C dX8_stays_16 (by decide) (fun c5 => ?_) (fun c5 => ?_)
  · have h := ifF c5 h
    refine q_iconst (v := (0 : Int32)) C dX8_stays_23 (by decide) ?_
    exact q_sub (lv' := [(3, .int l3), (4, .int l4), (5, .int l5), (6, .int v4)]) [4, 5, 6, 0] rfl (w_X8_stays_j24 C hRO hl l3 l4 l5 v4 (0 : Int32) l1 l0 M3 h kf)
  · have h := ifT c5 h
    refine q_iconst (v := (1 : Int32)) C dX8_stays_19 (by decide) ?_
    refine q_goto (tgt := 24) C dX8_stays_20 (by decide) ?_
    exact q_sub (lv' := [(3, .int l3), (4, .int l4), (5, .int l5), (6, .int v4)]) [4, 5, 6, 0] rfl (w_X8_stays_j24 C hRO hl l3 l4 l5 v4 (1 : Int32) l1 l0 M3 h kf)
theorem k_X8_stays (l : Launch) (hl : l.stackTraces = false) (G : GG) (l0 : Nat) (l1 : Int32) (l2 : Int32) (l3 : Int32) (l4 : Int32) (l5 : Int32) (M : Mem) (x : Int32 × Mem) (h : F_X8_stays l0 l1 l2 l3 l4 l5 M = some x) : Ct l G yX8_stays (.code yX8_stays cX8_stays 7 (some .boolean)) 13 283 [.ref l0, .int l1, .int l2, .int l3, .int l4, .int l5] M (rs_mI x) (ms_mI x) := by
  refine Ct_of (by decide +kernel) (Nat.le_of_ble_eq_true rfl) fun X e1 e2 e3 C FN hnm => ?_
  subst e1; subst e2
  show wq X 7 0 [(0, .ref l0), (1, .int l1), (2, .int l2), (3, .int l3), (4, .int l4), (5, .int l5)] [] M
  exact w_X8_stays C FN.2.2.2 hl l0 l1 l2 l3 l4 l5 M h FN
/-! X8_game -/
set_option maxRecDepth 100000 in
set_option maxHeartbeats 4000000 in
theorem w_X8_game_j128_46 {X : CX} {y : (Int32 × Int32 × Int32 × Mem) ⊕ (Int32 × Int32 × Mem)} (C : CK X cX8_game 10 RX8 14 309) (hRO : RO X.2.2.1 X.1.2.2.2.2.1 X.1.2.2.2.2.1.heap) (hl : X.1.2.1.stackTraces = false) (l0 : Nat) (l1 : Int32) (l2 : Int32) (l3 : Int32) (l4 : Int32) (l5 : Int32) (l7 : Int32) (l9 : Int32) (t0 : Int32) (M : Mem) (h : F_X8_game_j128_46 l0 l1 l2 l3 l5 l7 l9 t0 M = some y) (kc : ∀ s' : Int32 × Int32 × Int32 × Mem, y = .inl s' → wq X 10 46 [(0, .ref l0), (1, .int l1), (2, .int l2), (3, .int l3), (4, .int l4), (5, .int (s'.1)), (6, .int (s'.2.1)), (7, .int (s'.2.2.1))] [] s'.2.2.2) (kx : ∀ e' : Int32 × Int32 × Mem, y = (.inr e') → wq X 10 152 [(4, .int l4), (5, .int (e'.1)), (6, .int (e'.2.1))] [] e'.2.2) : wq X 10 128 [(0, .ref l0), (1, .int l1), (2, .int l2), (3, .int l3), (4, .int l4), (5, .int l5), (7, .int l7), (9, .int l9)] [.int t0] M := by
  unfold F_X8_game_j128_46 at h
  refine q_iload 7 C dX8_game_128 rfl ?_
  refine q_if_eq (tgt := 137) C dX8_game_130 (by decide) (fun c32 => ?_) (fun c32 => ?_)
  · have h := ifT c32 h
    refine q_iconst (v := (0 : Int32)) C dX8_game_137 (by decide) ?_
    refine q_iadd C dX8_game_138 ?_
    refine q_goto (tgt := 144) C dX8_game_139 (by decide) ?_
    refine q_istore (i := 6) (lv' := [(6, .int (t0 + (0 : Int32))), (0, .ref l0), (1, .int l1), (2, .int l2), (3, .int l3), (4, .int l4), (5, .int l5), (7, .int l7), (9, .int l9)]) C dX8_game_144 (by decide) rfl ?_
    refine q_iinc 7 (v := (l7 + (1 : Int32))) (lv' := [(7, .int (l7 + (1 : Int32))), (6, .int (t0 + (0 : Int32))), (0, .ref l0), (1, .int l1), (2, .int l2), (3, .int l3), (4, .int l4), (5, .int l5), (9, .int l9)]) C dX8_game_146 rfl rfl (by decide) rfl ?_
    refine q_goto (tgt := 46) C dX8_game_149 (by decide) ?_
    exact q_sub (lv' := [(0, .ref l0), (1, .int l1), (2, .int l2), (3, .int l3), (4, .int l4), (5, .int l5), (6, .int (t0 + (0 : Int32))), (7, .int (l7 + (1 : Int32)))]) [2, 3, 4, 5, 6, 7, 1, 0] rfl (kc (l5, (t0 + (0 : Int32)), (l7 + (1 : Int32)), M) (someI h))
  · have h := ifF c32 h
    refine q_iconst (v := (1 : Int32)) C dX8_game_133 (by decide) ?_
    refine q_goto (tgt := 138) C dX8_game_134 (by decide) ?_
    refine q_iadd C dX8_game_138 ?_
    refine q_goto (tgt := 144) C dX8_game_139 (by decide) ?_
    refine q_istore (i := 6) (lv' := [(6, .int (t0 + (1 : Int32))), (0, .ref l0), (1, .int l1), (2, .int l2), (3, .int l3), (4, .int l4), (5, .int l5), (7, .int l7), (9, .int l9)]) C dX8_game_144 (by decide) rfl ?_
    refine q_iinc 7 (v := (l7 + (1 : Int32))) (lv' := [(7, .int (l7 + (1 : Int32))), (6, .int (t0 + (1 : Int32))), (0, .ref l0), (1, .int l1), (2, .int l2), (3, .int l3), (4, .int l4), (5, .int l5), (9, .int l9)]) C dX8_game_146 rfl rfl (by decide) rfl ?_
    refine q_goto (tgt := 46) C dX8_game_149 (by decide) ?_
    exact q_sub (lv' := [(0, .ref l0), (1, .int l1), (2, .int l2), (3, .int l3), (4, .int l4), (5, .int l5), (6, .int (t0 + (1 : Int32))), (7, .int (l7 + (1 : Int32)))]) [2, 3, 4, 5, 6, 7, 1, 0] rfl (kc (l5, (t0 + (1 : Int32)), (l7 + (1 : Int32)), M) (someI h))
set_option maxRecDepth 100000 in
set_option maxHeartbeats 4000000 in
theorem w_X8_game_j78_46 {X : CX} {y : (Int32 × Int32 × Int32 × Mem) ⊕ (Int32 × Int32 × Mem)} (C : CK X cX8_game 10 RX8 14 309) (hRO : RO X.2.2.1 X.1.2.2.2.2.1 X.1.2.2.2.2.1.heap) (hl : X.1.2.1.stackTraces = false) (l0 : Nat) (l1 : Int32) (l2 : Int32) (l3 : Int32) (l4 : Int32) (l5 : Int32) (l6 : Int32) (l7 : Int32) (l8 : Int32) (t0 : Int32) (M : Mem) (h : F_X8_game_j78_46 l0 l1 l2 l3 l5 l6 l7 l8 t0 M = some y) (kc : ∀ s' : Int32 × Int32 × Int32 × Mem, y = .inl s' → wq X 10 46 [(0, .ref l0), (1, .int l1), (2, .int l2), (3, .int l3), (4, .int l4), (5, .int (s'.1)), (6, .int (s'.2.1)), (7, .int (s'.2.2.1))] [] s'.2.2.2) (kx : ∀ e' : Int32 × Int32 × Mem, y = (.inr e') → wq X 10 152 [(4, .int l4), (5, .int (e'.1)), (6, .int (e'.2.1))] [] e'.2.2) : wq X 10 78 [(0, .ref l0), (1, .int l1), (2, .int l2), (3, .int l3), (4, .int l4), (5, .int l5), (6, .int l6), (7, .int l7), (8, .int l8)] [.int t0] M := by
  unfold F_X8_game_j78_46 at h
  refine q_istore (i := 9) (lv' := [(9, .int t0), (0, .ref l0), (1, .int l1), (2, .int l2), (3, .int l3), (4, .int l4), (5, .int l5), (6, .int l6), (7, .int l7), (8, .int l8)]) C dX8_game_78 (by decide) rfl ?_
  refine q_aload_n 1 C dX8_game_80 rfl ?_
  refine q_iload_n 2 C dX8_game_81 rfl ?_
  refine q_iload 9 C dX8_game_82 rfl ?_
  refine q_iload_n 3 C dX8_game_84 rfl ?_
  refine q_iload 0 C dX8_game_85 rfl ?_
  refine q_iload_n 4 C dX8_game_87 rfl ?_
  obtain ⟨e20, h⟩ := ckOE h
  obtain ⟨v23, M22, e21, h⟩ := bd2E h
  refine q_callV (v := some (.int v23)) [.int l1, .int l8, .int l2, .int t0, .int l3] C hRO lk_RX8_364 vk_X8_stays e20 rfl rfl rfl (Nat.le_of_ble_eq_true rfl) (by decide) (by decide) dX8_game_88 (k_X8_stays X.1.2.1 hl X.2.2.1 l0 l1 l8 l2 t0 l3 M _ e21) ?_
  refine q_if_eq (tgt := 146) C dX8_game_91 (by decide) (fun c24 => ?_) (fun c24 => ?_)
  · have h := ifT c24 h
    refine q_iinc 8 (v := (l7 + (1 : Int32))) (lv' := [(7, .int (l7 + (1 : Int32))), (9, .int t0), (0, .ref l0), (1, .int l1), (2, .int l2), (3, .int l3), (4, .int l4), (5, .int l5), (6, .int l6), (8, .int l8)]) C dX8_game_146 rfl rfl (by decide) rfl ?_
    refine q_goto (tgt := 46) C dX8_game_149 (by decide) ?_
    exact q_sub (lv' := [(0, .ref l0), (1, .int l1), (2, .int l2), (3, .int l3), (4, .int l4), (5, .int l5), (6, .int l6), (7, .int (l7 + (1 : Int32)))]) [2, 3, 4, 5, 6, 7, 8, 0] rfl (kc (l5, l6, (l7 + (1 : Int32)), M22) (someI h))
  · have h := ifF c24 h
    refine q_aload_n 1 C dX8_game_94 rfl ?_
    refine q_iload_n 3 C dX8_game_95 rfl ?_
    refine q_iload 0 C dX8_game_96 rfl ?_
    refine q_iload_n 2 C dX8_game_98 rfl ?_
    refine q_iload 9 C dX8_game_99 rfl ?_
    refine q_iload_n 4 C dX8_game_101 rfl ?_
    obtain ⟨e25, h⟩ := ckOE h
    obtain ⟨v28, M27, e26, h⟩ := bd2E h
    refine q_callV (v := some (.int v28)) [.int l2, .int t0, .int l1, .int l8, .int l3] C hRO lk_RX8_364 vk_X8_stays e25 rfl rfl rfl (Nat.le_of_ble_eq_true rfl) (by decide) (by decide) dX8_game_102 (k_X8_stays X.1.2.1 hl X.2.2.1 l0 l2 t0 l1 l8 l3 M22 _ e26) ?_
    refine q_if_eq (tgt := 146) C dX8_game_105 (by decide) (fun c29 => ?_) (fun c29 => ?_)
    · have h := ifT c29 h
      refine q_iinc 8 (v := (l7 + (1 : Int32))) (lv' := [(7, .int (l7 + (1 : Int32))), (9, .int t0), (0, .ref l0), (1, .int l1), (2, .int l2), (3, .int l3), (4, .int l4), (5, .int l5), (6, .int l6), (8, .int l8)]) C dX8_game_146 rfl rfl (by decide) rfl ?_
      refine q_goto (tgt := 46) C dX8_game_149 (by decide) ?_
      exact q_sub (lv' := [(0, .ref l0), (1, .int l1), (2, .int l2), (3, .int l3), (4, .int l4), (5, .int l5), (6, .int l6), (7, .int (l7 + (1 : Int32)))]) [2, 3, 4, 5, 6, 7, 8, 0] rfl (kc (l5, l6, (l7 + (1 : Int32)), M27) (someI h))
    · have h := ifF c29 h
      refine q_iinc 6 (v := (l5 + (1 : Int32))) (lv' := [(5, .int (l5 + (1 : Int32))), (9, .int t0), (0, .ref l0), (1, .int l1), (2, .int l2), (3, .int l3), (4, .int l4), (6, .int l6), (7, .int l7), (8, .int l8)]) C dX8_game_108 rfl rfl (by decide) rfl ?_
      refine q_iload 7 C dX8_game_111 rfl ?_
      refine q_iconst (v := (-1 : Int32)) C dX8_game_113 (by decide) ?_
      refine q_icmp_ne (tgt := 142) C dX8_game_114 (by decide) (fun c30 => ?_) (fun c30 => ?_)
      · have h := ifF c30 h
        refine q_iload 7 C dX8_game_142 rfl ?_
        refine q_istore (i := 6) (lv' := [(6, .int l6), (5, .int (l5 + (1 : Int32))), (9, .int t0), (0, .ref l0), (1, .int l1), (2, .int l2), (3, .int l3), (4, .int l4), (7, .int l7), (8, .int l8)]) C dX8_game_144 (by decide) rfl ?_
        refine q_iinc 8 (v := (l7 + (1 : Int32))) (lv' := [(7, .int (l7 + (1 : Int32))), (6, .int l6), (5, .int (l5 + (1 : Int32))), (9, .int t0), (0, .ref l0), (1, .int l1), (2, .int l2), (3, .int l3), (4, .int l4), (8, .int l8)]) C dX8_game_146 rfl rfl (by decide) rfl ?_
        refine q_goto (tgt := 46) C dX8_game_149 (by decide) ?_
        exact q_sub (lv' := [(0, .ref l0), (1, .int l1), (2, .int l2), (3, .int l3), (4, .int l4), (5, .int (l5 + (1 : Int32))), (6, .int l6), (7, .int (l7 + (1 : Int32)))]) [4, 5, 6, 7, 8, 2, 1, 0] rfl (kc ((l5 + (1 : Int32)), l6, (l7 + (1 : Int32)), M27) (someI h))
      · have h := ifT c30 h
        refine q_iload 9 C dX8_game_117 rfl ?_
        refine q_if_eq (tgt := 127) C dX8_game_119 (by decide) (fun c31 => ?_) (fun c31 => ?_)
        · have h := ifT c31 h
          refine q_iconst (v := (0 : Int32)) C dX8_game_127 (by decide) ?_
          exact q_sub (lv' := [(0, .ref l0), (1, .int l1), (2, .int l2), (3, .int l3), (4, .int l4), (5, .int (l5 + (1 : Int32))), (7, .int l7), (9, .int t0)]) [2, 3, 4, 5, 6, 0, 8, 1] rfl (w_X8_game_j128_46 C hRO hl l0 l1 l2 l3 l4 (l5 + (1 : Int32)) l7 t0 (0 : Int32) M27 h kc kx)
        · have h := ifF c31 h
          refine q_bipush (v := (10 : Int32)) C dX8_game_122 (by decide) ?_
          refine q_goto (tgt := 128) C dX8_game_124 (by decide) ?_
          exact q_sub (lv' := [(0, .ref l0), (1, .int l1), (2, .int l2), (3, .int l3), (4, .int l4), (5, .int (l5 + (1 : Int32))), (7, .int l7), (9, .int t0)]) [2, 3, 4, 5, 6, 0, 8, 1] rfl (w_X8_game_j128_46 C hRO hl l0 l1 l2 l3 l4 (l5 + (1 : Int32)) l7 t0 (10 : Int32) M27 h kc kx)
set_option maxRecDepth 100000 in
set_option maxHeartbeats 4000000 in
theorem w_X8_game_j63_46 {X : CX} {y : (Int32 × Int32 × Int32 × Mem) ⊕ (Int32 × Int32 × Mem)} (C : CK X cX8_game 10 RX8 14 309) (hRO : RO X.2.2.1 X.1.2.2.2.2.1 X.1.2.2.2.2.1.heap) (hl : X.1.2.1.stackTraces = false) (l0 : Nat) (l1 : Int32) (l2 : Int32) (l3 : Int32) (l4 : Int32) (l5 : Int32) (l6 : Int32) (l7 : Int32) (t0 : Int32) (M : Mem) (h : F_X8_game_j63_46 l0 l1 l2 l3 l5 l6 l7 t0 M = some y) (kc : ∀ s' : Int32 × Int32 × Int32 × Mem, y = .inl s' → wq X 10 46 [(0, .ref l0), (1, .int l1), (2, .int l2), (3, .int l3), (4, .int l4), (5, .int (s'.1)), (6, .int (s'.2.1)), (7, .int (s'.2.2.1))] [] s'.2.2.2) (kx : ∀ e' : Int32 × Int32 × Mem, y = (.inr e') → wq X 10 152 [(4, .int l4), (5, .int (e'.1)), (6, .int (e'.2.1))] [] e'.2.2) : wq X 10 63 [(0, .ref l0), (1, .int l1), (2, .int l2), (3, .int l3), (4, .int l4), (5, .int l5), (6, .int l6), (7, .int l7)] [.int t0] M := by
  unfold F_X8_game_j63_46 at h
  refine q_istore (i := 8) (lv' := [(8, .int t0), (0, .ref l0), (1, .int l1), (2, .int l2), (3, .int l3), (4, .int l4), (5, .int l5), (6, .int l6), (7, .int l7)]) C dX8_game_63 (by decide) rfl ?_
  refine q_iload 8 C dX8_game_65 rfl ?_
  refine q_iconst (v := (2 : Int32)) C dX8_game_67 (by decide) ?_
  refine q_irem C (by decide) dX8_game_68 ?_
  refine q_iconst (v := (1 : Int32)) C dX8_game_69 (by decide) ?_
  refine q_icmp_ne (tgt := 77) C dX8_game_70 (by decide) (fun c19 => ?_) (fun c19 => ?_)
  · have h := ifF c19 h
    refine q_iconst (v := (0 : Int32)) C dX8_game_77 (by decide) ?_
    exact q_sub (lv' := [(0, .ref l0), (1, .int l1), (2, .int l2), (3, .int l3), (4, .int l4), (5, .int l5), (6, .int l6), (7, .int l7), (8, .int t0)]) [1, 2, 3, 4, 5, 6, 7, 8, 0] rfl (w_X8_game_j78_46 C hRO hl l0 l1 l2 l3 l4 l5 l6 l7 t0 (0 : Int32) M h kc kx)
  · have h := ifT c19 h
    refine q_iconst (v := (1 : Int32)) C dX8_game_73 (by decide) ?_
    refine q_goto (tgt := 78) C dX8_game_74 (by decide) ?_
    exact q_sub (lv' := [(0, .ref l0), (1, .int l1), (2, .int l2), (3, .int l3), (4, .int l4), (5, .int l5), (6, .int l6), (7, .int l7), (8, .int t0)]) [1, 2, 3, 4, 5, 6, 7, 8, 0] rfl (w_X8_game_j78_46 C hRO hl l0 l1 l2 l3 l4 l5 l6 l7 t0 (1 : Int32) M h kc kx)
set_option maxRecDepth 100000 in
set_option maxHeartbeats 4000000 in
theorem w_X8_game_s46 {X : CX} {y : (Int32 × Int32 × Int32 × Mem) ⊕ (Int32 × Int32 × Mem)} (C : CK X cX8_game 10 RX8 14 309) (hRO : RO X.2.2.1 X.1.2.2.2.2.1 X.1.2.2.2.2.1.heap) (hl : X.1.2.1.stackTraces = false) (l0 : Nat) (l1 : Int32) (l2 : Int32) (l3 : Int32) (l4 : Int32) (l5 : Int32) (l6 : Int32) (l7 : Int32) (M : Mem) (h : F_X8_game_s46 l0 l1 l2 l3 l5 l6 l7 M = some y) (kc : ∀ s' : Int32 × Int32 × Int32 × Mem, y = .inl s' → wq X 10 46 [(0, .ref l0), (1, .int l1), (2, .int l2), (3, .int l3), (4, .int l4), (5, .int (s'.1)), (6, .int (s'.2.1)), (7, .int (s'.2.2.1))] [] s'.2.2.2) (kx : ∀ e' : Int32 × Int32 × Mem, y = (.inr e') → wq X 10 152 [(4, .int l4), (5, .int (e'.1)), (6, .int (e'.2.1))] [] e'.2.2) : wq X 10 46 [(0, .ref l0), (1, .int l1), (2, .int l2), (3, .int l3), (4, .int l4), (5, .int l5), (6, .int l6), (7, .int l7)] [] M := by
  unfold F_X8_game_s46 at h
  refine q_iload 7 C dX8_game_46 rfl ?_
  refine q_iconst (v := (4 : Int32)) C dX8_game_48 (by decide) ?_
  refine q_icmp_ge (tgt := 152) C dX8_game_49 (by decide) (fun c17 => ?_) (fun c17 => ?_)
  · have h := ifT c17 h
    exact q_sub (lv' := [(4, .int l4), (5, .int l5), (6, .int l6)]) [4, 5, 6] rfl (kx (l5, l6, M) (someI h))
  · have h := ifF c17 h
    refine q_iload 7 C dX8_game_52 rfl ?_
    refine q_iconst (v := (2 : Int32)) C dX8_game_54 (by decide) ?_
    refine q_icmp_lt (tgt := 62) C dX8_game_55 (by decide) (fun c18 => ?_) (fun c18 => ?_)
    · have h := ifT c18 h
      refine q_iconst (v := (0 : Int32)) C dX8_game_62 (by decide) ?_
      exact q_sub (lv' := [(0, .ref l0), (1, .int l1), (2, .int l2), (3, .int l3), (4, .int l4), (5, .int l5), (6, .int l6), (7, .int l7)]) [0, 1, 2, 3, 4, 5, 6, 7] rfl (w_X8_game_j63_46 C hRO hl l0 l1 l2 l3 l4 l5 l6 l7 (0 : Int32) M h kc kx)
    · have h := ifF c18 h
      refine q_iconst (v := (1 : Int32)) C dX8_game_58 (by decide) ?_
      refine q_goto (tgt := 63) C dX8_game_59 (by decide) ?_
      exact q_sub (lv' := [(0, .ref l0), (1, .int l1), (2, .int l2), (3, .int l3), (4, .int l4), (5, .int l5), (6, .int l6), (7, .int l7)]) [0, 1, 2, 3, 4, 5, 6, 7] rfl (w_X8_game_j63_46 C hRO hl l0 l1 l2 l3 l4 l5 l6 l7 (1 : Int32) M h kc kx)
theorem w_X8_game_l46 {X : CX} {r : Int32 × Int32 × Mem} (C : CK X cX8_game 10 RX8 14 309) (hRO : RO X.2.2.1 X.1.2.2.2.2.1 X.1.2.2.2.2.1.heap) (hl : X.1.2.1.stackTraces = false) (l0 : Nat) (l1 : Int32) (l2 : Int32) (l3 : Int32) (l4 : Int32) (l5 : Int32) (l6 : Int32) (l7 : Int32) (M : Mem) (h : loop (fun s => F_X8_game_s46 l0 l1 l2 l3 s.1 s.2.1 s.2.2.1 s.2.2.2) (l5, l6, l7, M) = some r) (kx : ∀ e' : Int32 × Int32 × Mem, r = e' → wq X 10 152 [(4, .int l4), (5, .int (e'.1)), (6, .int (e'.2.1))] [] e'.2.2) : wq X 10 46 [(0, .ref l0), (1, .int l1), (2, .int l2), (3, .int l3), (4, .int l4), (5, .int l5), (6, .int l6), (7, .int l7)] [] M :=
  loop_ind (P := fun s => wq X 10 46 [(0, .ref l0), (1, .int l1), (2, .int l2), (3, .int l3), (4, .int l4), (5, .int s.1), (6, .int s.2.1), (7, .int s.2.2.1)] [] s.2.2.2) h (fun s y hy kc kr => w_X8_game_s46 C hRO hl l0 l1 l2 l3 l4 s.1 s.2.1 s.2.2.1 s.2.2.2 hy kc (fun e' he => kx e' (kr _ he).symm))
set_option maxRecDepth 100000 in
set_option maxHeartbeats 4000000 in
theorem w_X8_game {X : CX} {y : (Int32 × Mem) ⊕ (Nat × Mem)} (C : CK X cX8_game 10 RX8 14 309) (hRO : RO X.2.2.1 X.1.2.2.2.2.1 X.1.2.2.2.2.1.heap) (hl : X.1.2.1.stackTraces = false) (l0 : Nat) (l1 : Int32) (l2 : Int32) (l3 : Int32) (l4 : Int32) (M : Mem) (h : F_X8_game l0 l1 l2 l3 l4 M = some y) (kf : FIN X (some .int) (rs_tI y) (ms_tI y)) : wq X 10 0 [(0, .ref l0), (1, .int l1), (2, .int l2), (3, .int l3), (4, .int l4)] [] M := by
  unfold F_X8_game at h
  refine q_aload_n 0 C dX8_game_0 rfl ?_
  refine q_iload_n 1 C dX8_game_1 rfl ?_
  obtain ⟨e1, h⟩ := ckOE h
  rcases bdVE h with ⟨M3, e2, h⟩ | ⟨x48, M49, e2, h⟩
  · refine q_callV (v := none) [.int l1] C hRO lk_RX8_223 vk_X8_needPerson e1 rfl rfl rfl (Nat.le_of_ble_eq_true rfl) (by decide) (by decide) dX8_game_2 (k_X8_needPerson X.1.2.1 hl X.2.2.1 l0 l1 M _ e2) ?_
    refine q_aload_n 0 C dX8_game_5 rfl ?_
    refine q_iload_n 2 C dX8_game_6 rfl ?_
    obtain ⟨e5, h⟩ := ckOE h
    rcases bdVE h with ⟨M7, e6, h⟩ | ⟨x46, M47, e6, h⟩
    · refine q_callV (v := none) [.int l2] C hRO lk_RX8_223 vk_X8_needPerson e5 rfl rfl rfl (Nat.le_of_ble_eq_true rfl) (by decide) (by decide) dX8_game_7 (k_X8_needPerson X.1.2.1 hl X.2.2.1 l0 l2 M3 _ e6) ?_
      refine q_aload_n 0 C dX8_game_10 rfl ?_
      refine q_iload_n 3 C dX8_game_11 rfl ?_
      obtain ⟨e9, h⟩ := ckOE h
      rcases bdVE h with ⟨M11, e10, h⟩ | ⟨x44, M45, e10, h⟩
      · refine q_callV (v := none) [.int l3] C hRO lk_RX8_186 vk_X8_needHouse e9 rfl rfl rfl (Nat.le_of_ble_eq_true rfl) (by decide) (by decide) dX8_game_12 (k_X8_needHouse X.1.2.1 hl X.2.2.1 l0 l3 M7 _ e10) ?_
        refine q_iload 4 C dX8_game_15 rfl ?_
        refine q_iconst (v := (1 : Int32)) C dX8_game_17 (by decide) ?_
        rcases bdVE h with ⟨M14, e13, h⟩ | ⟨x42, M43, e13, h⟩
        · refine q_callS (v := none) [.int l4, .int (1 : Int32)] C hRO lk_RX8_277 sk_X8_needWhat rfl rfl (Nat.le_of_ble_eq_true rfl) (by decide) (by decide) dX8_game_18 (k_X8_needWhat X.1.2.1 hl X.2.2.1 l4 (1 : Int32) M11 _ e13) ?_
          refine q_iload_n 1 C dX8_game_21 rfl ?_
          refine q_iload_n 2 C dX8_game_22 rfl ?_
          refine q_icmp_ne (tgt := 37) C dX8_game_23 (by decide) (fun c16 => ?_) (fun c16 => ?_)
          · have h := ifF c16 h
            refine q_iconst (v := (0 : Int32)) C dX8_game_37 (by decide) ?_
            refine q_istore (i := 5) (lv' := [(5, .int (0 : Int32)), (0, .ref l0), (1, .int l1), (2, .int l2), (3, .int l3), (4, .int l4)]) C dX8_game_38 (by decide) rfl ?_
            refine q_iconst (v := (-1 : Int32)) C dX8_game_40 (by decide) ?_
            refine q_istore (i := 6) (lv' := [(6, .int (-1 : Int32)), (5, .int (0 : Int32)), (0, .ref l0), (1, .int l1), (2, .int l2), (3, .int l3), (4, .int l4)]) C dX8_game_41 (by decide) rfl ?_
            refine q_iconst (v := (0 : Int32)) C dX8_game_43 (by decide) ?_
            refine q_istore (i := 7) (lv' := [(7, .int (0 : Int32)), (6, .int (-1 : Int32)), (5, .int (0 : Int32)), (0, .ref l0), (1, .int l1), (2, .int l2), (3, .int l3), (4, .int l4)]) C dX8_game_44 (by decide) rfl ?_
            obtain ⟨⟨x35, x36, M37⟩, e34, h⟩ := bindE h
            refine q_sub (lv' := [(0, .ref l0), (1, .int l1), (2, .int l2), (3, .int l3), (4, .int l4), (5, .int (0 : Int32)), (6, .int (-1 : Int32)), (7, .int (0 : Int32))]) [3, 4, 5, 6, 7, 2, 1, 0] rfl (w_X8_game_l46 C hRO hl l0 l1 l2 l3 l4 (0 : Int32) (-1 : Int32) (0 : Int32) M14 e34 (fun r33 he => ?_))
            subst he
            have h := u3E h
            show wq X 10 152 [(4, .int l4), (5, .int x35), (6, .int x36)] [] M37
            refine q_iload 0 C dX8_game_152 rfl ?_
            refine q_if_ne (tgt := 162) C dX8_game_154 (by decide) (fun c38 => ?_) (fun c38 => ?_)
            · have h := ifF c38 h
              refine q_iload 2 C dX8_game_162 rfl ?_
              cases h
              exact q_iret C kf dX8_game_164
            · have h := ifT c38 h
              refine q_iload 1 C dX8_game_157 rfl ?_
              refine q_goto (tgt := 164) C dX8_game_159 (by decide) ?_
              cases h
              exact q_iret C kf dX8_game_164
          · have h := ifT c16 h
            obtain ⟨M40, e41, h⟩ := bindE h
            cases h
            exact q_throwW (e0 := 0) (i := 25) C kf hl (by decide) cl_RX8_97 in_ex0 rfl at_RX8_101 gd_RX8_101 e41 dX8_game_26 dX8_game_29 dX8_game_30 dX8_game_33 dX8_game_36 (by decide) (Nat.le_of_ble_eq_true rfl)
        · skip
          cases h
          exact q_callSX [.int l4, .int (1 : Int32)] C kf lk_RX8_277 sk_X8_needWhat rfl rfl (Nat.le_of_ble_eq_true rfl) (by decide) (by decide) dX8_game_18 (k_X8_needWhat X.1.2.1 hl X.2.2.1 l4 (1 : Int32) M11 _ e13)
      · skip
        cases h
        exact q_callVX [.int l3] C kf lk_RX8_186 vk_X8_needHouse e9 rfl rfl rfl (Nat.le_of_ble_eq_true rfl) (by decide) (by decide) dX8_game_12 (k_X8_needHouse X.1.2.1 hl X.2.2.1 l0 l3 M7 _ e10)
    · skip
      cases h
      exact q_callVX [.int l2] C kf lk_RX8_223 vk_X8_needPerson e5 rfl rfl rfl (Nat.le_of_ble_eq_true rfl) (by decide) (by decide) dX8_game_7 (k_X8_needPerson X.1.2.1 hl X.2.2.1 l0 l2 M3 _ e6)
  · skip
    cases h
    exact q_callVX [.int l1] C kf lk_RX8_223 vk_X8_needPerson e1 rfl rfl rfl (Nat.le_of_ble_eq_true rfl) (by decide) (by decide) dX8_game_2 (k_X8_needPerson X.1.2.1 hl X.2.2.1 l0 l1 M _ e2)
theorem k_X8_game (l : Launch) (hl : l.stackTraces = false) (G : GG) (l0 : Nat) (l1 : Int32) (l2 : Int32) (l3 : Int32) (l4 : Int32) (M : Mem) (x : (Int32 × Mem) ⊕ (Nat × Mem)) (h : F_X8_game l0 l1 l2 l3 l4 M = some x) : Ct l G yX8_game (.code yX8_game cX8_game 10 (some .int)) 14 309 [.ref l0, .int l1, .int l2, .int l3, .int l4] M (rs_tI x) (ms_tI x) := by
  refine Ct_of (by decide +kernel) (Nat.le_of_ble_eq_true rfl) fun X e1 e2 e3 C FN hnm => ?_
  subst e1; subst e2
  show wq X 10 0 [(0, .ref l0), (1, .int l1), (2, .int l2), (3, .int l3), (4, .int l4)] [] M
  exact w_X8_game C FN.2.2.2 hl l0 l1 l2 l3 l4 M h FN
