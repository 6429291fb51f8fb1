/-! X9_init -/
set_option maxRecDepth 100000 in
set_option maxHeartbeats 4000000 in
theorem w_X9_init {X : CX} {y : Mem} (C : CK X cX9_init 1 RX9 7 140) (hRO : RO X.2.2.1 X.1.2.2.2.2.1 X.1.2.2.2.2.1.heap) (hl : X.1.2.1.stackTraces = false) (hnm : X.2.1.2.2.1.name = "<init>") (l0 : Nat) (M : Mem) (h : F_X9_init l0 M = some y) (kf : FIN X none (rs_mV y) (ms_mV y)) : wq X 1 0 [(0, .ref l0)] [] M := by
  unfold F_X9_init at h
  refine q_aload_n 0 C dX9_init_0 rfl ?_
  refine q_objInit C ml_RX9_1 oi_1 oi_2 (by decide) (Nat.le_of_ble_eq_true rfl) dX9_init_1 ?_
  refine q_aload_n 0 C dX9_init_4 rfl ?_
  refine q_iconst (v := (-1 : Int32)) C dX9_init_5 (by decide) ?_
  obtain ⟨M1, e2, h⟩ := bindE h
  refine q_putI C fp_RX9_9 rfl e2 dX9_init_6 ?_
  refine q_aload_n 0 C dX9_init_9 rfl ?_
  refine q_iconst (v := (-1 : Int32)) C dX9_init_10 (by decide) ?_
  obtain ⟨M3, e4, h⟩ := bindE h
  refine q_putI C fp_RX9_13 rfl e4 dX9_init_11 ?_
  refine q_aload_n 0 C dX9_init_14 rfl ?_
  refine q_bipush (v := (8 : Int32)) C dX9_init_15 (by decide) ?_
  obtain ⟨M5, e6, h⟩ := bindE h
  refine q_newI C ar_int e6 dX9_init_17 ?_
  obtain ⟨M7, e8, h⟩ := bindE h
  refine q_putF hnm rfl rfl C fp_RX9_16 rfl e8 dX9_init_19 ?_
  refine q_aload_n 0 C dX9_init_22 rfl ?_
  refine q_bipush (v := (8 : Int32)) C dX9_init_23 (by decide) ?_
  obtain ⟨M9, e10, h⟩ := bindE h
  refine q_newI C ar_int e10 dX9_init_25 ?_
  obtain ⟨M11, e12, h⟩ := bindE h
  refine q_putF hnm rfl rfl C fp_RX9_20 rfl e12 dX9_init_27 ?_
  refine q_aload_n 0 C dX9_init_30 rfl ?_
  refine q_bipush (v := (8 : Int32)) C dX9_init_31 (by decide) ?_
  obtain ⟨M13, e14, h⟩ := bindE h
  refine q_newI C ar_int e14 dX9_init_33 ?_
  obtain ⟨M15, e16, h⟩ := bindE h
  refine q_putF hnm rfl rfl C fp_RX9_23 rfl e16 dX9_init_35 ?_
  refine q_aload_n 0 C dX9_init_38 rfl ?_
  refine q_bipush (v := (8 : Int32)) C dX9_init_39 (by decide) ?_
  obtain ⟨M17, e18, h⟩ := bindE h
  refine q_newI C ar_int e18 dX9_init_41 ?_
  obtain ⟨M19, e20, h⟩ := bindE h
  refine q_putF hnm rfl rfl C fp_RX9_26 rfl e20 dX9_init_43 ?_
  refine q_aload_n 0 C dX9_init_46 rfl ?_
  refine q_sipush (v := (1400 : Int32)) C dX9_init_47 (by decide) ?_
  obtain ⟨M21, e22, h⟩ := bindE h
  refine q_newI C ar_int e22 dX9_init_50 ?_
  obtain ⟨M23, e24, h⟩ := bindE h
  refine q_putF hnm rfl rfl C fp_RX9_29 rfl e24 dX9_init_52 ?_
  refine q_aload_n 0 C dX9_init_55 rfl ?_
  refine q_sipush (v := (700 : Int32)) C dX9_init_56 (by decide) ?_
  obtain ⟨M25, e26, h⟩ := bindE h
  refine q_newI C ar_int e26 dX9_init_59 ?_
  obtain ⟨M27, e28, h⟩ := bindE h
  refine q_putF hnm rfl rfl C fp_RX9_32 rfl e28 dX9_init_61 ?_
  refine q_aload_n 0 C dX9_init_64 rfl ?_
  refine q_iconst (v := (-1 : Int32)) C dX9_init_65 (by decide) ?_
  obtain ⟨M29, e30, h⟩ := bindE h
  refine q_putI C fp_RX9_35 rfl e30 dX9_init_66 ?_
  refine q_aload_n 0 C dX9_init_69 rfl ?_
  refine q_iconst (v := (3 : Int32)) C dX9_init_70 (by decide) ?_
  obtain ⟨M31, e32, h⟩ := bindE h
  refine q_newI C ar_int e32 dX9_init_71 ?_
  obtain ⟨M33, e34, h⟩ := bindE h
  refine q_putF hnm rfl rfl C fp_RX9_38 rfl e34 dX9_init_73 ?_
  refine q_aload_n 0 C dX9_init_76 rfl ?_
  refine q_bipush (v := (8 : Int32)) C dX9_init_77 (by decide) ?_
  obtain ⟨M35, e36, h⟩ := bindE h
  refine q_newI C ar_int e36 dX9_init_79 ?_
  obtain ⟨M37, e38, h⟩ := bindE h
  refine q_putF hnm rfl rfl C fp_RX9_41 rfl e38 dX9_init_81 ?_
  refine q_aload_n 0 C dX9_init_84 rfl ?_
  refine q_bipush (v := (8 : Int32)) C dX9_init_85 (by decide) ?_
  obtain ⟨M39, e40, h⟩ := bindE h
  refine q_newI C ar_int e40 dX9_init_87 ?_
  obtain ⟨M41, e42, h⟩ := bindE h
  refine q_putF hnm rfl rfl C fp_RX9_44 rfl e42 dX9_init_89 ?_
  refine q_aload_n 0 C dX9_init_92 rfl ?_
  refine q_bipush (v := (8 : Int32)) C dX9_init_93 (by decide) ?_
  obtain ⟨M43, e44, h⟩ := bindE h
  refine q_newI C ar_int e44 dX9_init_95 ?_
  obtain ⟨M45, e46, h⟩ := bindE h
  refine q_putF hnm rfl rfl C fp_RX9_47 rfl e46 dX9_init_97 ?_
  refine q_aload_n 0 C dX9_init_100 rfl ?_
  refine q_bipush (v := (8 : Int32)) C dX9_init_101 (by decide) ?_
  obtain ⟨M47, e48, h⟩ := bindE h
  refine q_newI C ar_int e48 dX9_init_103 ?_
  obtain ⟨M49, e50, h⟩ := bindE h
  refine q_putF hnm rfl rfl C fp_RX9_50 rfl e50 dX9_init_105 ?_
  refine q_aload_n 0 C dX9_init_108 rfl ?_
  refine q_bipush (v := (43 : Int32)) C dX9_init_109 (by decide) ?_
  obtain ⟨M51, e52, h⟩ := bindE h
  refine q_newI C ar_int e52 dX9_init_111 ?_
  obtain ⟨M53, e54, h⟩ := bindE h
  refine q_putF hnm rfl rfl C fp_RX9_53 rfl e54 dX9_init_113 ?_
  refine q_aload_n 0 C dX9_init_116 rfl ?_
  refine q_sipush (v := (1400 : Int32)) C dX9_init_117 (by decide) ?_
  obtain ⟨M55, e56, h⟩ := bindE h
  refine q_newI C ar_int e56 dX9_init_120 ?_
  obtain ⟨M57, e58, h⟩ := bindE h
  refine q_putF hnm rfl rfl C fp_RX9_56 rfl e58 dX9_init_122 ?_
  refine q_aload_n 0 C dX9_init_125 rfl ?_
  refine q_sipush (v := (950 : Int32)) C dX9_init_126 (by decide) ?_
  obtain ⟨M59, e60, h⟩ := bindE h
  refine q_newI C ar_int e60 dX9_init_129 ?_
  obtain ⟨M61, e62, h⟩ := bindE h
  refine q_putF hnm rfl rfl C fp_RX9_59 rfl e62 dX9_init_131 ?_
  refine q_aload_n 0 C dX9_init_134 rfl ?_
  refine q_bipush (v := (9 : Int32)) C dX9_init_135 (by decide) ?_
  obtain ⟨M63, e64, h⟩ := bindE h
  refine q_newZ C ar_boolean e64 dX9_init_137 ?_
  obtain ⟨M65, e66, h⟩ := bindE h
  refine q_putF hnm rfl rfl C fp_RX9_62 rfl e66 dX9_init_139 ?_
  refine q_aload_n 0 C dX9_init_142 rfl ?_
  refine q_bipush (v := (86 : Int32)) C dX9_init_143 (by decide) ?_
  obtain ⟨M67, e68, h⟩ := bindE h
  refine q_newI C ar_int e68 dX9_init_145 ?_
  obtain ⟨M69, e70, h⟩ := bindE h
  refine q_putF hnm rfl rfl C fp_RX9_66 rfl e70 dX9_init_147 ?_
  refine q_aload_n 0 C dX9_init_150 rfl ?_
  refine q_sipush (v := (1720 : Int32)) C dX9_init_151 (by decide) ?_
  obtain ⟨M71, e72, h⟩ := bindE h
  refine q_newI C ar_int e72 dX9_init_154 ?_
  obtain ⟨M73, e74, h⟩ := bindE h
  refine q_putF hnm rfl rfl C fp_RX9_69 rfl e74 dX9_init_156 ?_
  refine q_aload_n 0 C dX9_init_159 rfl ?_
  refine q_bipush (v := (7 : Int32)) C dX9_init_160 (by decide) ?_
  obtain ⟨M75, e76, h⟩ := bindE h
  refine q_newI C ar_int e76 dX9_init_162 ?_
  obtain ⟨M77, e78, h⟩ := bindE h
  refine q_putF hnm rfl rfl C fp_RX9_72 rfl e78 dX9_init_164 ?_
  refine q_aload_n 0 C dX9_init_167 rfl ?_
  refine q_sipush (v := (950 : Int32)) C dX9_init_168 (by decide) ?_
  obtain ⟨M79, e80, h⟩ := bindE h
  refine q_newI C ar_int e80 dX9_init_171 ?_
  obtain ⟨M81, e82, h⟩ := bindE h
  refine q_putF hnm rfl rfl C fp_RX9_75 rfl e82 dX9_init_173 ?_
  refine q_aload_n 0 C dX9_init_176 rfl ?_
  refine q_iconst (v := (-1 : Int32)) C dX9_init_177 (by decide) ?_
  obtain ⟨M83, e84, h⟩ := bindE h
  refine q_putI C fp_RX9_78 rfl e84 dX9_init_178 ?_
  refine q_aload_n 0 C dX9_init_181 rfl ?_
  refine q_sipush (v := (2304 : Int32)) C dX9_init_182 (by decide) ?_
  obtain ⟨M85, e86, h⟩ := bindE h
  refine q_newI C ar_int e86 dX9_init_185 ?_
  obtain ⟨M87, e88, h⟩ := bindE h
  refine q_putF hnm rfl rfl C fp_RX9_81 rfl e88 dX9_init_187 ?_
  refine q_aload_n 0 C dX9_init_190 rfl ?_
  refine q_bipush (v := (8 : Int32)) C dX9_init_191 (by decide) ?_
  obtain ⟨M89, e90, h⟩ := bindE h
  refine q_newI C ar_int e90 dX9_init_193 ?_
  obtain ⟨M91, e92, h⟩ := bindE h
  refine q_putF hnm rfl rfl C fp_RX9_84 rfl e92 dX9_init_195 ?_
  refine q_aload_n 0 C dX9_init_198 rfl ?_
  refine q_bipush (v := (8 : Int32)) C dX9_init_199 (by decide) ?_
  obtain ⟨M93, e94, h⟩ := bindE h
  refine q_newI C ar_int e94 dX9_init_201 ?_
  obtain ⟨M95, e96, h⟩ := bindE h
  refine q_putF hnm rfl rfl C fp_RX9_87 rfl e96 dX9_init_203 ?_
  refine q_aload_n 0 C dX9_init_206 rfl ?_
  refine q_bipush (v := (8 : Int32)) C dX9_init_207 (by decide) ?_
  obtain ⟨M97, e98, h⟩ := bindE h
  refine q_newI C ar_int e98 dX9_init_209 ?_
  obtain ⟨M99, e100, h⟩ := bindE h
  refine q_putF hnm rfl rfl C fp_RX9_90 rfl e100 dX9_init_211 ?_
  refine q_aload_n 0 C dX9_init_214 rfl ?_
  refine q_bipush (v := (24 : Int32)) C dX9_init_215 (by decide) ?_
  obtain ⟨M101, e102, h⟩ := bindE h
  refine q_newI C ar_int e102 dX9_init_217 ?_
  obtain ⟨M103, e104, h⟩ := bindE h
  refine q_putF hnm rfl rfl C fp_RX9_93 rfl e104 dX9_init_219 ?_
  refine q_aload_n 0 C dX9_init_222 rfl ?_
  refine q_bipush (v := (8 : Int32)) C dX9_init_223 (by decide) ?_
  obtain ⟨M105, e106, h⟩ := bindE h
  refine q_newI C ar_int e106 dX9_init_225 ?_
  obtain ⟨M107, e108, h⟩ := bindE h
  refine q_putF hnm rfl rfl C fp_RX9_96 rfl e108 dX9_init_227 ?_
  refine q_aload_n 0 C dX9_init_230 rfl ?_
  refine q_sipush (v := (3840 : Int32)) C dX9_init_231 (by decide) ?_
  obtain ⟨M109, e110, h⟩ := bindE h
  refine q_newI C ar_int e110 dX9_init_234 ?_
  obtain ⟨M111, e112, h⟩ := bindE h
  refine q_putF hnm rfl rfl C fp_RX9_99 rfl e112 dX9_init_236 ?_
  refine q_aload_n 0 C dX9_init_239 rfl ?_
  refine q_bipush (v := (43 : Int32)) C dX9_init_240 (by decide) ?_
  obtain ⟨M113, e114, h⟩ := bindE h
  refine q_newI C ar_int e114 dX9_init_242 ?_
  obtain ⟨M115, e116, h⟩ := bindE h
  refine q_putF hnm rfl rfl C fp_RX9_102 rfl e116 dX9_init_244 ?_
  refine q_aload_n 0 C dX9_init_247 rfl ?_
  refine q_sipush (v := (1720 : Int32)) C dX9_init_248 (by decide) ?_
  obtain ⟨M117, e118, h⟩ := bindE h
  refine q_newI C ar_int e118 dX9_init_251 ?_
  obtain ⟨M119, e120, h⟩ := bindE h
  refine q_putF hnm rfl rfl C fp_RX9_105 rfl e120 dX9_init_253 ?_
  refine q_aload_n 0 C dX9_init_256 rfl ?_
  refine q_bipush (v := (24 : Int32)) C dX9_init_257 (by decide) ?_
  obtain ⟨M121, e122, h⟩ := bindE h
  refine q_newI C ar_int e122 dX9_init_259 ?_
  obtain ⟨M123, e124, h⟩ := bindE h
  refine q_putF hnm rfl rfl C fp_RX9_108 rfl e124 dX9_init_261 ?_
  cases h
  exact q_vret C kf dX9_init_264
theorem k_X9_init (l : Launch) (hl : l.stackTraces = false) (G : GG) (l0 : Nat) (M : Mem) (x : Mem) (h : F_X9_init l0 M = some x) : Ct l G yX9_init (.code yX9_init cX9_init 1 none) 7 140 [.ref l0] M (rs_mV x) (ms_mV x) := by
  refine Ct_of (by decide +kernel) (Nat.le_of_ble_eq_true rfl) fun X e1 e2 e3 C FN hnm => ?_
  subst e1; subst e2
  show wq X 1 0 [(0, .ref l0)] [] M
  exact w_X9_init C FN.2.2.2 hl hnm l0 M h FN
/-! X9_toldDamp -/
set_option maxRecDepth 100000 in
set_option maxHeartbeats 4000000 in
theorem w_X9_toldDamp {X : CX} {y : Int32} (C : CK X cX9_toldDamp 2 RX9 7 140) (hRO : RO X.2.2.1 X.1.2.2.2.2.1 X.1.2.2.2.2.1.heap) (hl : X.1.2.1.stackTraces = false) (l0 : Nat) (l1 : Int32) (M : Mem) (h : F_X9_toldDamp l0 l1 M = some y) (kf : FIN X (some .int) (rs_pI y) M) : wq X 2 0 [(0, .ref l0), (1, .int l1)] [] M := by
  unfold F_X9_toldDamp at h
  refine q_aload_n 0 C dX9_toldDamp_0 rfl ?_
  obtain ⟨v1, e2, h⟩ := bindE h
  refine q_getI C fl_RX9_281 rfl e2 dX9_toldDamp_1 ?_
  refine q_if_ne (tgt := 11) C dX9_toldDamp_4 (by decide) (fun c3 => ?_) (fun c3 => ?_)
  · have h := ifF c3 h
    refine q_aload_n 0 C dX9_toldDamp_11 rfl ?_
    obtain ⟨v4, e5, h⟩ := bindE h
    refine q_getP C fl_RX9_26 rfl e5 dX9_toldDamp_12 ?_
    refine q_iload_n 1 C dX9_toldDamp_15 rfl ?_
    refine q_aload_n 0 C dX9_toldDamp_16 rfl ?_
    obtain ⟨v6, e7, h⟩ := bindE h
    refine q_getI C fl_RX9_281 rfl e7 dX9_toldDamp_17 ?_
    have c10 : ¬ v6 = 0 := fun c => nomatch ifT c h
    have h := ifF c10 h
    refine q_irem C c10 dX9_toldDamp_20 ?_
    obtain ⟨v8, e9, h⟩ := bindE h
    refine q_iaload C e9 dX9_toldDamp_21 ?_
    cases h
    exact q_iret C kf dX9_toldDamp_22
  · have h := ifT c3 h
    refine q_iconst (v := (3 : Int32)) C dX9_toldDamp_7 (by decide) ?_
    refine q_goto (tgt := 22) C dX9_toldDamp_8 (by decide) ?_
    cases h
    exact q_iret C kf dX9_toldDamp_22
theorem k_X9_toldDamp (l : Launch) (hl : l.stackTraces = false) (G : GG) (l0 : Nat) (l1 : Int32) (M : Mem) (x : Int32) (h : F_X9_toldDamp l0 l1 M = some x) : Ct l G yX9_toldDamp (.code yX9_toldDamp cX9_toldDamp 2 (some .int)) 7 140 [.ref l0, .int l1] M (rs_pI x) M := by
  refine Ct_of (by decide +kernel) (Nat.le_of_ble_eq_true rfl) fun X e1 e2 e3 C FN hnm => ?_
  subst e1; subst e2
  show wq X 2 0 [(0, .ref l0), (1, .int l1)] [] M
  exact w_X9_toldDamp C FN.2.2.2 hl l0 l1 M h FN
/-! X9_dampIn -/
set_option maxRecDepth 100000 in
set_option maxHeartbeats 4000000 in
theorem w_X9_dampIn {X : CX} {y : Int32} (C : CK X cX9_dampIn 2 RX9 8 161) (hRO : RO X.2.2.1 X.1.2.2.2.2.1 X.1.2.2.2.2.1.heap) (hl : X.1.2.1.stackTraces = false) (l0 : Nat) (l1 : Int32) (M : Mem) (h : F_X9_dampIn l0 l1 M = some y) (kf : FIN X (some .int) (rs_pI y) M) : wq X 2 0 [(0, .ref l0), (1, .int l1)] [] M := by
  unfold F_X9_dampIn at h
  refine q_aload_n 0 C dX9_dampIn_0 rfl ?_
  obtain ⟨v1, e2, h⟩ := bindE h
  refine q_getI C fl_RX9_78 rfl e2 dX9_dampIn_1 ?_
  refine q_iconst (v := (-1 : Int32)) C dX9_dampIn_4 (by decide) ?_
  refine q_icmp_eq (tgt := 15) C dX9_dampIn_5 (by decide) (fun c3 => ?_) (fun c3 => ?_)
  · have h := ifT c3 h
    refine q_aload_n 0 C dX9_dampIn_15 rfl ?_
    obtain ⟨v4, e5, h⟩ := bindE h
    refine q_getP C fl_RX9_66 rfl e5 dX9_dampIn_16 ?_
    refine q_iload_n 1 C dX9_dampIn_19 rfl ?_
    refine q_iconst (v := (2 : Int32)) C dX9_dampIn_20 (by decide) ?_
    refine q_iadd C dX9_dampIn_21 ?_
    obtain ⟨v6, e7, h⟩ := bindE h
    refine q_iaload C e7 dX9_dampIn_22 ?_
    refine q_iconst (v := (1 : Int32)) C dX9_dampIn_23 (by decide) ?_
    refine q_icmp_ne (tgt := 32) C dX9_dampIn_24 (by decide) (fun c8 => ?_) (fun c8 => ?_)
    · have h := ifF c8 h
      refine q_aload_n 0 C dX9_dampIn_32 rfl ?_
      refine q_aload_n 0 C dX9_dampIn_33 rfl ?_
      obtain ⟨v9, e10, h⟩ := bindE h
      refine q_getP C fl_RX9_66 rfl e10 dX9_dampIn_34 ?_
      refine q_iload_n 1 C dX9_dampIn_37 rfl ?_
      refine q_iconst (v := (0 : Int32)) C dX9_dampIn_38 (by decide) ?_
      refine q_iadd C dX9_dampIn_39 ?_
      obtain ⟨v11, e12, h⟩ := bindE h
      refine q_iaload C e12 dX9_dampIn_40 ?_
      obtain ⟨e13, h⟩ := ckOE h
      obtain ⟨v15, e14, h⟩ := bindE h
      refine q_callV (v := some (.int v15)) [.int v11] C hRO lk_RX9_302 vk_X9_toldDamp e13 rfl rfl rfl (Nat.le_of_ble_eq_true rfl) (by decide) (by decide) dX9_dampIn_41 (k_X9_toldDamp X.1.2.1 hl X.2.2.1 l0 v11 M _ e14) ?_
      cases h
      exact q_iret C kf dX9_dampIn_44
    · have h := ifT c8 h
      refine q_bipush (v := (9 : Int32)) C dX9_dampIn_27 (by decide) ?_
      refine q_goto (tgt := 44) C dX9_dampIn_29 (by decide) ?_
      cases h
      exact q_iret C kf dX9_dampIn_44
  · have h := ifF c3 h
    refine q_aload_n 0 C dX9_dampIn_8 rfl ?_
    obtain ⟨v16, e17, h⟩ := bindE h
    refine q_getI C fl_RX9_78 rfl e17 dX9_dampIn_9 ?_
    refine q_goto (tgt := 44) C dX9_dampIn_12 (by decide) ?_
    cases h
    exact q_iret C kf dX9_dampIn_44
theorem k_X9_dampIn (l : Launch) (hl : l.stackTraces = false) (G : GG) (l0 : Nat) (l1 : Int32) (M : Mem) (x : Int32) (h : F_X9_dampIn l0 l1 M = some x) : Ct l G yX9_dampIn (.code yX9_dampIn cX9_dampIn 2 (some .int)) 8 161 [.ref l0, .int l1] M (rs_pI x) M := by
  refine Ct_of (by decide +kernel) (Nat.le_of_ble_eq_true rfl) fun X e1 e2 e3 C FN hnm => ?_
  subst e1; subst e2
  show wq X 2 0 [(0, .ref l0), (1, .int l1)] [] M
  exact w_X9_dampIn C FN.2.2.2 hl l0 l1 M h FN
/-! X9_works -/
set_option maxRecDepth 100000 in
set_option maxHeartbeats 4000000 in
theorem w_X9_works {X : CX} {y : Int32} (C : CK X cX9_works 3 RX9 7 140) (hRO : RO X.2.2.1 X.1.2.2.2.2.1 X.1.2.2.2.2.1.heap) (hl : X.1.2.1.stackTraces = false) (l0 : Int32) (l1 : Int32) (l2 : Int32) (M : Mem) (h : F_X9_works l0 l1 l2 M = some y) (kf : FIN X (some .int) (rs_pI y) M) : wq X 3 0 [(0, .int l0), (1, .int l1), (2, .int l2)] [] M := by
  unfold F_X9_works at h
  refine q_iload_n 0 C dX9_works_0 rfl ?_
  by_cases c1 : l0 = (4 : Int32)
  · have h := ifT c1 h
    refine q_tableIn (off := 43) (tgt := 44) C dX9_works_1 (by rw [c1]; decide) (by rw [c1]; decide) (by rw [c1]; rfl) (by decide) ?_
    refine q_iload_n 1 C dX9_works_44 rfl ?_
    refine q_if_eq (tgt := 56) C dX9_works_45 (by decide) (fun c2 => ?_) (fun c2 => ?_)
    · have h := ifT c2 h
      refine q_iconst (v := (0 : Int32)) C dX9_works_56 (by decide) ?_
      cases h
      exact q_iret C kf dX9_works_57
    · have h := ifF c2 h
      refine q_iload_n 2 C dX9_works_48 rfl ?_
      refine q_if_eq (tgt := 56) C dX9_works_49 (by decide) (fun c3 => ?_) (fun c3 => ?_)
      · have h := ifT c3 h
        refine q_iconst (v := (0 : Int32)) C dX9_works_56 (by decide) ?_
        cases h
        exact q_iret C kf dX9_works_57
      · have h := ifF c3 h
        refine q_iconst (v := (1 : Int32)) C dX9_works_52 (by decide) ?_
        refine q_goto (tgt := 57) C dX9_works_53 (by decide) ?_
        cases h
        exact q_iret C kf dX9_works_57
  have h := ifF c1 h
  by_cases c4 : l0 = (5 : Int32)
  · have h := ifT c4 h
    refine q_tableIn (off := 57) (tgt := 58) C dX9_works_1 (by rw [c4]; decide) (by rw [c4]; decide) (by rw [c4]; rfl) (by decide) ?_
    refine q_iload_n 1 C dX9_works_58 rfl ?_
    refine q_if_ne (tgt := 66) C dX9_works_59 (by decide) (fun c5 => ?_) (fun c5 => ?_)
    · have h := ifF c5 h
      refine q_iconst (v := (1 : Int32)) C dX9_works_66 (by decide) ?_
      refine q_goto (tgt := 71) C dX9_works_67 (by decide) ?_
      cases h
      exact q_iret C kf dX9_works_71
    · have h := ifT c5 h
      refine q_iload_n 2 C dX9_works_62 rfl ?_
      refine q_if_eq (tgt := 70) C dX9_works_63 (by decide) (fun c6 => ?_) (fun c6 => ?_)
      · have h := ifT c6 h
        refine q_iconst (v := (0 : Int32)) C dX9_works_70 (by decide) ?_
        cases h
        exact q_iret C kf dX9_works_71
      · have h := ifF c6 h
        refine q_iconst (v := (1 : Int32)) C dX9_works_66 (by decide) ?_
        refine q_goto (tgt := 71) C dX9_works_67 (by decide) ?_
        cases h
        exact q_iret C kf dX9_works_71
  have h := ifF c4 h
  by_cases c7 : l0 = (6 : Int32)
  · have h := ifT c7 h
    refine q_tableIn (off := 71) (tgt := 72) C dX9_works_1 (by rw [c7]; decide) (by rw [c7]; decide) (by rw [c7]; rfl) (by decide) ?_
    refine q_iload_n 1 C dX9_works_72 rfl ?_
    refine q_iload_n 2 C dX9_works_73 rfl ?_
    refine q_icmp_ge (tgt := 81) C dX9_works_74 (by decide) (fun c8 => ?_) (fun c8 => ?_)
    · have h := ifT c8 h
      refine q_iconst (v := (0 : Int32)) C dX9_works_81 (by decide) ?_
      cases h
      exact q_iret C kf dX9_works_82
    · have h := ifF c8 h
      refine q_iconst (v := (1 : Int32)) C dX9_works_77 (by decide) ?_
      refine q_goto (tgt := 82) C dX9_works_78 (by decide) ?_
      cases h
      exact q_iret C kf dX9_works_82
  have h := ifF c7 h
  by_cases c9 : l0 = (7 : Int32)
  · have h := ifT c9 h
    refine q_tableIn (off := 82) (tgt := 83) C dX9_works_1 (by rw [c9]; decide) (by rw [c9]; decide) (by rw [c9]; rfl) (by decide) ?_
    refine q_iload_n 1 C dX9_works_83 rfl ?_
    refine q_iload_n 2 C dX9_works_84 rfl ?_
    refine q_icmp_ne (tgt := 92) C dX9_works_85 (by decide) (fun c10 => ?_) (fun c10 => ?_)
    · have h := ifF c10 h
      refine q_iconst (v := (0 : Int32)) C dX9_works_92 (by decide) ?_
      cases h
      exact q_iret C kf dX9_works_93
    · have h := ifT c10 h
      refine q_iconst (v := (1 : Int32)) C dX9_works_88 (by decide) ?_
      refine q_goto (tgt := 93) C dX9_works_89 (by decide) ?_
      cases h
      exact q_iret C kf dX9_works_93
  have h := ifF c9 h
  by_cases c11 : l0 = (8 : Int32)
  · have h := ifT c11 h
    refine q_tableIn (off := 93) (tgt := 94) C dX9_works_1 (by rw [c11]; decide) (by rw [c11]; decide) (by rw [c11]; rfl) (by decide) ?_
    refine q_iload_n 1 C dX9_works_94 rfl ?_
    refine q_iload_n 2 C dX9_works_95 rfl ?_
    refine q_iadd C dX9_works_96 ?_
    cases h
    exact q_iret C kf dX9_works_97
  have h := ifF c11 h
  by_cases c12 : l0 = (9 : Int32)
  · have h := ifT c12 h
    refine q_tableIn (off := 97) (tgt := 98) C dX9_works_1 (by rw [c12]; decide) (by rw [c12]; decide) (by rw [c12]; rfl) (by decide) ?_
    refine q_iload_n 1 C dX9_works_98 rfl ?_
    refine q_iload_n 2 C dX9_works_99 rfl ?_
    refine q_isub C dX9_works_100 ?_
    cases h
    exact q_iret C kf dX9_works_101
  have h := ifF c12 h
  by_cases c13 : l0 = (10 : Int32)
  · have h := ifT c13 h
    refine q_tableIn (off := 101) (tgt := 102) C dX9_works_1 (by rw [c13]; decide) (by rw [c13]; decide) (by rw [c13]; rfl) (by decide) ?_
    refine q_iload_n 1 C dX9_works_102 rfl ?_
    refine q_iload_n 2 C dX9_works_103 rfl ?_
    refine q_imul C dX9_works_104 ?_
    cases h
    exact q_iret C kf dX9_works_105
  have h := ifF c13 h
  refine q_tableOut (tgt := 106) C dX9_works_1 (by have z0 := neI c1; have z1 := neI c4; have z2 := neI c7; have z3 := neI c9; have z4 := neI c11; have z5 := neI c12; have z6 := neI c13; simp only [Int32.reduceToInt] at *; omega) (by decide) ?_
  refine q_iload_n 2 C dX9_works_106 rfl ?_
  refine q_if_ne (tgt := 114) C dX9_works_107 (by decide) (fun c14 => ?_) (fun c14 => ?_)
  · have h := ifF c14 h
    refine q_iload_n 1 C dX9_works_114 rfl ?_
    refine q_iload_n 2 C dX9_works_115 rfl ?_
    have c15 : ¬ l2 = 0 := fun c => nomatch ifT c h
    have h := ifF c15 h
    refine q_idiv C c15 dX9_works_116 ?_
    cases h
    exact q_iret C kf dX9_works_117
  · have h := ifT c14 h
    refine q_iconst (v := (0 : Int32)) C dX9_works_110 (by decide) ?_
    refine q_goto (tgt := 117) C dX9_works_111 (by decide) ?_
    cases h
    exact q_iret C kf dX9_works_117
theorem k_X9_works (l : Launch) (hl : l.stackTraces = false) (G : GG) (l0 : Int32) (l1 : Int32) (l2 : Int32) (M : Mem) (x : Int32) (h : F_X9_works l0 l1 l2 M = some x) : Ct l G yX9_works (.code yX9_works cX9_works 3 (some .int)) 7 140 [.int l0, .int l1, .int l2] M (rs_pI x) M := by
  refine Ct_of (by decide +kernel) (Nat.le_of_ble_eq_true rfl) fun X e1 e2 e3 C FN hnm => ?_
  subst e1; subst e2
  show wq X 3 0 [(0, .int l0), (1, .int l1), (2, .int l2)] [] M
  exact w_X9_works C FN.2.2.2 hl l0 l1 l2 M h FN
/-! X9_reckons -/
set_option maxRecDepth 100000 in
set_option maxHeartbeats 4000000 in
theorem w_X9_reckons_j36_4 {X : CX} {y : (Int32 × Int32 × Mem) ⊕ (Mem)} (C : CK X cX9_reckons 5 RX9 8 162) (hRO : RO X.2.2.1 X.1.2.2.2.2.1 X.1.2.2.2.2.1.heap) (hl : X.1.2.1.stackTraces = false) (l0 : Nat) (l2 : Int32) (l3 : Int32) (l4 : Int32) (M : Mem) (h : F_X9_reckons_j36_4 l0 l2 l3 l4 M = some y) (kc : ∀ s' : Int32 × Int32 × Mem, y = .inl s' → wq X 5 4 [(0, .ref l0), (2, .int (s'.1)), (3, .int (s'.2.1))] [] s'.2.2) (kx : ∀ e' : Mem, y = (.inr e') → wq X 5 143 [(0, .ref l0)] [] e') : wq X 5 36 [(0, .ref l0), (2, .int l2), (3, .int l3), (4, .int l4)] [] M := by
  unfold F_X9_reckons_j36_4 at h
  refine q_aload_n 0 C dX9_reckons_36 rfl ?_
  obtain ⟨v11, e12, h⟩ := bindE h
  refine q_getP C fl_RX9_75 rfl e12 dX9_reckons_37 ?_
  refine q_iload_n 1 C dX9_reckons_40 rfl ?_
  refine q_iload 3 C dX9_reckons_41 rfl ?_
  refine q_iconst (v := (1 : Int32)) C dX9_reckons_43 (by decide) ?_
  refine q_icmp_ne (tgt := 56) C dX9_reckons_44 (by decide) (fun c13 => ?_) (fun c13 => ?_)
  · have h := ifF c13 h
    refine q_aload_n 0 C dX9_reckons_56 rfl ?_
    obtain ⟨v14, e15, h⟩ := bindE h
    refine q_getP C fl_RX9_72 rfl e15 dX9_reckons_57 ?_
    refine q_aload_n 0 C dX9_reckons_60 rfl ?_
    obtain ⟨v16, e17, h⟩ := bindE h
    refine q_getP C fl_RX9_29 rfl e17 dX9_reckons_61 ?_
    refine q_iload_n 2 C dX9_reckons_64 rfl ?_
    obtain ⟨v18, e19, h⟩ := bindE h
    refine q_iaload C e19 dX9_reckons_65 ?_
    obtain ⟨v20, e21, h⟩ := bindE h
    refine q_iaload C e21 dX9_reckons_66 ?_
    obtain ⟨M22, e23, h⟩ := bindE h
    refine q_iastore C e23 dX9_reckons_67 ?_
    refine q_iinc 2 (v := (l3 + (1 : Int32))) (lv' := [(3, .int (l3 + (1 : Int32))), (0, .ref l0), (2, .int l2), (4, .int l4)]) C dX9_reckons_68 rfl rfl (by decide) rfl ?_
    refine q_iinc 2 (v := (l2 + (1 : Int32))) (lv' := [(2, .int (l2 + (1 : Int32))), (3, .int (l3 + (1 : Int32))), (0, .ref l0), (4, .int l4)]) C dX9_reckons_71 rfl rfl (by decide) rfl ?_
    refine q_goto (tgt := 140) C dX9_reckons_74 (by decide) ?_
    refine q_goto (tgt := 4) C dX9_reckons_140 (by decide) ?_
    exact q_sub (lv' := [(0, .ref l0), (2, .int (l2 + (1 : Int32))), (3, .int (l3 + (1 : Int32)))]) [2, 0, 1] rfl (kc ((l2 + (1 : Int32)), (l3 + (1 : Int32)), M22) (someI h))
  · have h := ifT c13 h
    refine q_aload_n 0 C dX9_reckons_47 rfl ?_
    obtain ⟨v24, e25, h⟩ := bindE h
    refine q_getP C fl_RX9_29 rfl e25 dX9_reckons_48 ?_
    refine q_iload_n 2 C dX9_reckons_51 rfl ?_
    obtain ⟨v26, e27, h⟩ := bindE h
    refine q_iaload C e27 dX9_reckons_52 ?_
    refine q_goto (tgt := 67) C dX9_reckons_53 (by decide) ?_
    obtain ⟨M28, e29, h⟩ := bindE h
    refine q_iastore C e29 dX9_reckons_67 ?_
    refine q_iinc 2 (v := (l3 + (1 : Int32))) (lv' := [(3, .int (l3 + (1 : Int32))), (0, .ref l0), (2, .int l2), (4, .int l4)]) C dX9_reckons_68 rfl rfl (by decide) rfl ?_
    refine q_iinc 2 (v := (l2 + (1 : Int32))) (lv' := [(2, .int (l2 + (1 : Int32))), (3, .int (l3 + (1 : Int32))), (0, .ref l0), (4, .int l4)]) C dX9_reckons_71 rfl rfl (by decide) rfl ?_
    refine q_goto (tgt := 140) C dX9_reckons_74 (by decide) ?_
    refine q_goto (tgt := 4) C dX9_reckons_140 (by decide) ?_
    exact q_sub (lv' := [(0, .ref l0), (2, .int (l2 + (1 : Int32))), (3, .int (l3 + (1 : Int32)))]) [2, 0, 1] rfl (kc ((l2 + (1 : Int32)), (l3 + (1 : Int32)), M28) (someI h))
set_option maxRecDepth 100000 in
set_option maxHeartbeats 4000000 in
theorem w_X9_reckons_s4 {X : CX} {y : (Int32 × Int32 × Mem) ⊕ (Mem)} (C : CK X cX9_reckons 5 RX9 8 162) (hRO : RO X.2.2.1 X.1.2.2.2.2.1 X.1.2.2.2.2.1.heap) (hl : X.1.2.1.stackTraces = false) (l0 : Nat) (l2 : Int32) (l3 : Int32) (M : Mem) (h : F_X9_reckons_s4 l0 l2 l3 M = some y) (kc : ∀ s' : Int32 × Int32 × Mem, y = .inl s' → wq X 5 4 [(0, .ref l0), (2, .int (s'.1)), (3, .int (s'.2.1))] [] s'.2.2) (kx : ∀ e' : Mem, y = (.inr e') → wq X 5 143 [(0, .ref l0)] [] e') : wq X 5 4 [(0, .ref l0), (2, .int l2), (3, .int l3)] [] M := by
  unfold F_X9_reckons_s4 at h
  refine q_aload_n 0 C dX9_reckons_4 rfl ?_
  obtain ⟨v1, e2, h⟩ := bindE h
  refine q_getP C fl_RX9_29 rfl e2 dX9_reckons_5 ?_
  refine q_iload_n 2 C dX9_reckons_8 rfl ?_
  obtain ⟨v3, e4, h⟩ := bindE h
  refine q_iaload C e4 dX9_reckons_9 ?_
  refine q_if_eq (tgt := 143) C dX9_reckons_10 (by decide) (fun c5 => ?_) (fun c5 => ?_)
  · have h := ifT c5 h
    exact q_sub (lv' := [(0, .ref l0)]) [0] rfl (kx M (someI h))
  · have h := ifF c5 h
    refine q_aload_n 0 C dX9_reckons_13 rfl ?_
    obtain ⟨v6, e7, h⟩ := bindE h
    refine q_getP C fl_RX9_29 rfl e7 dX9_reckons_14 ?_
    refine q_iload_n 2 C dX9_reckons_17 rfl ?_
    obtain ⟨v8, e9, h⟩ := bindE h
    refine q_iaload C e9 dX9_reckons_18 ?_
    refine q_istore (i := 4) (lv' := [(4, .int v8), (0, .ref l0), (2, .int l2), (3, .int l3)]) C dX9_reckons_19 (by decide) rfl ?_
    refine q_iinc 3 (v := (l3 + (1 : Int32))) (lv' := [(3, .int (l3 + (1 : Int32))), (4, .int v8), (0, .ref l0), (2, .int l2)]) C dX9_reckons_21 rfl rfl (by decide) rfl ?_
    refine q_iload 1 C dX9_reckons_24 rfl ?_
    refine q_iconst (v := (1 : Int32)) C dX9_reckons_26 (by decide) ?_
    refine q_icmp_eq (tgt := 36) C dX9_reckons_27 (by decide) (fun c10 => ?_) (fun c10 => ?_)
    · have h := ifT c10 h
      exact q_sub (lv' := [(0, .ref l0), (2, .int l2), (3, .int (l3 + (1 : Int32))), (4, .int v8)]) [2, 3, 0, 1] rfl (w_X9_reckons_j36_4 C hRO hl l0 l2 (l3 + (1 : Int32)) v8 M h kc kx)
    · have h := ifF c10 h
      refine q_iload 1 C dX9_reckons_30 rfl ?_
      refine q_iconst (v := (2 : Int32)) C dX9_reckons_32 (by decide) ?_
      refine q_icmp_ne (tgt := 77) C dX9_reckons_33 (by decide) (fun c30 => ?_) (fun c30 => ?_)
      · have h := ifF c30 h
        refine q_iload 1 C dX9_reckons_77 rfl ?_
        refine q_iconst (v := (3 : Int32)) C dX9_reckons_79 (by decide) ?_
        refine q_icmp_ne (tgt := 110) C dX9_reckons_80 (by decide) (fun c31 => ?_) (fun c31 => ?_)
        · have h := ifF c31 h
          refine q_iinc 3 (v := (l2 + (-1 : Int32))) (lv' := [(2, .int (l2 + (-1 : Int32))), (3, .int (l3 + (1 : Int32))), (4, .int v8), (0, .ref l0)]) C dX9_reckons_110 rfl rfl (by decide) rfl ?_
          refine q_aload_n 3 C dX9_reckons_113 rfl ?_
          obtain ⟨v32, e33, h⟩ := bindE h
          refine q_getP C fl_RX9_75 rfl e33 dX9_reckons_114 ?_
          refine q_iload_n 0 C dX9_reckons_117 rfl ?_
          refine q_iconst (v := (1 : Int32)) C dX9_reckons_118 (by decide) ?_
          refine q_isub C dX9_reckons_119 ?_
          refine q_iload 2 C dX9_reckons_120 rfl ?_
          refine q_aload_n 3 C dX9_reckons_122 rfl ?_
          obtain ⟨v34, e35, h⟩ := bindE h
          refine q_getP C fl_RX9_75 rfl e35 dX9_reckons_123 ?_
          refine q_iload_n 0 C dX9_reckons_126 rfl ?_
          refine q_iconst (v := (1 : Int32)) C dX9_reckons_127 (by decide) ?_
          refine q_isub C dX9_reckons_128 ?_
          obtain ⟨v36, e37, h⟩ := bindE h
          refine q_iaload C e37 dX9_reckons_129 ?_
          refine q_aload_n 3 C dX9_reckons_130 rfl ?_
          obtain ⟨v38, e39, h⟩ := bindE h
          refine q_getP C fl_RX9_75 rfl e39 dX9_reckons_131 ?_
          refine q_iload_n 0 C dX9_reckons_134 rfl ?_
          obtain ⟨v40, e41, h⟩ := bindE h
          refine q_iaload C e41 dX9_reckons_135 ?_
          obtain ⟨v43, e42, h⟩ := bindE h
          refine q_callS (v := some (.int v43)) [.int v8, .int v36, .int v40] C hRO lk_RX9_298 sk_X9_works rfl rfl (Nat.le_of_ble_eq_true rfl) (by decide) (by decide) dX9_reckons_136 (k_X9_works X.1.2.1 hl X.2.2.1 v8 v36 v40 M _ e42) ?_
          obtain ⟨M44, e45, h⟩ := bindE h
          refine q_iastore C e45 dX9_reckons_139 ?_
          refine q_goto (tgt := 4) C dX9_reckons_140 (by decide) ?_
          exact q_sub (lv' := [(0, .ref l0), (2, .int (l2 + (-1 : Int32))), (3, .int (l3 + (1 : Int32)))]) [3, 0, 1] rfl (kc ((l2 + (-1 : Int32)), (l3 + (1 : Int32)), M44) (someI h))
        · have h := ifT c31 h
          refine q_aload_n 2 C dX9_reckons_83 rfl ?_
          obtain ⟨v46, e47, h⟩ := bindE h
          refine q_getP C fl_RX9_75 rfl e47 dX9_reckons_84 ?_
          refine q_iload_n 3 C dX9_reckons_87 rfl ?_
          refine q_iconst (v := (1 : Int32)) C dX9_reckons_88 (by decide) ?_
          refine q_isub C dX9_reckons_89 ?_
          refine q_aload_n 2 C dX9_reckons_90 rfl ?_
          obtain ⟨v48, e49, h⟩ := bindE h
          refine q_getP C fl_RX9_75 rfl e49 dX9_reckons_91 ?_
          refine q_iload_n 3 C dX9_reckons_94 rfl ?_
          refine q_iconst (v := (1 : Int32)) C dX9_reckons_95 (by decide) ?_
          refine q_isub C dX9_reckons_96 ?_
          obtain ⟨v50, e51, h⟩ := bindE h
          refine q_iaload C e51 dX9_reckons_97 ?_
          refine q_if_ne (tgt := 105) C dX9_reckons_98 (by decide) (fun c52 => ?_) (fun c52 => ?_)
          · have h := ifF c52 h
            refine q_iconst (v := (0 : Int32)) C dX9_reckons_105 (by decide) ?_
            obtain ⟨M53, e54, h⟩ := bindE h
            refine q_iastore C e54 dX9_reckons_106 ?_
            refine q_goto (tgt := 140) C dX9_reckons_107 (by decide) ?_
            refine q_goto (tgt := 4) C dX9_reckons_140 (by decide) ?_
            exact q_sub (lv' := [(0, .ref l0), (2, .int l2), (3, .int (l3 + (1 : Int32)))]) [2, 3, 0] rfl (kc (l2, (l3 + (1 : Int32)), M53) (someI h))
          · have h := ifT c52 h
            refine q_iconst (v := (1 : Int32)) C dX9_reckons_101 (by decide) ?_
            refine q_goto (tgt := 106) C dX9_reckons_102 (by decide) ?_
            obtain ⟨M55, e56, h⟩ := bindE h
            refine q_iastore C e56 dX9_reckons_106 ?_
            refine q_goto (tgt := 140) C dX9_reckons_107 (by decide) ?_
            refine q_goto (tgt := 4) C dX9_reckons_140 (by decide) ?_
            exact q_sub (lv' := [(0, .ref l0), (2, .int l2), (3, .int (l3 + (1 : Int32)))]) [2, 3, 0] rfl (kc (l2, (l3 + (1 : Int32)), M55) (someI h))
      · have h := ifT c30 h
        exact q_sub (lv' := [(0, .ref l0), (2, .int l2), (3, .int (l3 + (1 : Int32))), (4, .int v8)]) [2, 3, 0, 1] rfl (w_X9_reckons_j36_4 C hRO hl l0 l2 (l3 + (1 : Int32)) v8 M h kc kx)
theorem w_X9_reckons_l4 {X : CX} {r : Mem} (C : CK X cX9_reckons 5 RX9 8 162) (hRO : RO X.2.2.1 X.1.2.2.2.2.1 X.1.2.2.2.2.1.heap) (hl : X.1.2.1.stackTraces = false) (l0 : Nat) (l2 : Int32) (l3 : Int32) (M : Mem) (h : loop (fun s => F_X9_reckons_s4 l0 s.1 s.2.1 s.2.2) (l2, l3, M) = some r) (kx : ∀ e' : Mem, r = e' → wq X 5 143 [(0, .ref l0)] [] e') : wq X 5 4 [(0, .ref l0), (2, .int l2), (3, .int l3)] [] M :=
  loop_ind (P := fun s => wq X 5 4 [(0, .ref l0), (2, .int s.1), (3, .int s.2.1)] [] s.2.2) h (fun s y hy kc kr => w_X9_reckons_s4 C hRO hl l0 s.1 s.2.1 s.2.2 hy kc (fun e' he => kx e' (kr _ he).symm))
set_option maxRecDepth 100000 in
set_option maxHeartbeats 4000000 in
theorem w_X9_reckons {X : CX} {y : Int32 × Mem} (C : CK X cX9_reckons 5 RX9 8 162) (hRO : RO X.2.2.1 X.1.2.2.2.2.1 X.1.2.2.2.2.1.heap) (hl : X.1.2.1.stackTraces = false) (l0 : Nat) (l1 : Int32) (M : Mem) (h : F_X9_reckons l0 l1 M = some y) (kf : FIN X (some .int) (rs_mI y) (ms_mI y)) : wq X 5 0 [(0, .ref l0), (1, .int l1)] [] M := by
  unfold F_X9_reckons at h
  refine q_iconst (v := (0 : Int32)) C dX9_reckons_0 (by decide) ?_
  refine q_istore_n (i := 2) (lv' := [(2, .int (0 : Int32)), (0, .ref l0), (1, .int l1)]) C dX9_reckons_1 rfl (by decide) rfl ?_
  refine q_iload_n 2 C dX9_reckons_2 rfl ?_
  refine q_istore_n (i := 3) (lv' := [(3, .int l1), (2, .int (0 : Int32)), (0, .ref l0), (1, .int l1)]) C dX9_reckons_3 rfl (by decide) rfl ?_
  obtain ⟨M59, e58, h⟩ := bindE h
  refine q_sub (lv' := [(0, .ref l0), (2, .int (0 : Int32)), (3, .int l1)]) [2, 1, 0] rfl (w_X9_reckons_l4 C hRO hl l0 (0 : Int32) l1 M e58 (fun r57 he => ?_))
  subst he
  show wq X 5 143 [(0, .ref l0)] [] M59
  refine q_aload_n 0 C dX9_reckons_143 rfl ?_
  obtain ⟨v60, e61, h⟩ := bindE h
  refine q_getP C fl_RX9_75 rfl e61 dX9_reckons_144 ?_
  refine q_iconst (v := (0 : Int32)) C dX9_reckons_147 (by decide) ?_
  obtain ⟨v62, e63, h⟩ := bindE h
  refine q_iaload C e63 dX9_reckons_148 ?_
  cases h
  exact q_iret C kf dX9_reckons_149
theorem k_X9_reckons (l : Launch) (hl : l.stackTraces = false) (G : GG) (l0 : Nat) (l1 : Int32) (M : Mem) (x : Int32 × Mem) (h : F_X9_reckons l0 l1 M = some x) : Ct l G yX9_reckons (.code yX9_reckons cX9_reckons 5 (some .int)) 8 162 [.ref l0, .int l1] M (rs_mI x) (ms_mI x) := by
  refine Ct_of (by decide +kernel) (Nat.le_of_ble_eq_true rfl) fun X e1 e2 e3 C FN hnm => ?_
  subst e1; subst e2
  show wq X 5 0 [(0, .ref l0), (1, .int l1)] [] M
  exact w_X9_reckons C FN.2.2.2 hl l0 l1 M h FN
/-! X9_bounded -/
set_option maxRecDepth 100000 in
set_option maxHeartbeats 4000000 in
theorem w_X9_bounded {X : CX} {y : Int32} (C : CK X cX9_bounded 3 RX9 7 140) (hRO : RO X.2.2.1 X.1.2.2.2.2.1 X.1.2.2.2.2.1.heap) (hl : X.1.2.1.stackTraces = false) (l0 : Int32) (l1 : Int32) (l2 : Int32) (M : Mem) (h : F_X9_bounded l0 l1 l2 M = some y) (kf : FIN X (some .int) (rs_pI y) M) : wq X 3 0 [(0, .int l0), (1, .int l1), (2, .int l2)] [] M := by
  unfold F_X9_bounded at h
  refine q_iload_n 0 C dX9_bounded_0 rfl ?_
  refine q_iload_n 1 C dX9_bounded_1 rfl ?_
  refine q_icmp_ge (tgt := 9) C dX9_bounded_2 (by decide) (fun c1 => ?_) (fun c1 => ?_)
  · have h := ifT c1 h
    refine q_iload_n 0 C dX9_bounded_9 rfl ?_
    refine q_iload_n 2 C dX9_bounded_10 rfl ?_
    refine q_icmp_le (tgt := 18) C dX9_bounded_11 (by decide) (fun c2 => ?_) (fun c2 => ?_)
    · have h := ifT c2 h
      refine q_iload_n 0 C dX9_bounded_18 rfl ?_
      cases h
      exact q_iret C kf dX9_bounded_19
    · have h := ifF c2 h
      refine q_iload_n 2 C dX9_bounded_14 rfl ?_
      refine q_goto (tgt := 19) C dX9_bounded_15 (by decide) ?_
      cases h
      exact q_iret C kf dX9_bounded_19
  · have h := ifF c1 h
    refine q_iload_n 1 C dX9_bounded_5 rfl ?_
    refine q_goto (tgt := 19) C dX9_bounded_6 (by decide) ?_
    cases h
    exact q_iret C kf dX9_bounded_19
theorem k_X9_bounded (l : Launch) (hl : l.stackTraces = false) (G : GG) (l0 : Int32) (l1 : Int32) (l2 : Int32) (M : Mem) (x : Int32) (h : F_X9_bounded l0 l1 l2 M = some x) : Ct l G yX9_bounded (.code yX9_bounded cX9_bounded 3 (some .int)) 7 140 [.int l0, .int l1, .int l2] M (rs_pI x) M := by
  refine Ct_of (by decide +kernel) (Nat.le_of_ble_eq_true rfl) fun X e1 e2 e3 C FN hnm => ?_
  subst e1; subst e2
  show wq X 3 0 [(0, .int l0), (1, .int l1), (2, .int l2)] [] M
  exact w_X9_bounded C FN.2.2.2 hl l0 l1 l2 M h FN
/-! X9_tightOf -/
set_option maxRecDepth 100000 in
set_option maxHeartbeats 4000000 in
theorem w_X9_tightOf {X : CX} {y : Int32} (C : CK X cX9_tightOf 4 RX9 8 162) (hRO : RO X.2.2.1 X.1.2.2.2.2.1 X.1.2.2.2.2.1.heap) (hl : X.1.2.1.stackTraces = false) (l0 : Nat) (l1 : Int32) (l2 : Int32) (l3 : Int32) (M : Mem) (h : F_X9_tightOf l0 l1 l2 l3 M = some y) (kf : FIN X (some .int) (rs_pI y) M) : wq X 4 0 [(0, .ref l0), (1, .int l1), (2, .int l2), (3, .int l3)] [] M := by
  unfold F_X9_tightOf at h
  refine q_aload_n 0 C dX9_tightOf_0 rfl ?_
  obtain ⟨v1, e2, h⟩ := bindE h
  refine q_getP C fl_RX9_66 rfl e2 dX9_tightOf_1 ?_
  refine q_iload_n 1 C dX9_tightOf_4 rfl ?_
  refine q_bipush (v := (27 : Int32)) C dX9_tightOf_5 (by decide) ?_
  refine q_iadd C dX9_tightOf_7 ?_
  refine q_iload_n 2 C dX9_tightOf_8 rfl ?_
  refine q_iadd C dX9_tightOf_9 ?_
  obtain ⟨v3, e4, h⟩ := bindE h
  refine q_iaload C e4 dX9_tightOf_10 ?_
  refine q_aload_n 0 C dX9_tightOf_11 rfl ?_
  obtain ⟨v5, e6, h⟩ := bindE h
  refine q_getP C fl_RX9_66 rfl e6 dX9_tightOf_12 ?_
  refine q_iload_n 1 C dX9_tightOf_15 rfl ?_
  refine q_iconst (v := (3 : Int32)) C dX9_tightOf_16 (by decide) ?_
  refine q_iadd C dX9_tightOf_17 ?_
  refine q_iload_n 3 C dX9_tightOf_18 rfl ?_
  refine q_iadd C dX9_tightOf_19 ?_
  obtain ⟨v7, e8, h⟩ := bindE h
  refine q_iaload C e8 dX9_tightOf_20 ?_
  refine q_isub C dX9_tightOf_21 ?_
  refine q_iconst (v := (0 : Int32)) C dX9_tightOf_22 (by decide) ?_
  refine q_ldcw (v := (99999 : Int32)) C cn_RX9_305 dX9_tightOf_23 ?_
  obtain ⟨v10, e9, h⟩ := bindE h
  refine q_callS (v := some (.int v10)) [.int (v3 - v7), .int (0 : Int32), .int (99999 : Int32)] C hRO lk_RX9_306 sk_X9_bounded rfl rfl (Nat.le_of_ble_eq_true rfl) (by decide) (by decide) dX9_tightOf_26 (k_X9_bounded X.1.2.1 hl X.2.2.1 (v3 - v7) (0 : Int32) (99999 : Int32) M _ e9) ?_
  cases h
  exact q_iret C kf dX9_tightOf_29
theorem k_X9_tightOf (l : Launch) (hl : l.stackTraces = false) (G : GG) (l0 : Nat) (l1 : Int32) (l2 : Int32) (l3 : Int32) (M : Mem) (x : Int32) (h : F_X9_tightOf l0 l1 l2 l3 M = some x) : Ct l G yX9_tightOf (.code yX9_tightOf cX9_tightOf 4 (some .int)) 8 162 [.ref l0, .int l1, .int l2, .int l3] M (rs_pI x) M := by
  refine Ct_of (by decide +kernel) (Nat.le_of_ble_eq_true rfl) fun X e1 e2 e3 C FN hnm => ?_
  subst e1; subst e2
  show wq X 4 0 [(0, .ref l0), (1, .int l1), (2, .int l2), (3, .int l3)] [] M
  exact w_X9_tightOf C FN.2.2.2 hl l0 l1 l2 l3 M h FN
/-! X9_asks -/
set_option maxRecDepth 100000 in
set_option maxHeartbeats 4000000 in
theorem w_X9_asks {X : CX} {y : Int32 × Mem} (C : CK X cX9_asks 5 RX9 9 186) (hRO : RO X.2.2.1 X.1.2.2.2.2.1 X.1.2.2.2.2.1.heap) (hl : X.1.2.1.stackTraces = false) (l0 : Nat) (l1 : Int32) (l2 : Int32) (l3 : Int32) (l4 : Int32) (M : Mem) (h : F_X9_asks l0 l1 l2 l3 l4 M = some y) (kf : FIN X (some .int) (rs_mI y) (ms_mI y)) : wq X 5 0 [(0, .ref l0), (1, .int l1), (2, .int l2), (3, .int l3), (4, .int l4)] [] M := by
  unfold F_X9_asks at h
  refine q_aload_n 0 C dX9_asks_0 rfl ?_
  obtain ⟨v1, e2, h⟩ := bindE h
  refine q_getP C fl_RX9_72 rfl e2 dX9_asks_1 ?_
  refine q_iconst (v := (0 : Int32)) C dX9_asks_4 (by decide) ?_
  refine q_aload_n 0 C dX9_asks_5 rfl ?_
  obtain ⟨v3, e4, h⟩ := bindE h
  refine q_getP C fl_RX9_66 rfl e4 dX9_asks_6 ?_
  refine q_iload_n 2 C dX9_asks_9 rfl ?_
  refine q_bipush (v := (27 : Int32)) C dX9_asks_10 (by decide) ?_
  refine q_iadd C dX9_asks_12 ?_
  refine q_iload_n 3 C dX9_asks_13 rfl ?_
  refine q_iadd C dX9_asks_14 ?_
  obtain ⟨v5, e6, h⟩ := bindE h
  refine q_iaload C e6 dX9_asks_15 ?_
  obtain ⟨M7, e8, h⟩ := bindE h
  refine q_iastore C e8 dX9_asks_16 ?_
  refine q_aload_n 0 C dX9_asks_17 rfl ?_
  obtain ⟨v9, e10, h⟩ := bindE h
  refine q_getP C fl_RX9_72 rfl e10 dX9_asks_18 ?_
  refine q_iconst (v := (1 : Int32)) C dX9_asks_21 (by decide) ?_
  refine q_aload_n 0 C dX9_asks_22 rfl ?_
  obtain ⟨v11, e12, h⟩ := bindE h
  refine q_getP C fl_RX9_66 rfl e12 dX9_asks_23 ?_
  refine q_iload_n 2 C dX9_asks_26 rfl ?_
  refine q_iconst (v := (3 : Int32)) C dX9_asks_27 (by decide) ?_
  refine q_iadd C dX9_asks_28 ?_
  refine q_iload 4 C dX9_asks_29 rfl ?_
  refine q_iadd C dX9_asks_31 ?_
  obtain ⟨v13, e14, h⟩ := bindE h
  refine q_iaload C e14 dX9_asks_32 ?_
  obtain ⟨M15, e16, h⟩ := bindE h
  refine q_iastore C e16 dX9_asks_33 ?_
  refine q_aload_n 0 C dX9_asks_34 rfl ?_
  obtain ⟨v17, e18, h⟩ := bindE h
  refine q_getP C fl_RX9_72 rfl e18 dX9_asks_35 ?_
  refine q_iconst (v := (2 : Int32)) C dX9_asks_38 (by decide) ?_
  refine q_aload_n 0 C dX9_asks_39 rfl ?_
  obtain ⟨v19, e20, h⟩ := bindE h
  refine q_getP C fl_RX9_16 rfl e20 dX9_asks_40 ?_
  refine q_iload 4 C dX9_asks_43 rfl ?_
  obtain ⟨v21, e22, h⟩ := bindE h
  refine q_iaload C e22 dX9_asks_45 ?_
  obtain ⟨M23, e24, h⟩ := bindE h
  refine q_iastore C e24 dX9_asks_46 ?_
  refine q_aload_n 0 C dX9_asks_47 rfl ?_
  obtain ⟨v25, e26, h⟩ := bindE h
  refine q_getP C fl_RX9_72 rfl e26 dX9_asks_48 ?_
  refine q_iconst (v := (3 : Int32)) C dX9_asks_51 (by decide) ?_
  refine q_aload_n 0 C dX9_asks_52 rfl ?_
  obtain ⟨v27, e28, h⟩ := bindE h
  refine q_getP C fl_RX9_66 rfl e28 dX9_asks_53 ?_
  refine q_iload_n 2 C dX9_asks_56 rfl ?_
  refine q_bipush (v := (11 : Int32)) C dX9_asks_57 (by decide) ?_
  refine q_iadd C dX9_asks_59 ?_
  refine q_iload 4 C dX9_asks_60 rfl ?_
  refine q_iadd C dX9_asks_62 ?_
  obtain ⟨v29, e30, h⟩ := bindE h
  refine q_iaload C e30 dX9_asks_63 ?_
  obtain ⟨M31, e32, h⟩ := bindE h
  refine q_iastore C e32 dX9_asks_64 ?_
  refine q_aload_n 0 C dX9_asks_65 rfl ?_
  obtain ⟨v33, e34, h⟩ := bindE h
  refine q_getP C fl_RX9_72 rfl e34 dX9_asks_66 ?_
  refine q_iconst (v := (4 : Int32)) C dX9_asks_69 (by decide) ?_
  refine q_aload_n 0 C dX9_asks_70 rfl ?_
  refine q_iload_n 2 C dX9_asks_71 rfl ?_
  obtain ⟨e35, h⟩ := ckOE h
  obtain ⟨v37, e36, h⟩ := bindE h
  refine q_callV (v := some (.int v37)) [.int l2] C hRO lk_RX9_309 vk_X9_dampIn e35 rfl rfl rfl (Nat.le_of_ble_eq_true rfl) (by decide) (by decide) dX9_asks_72 (k_X9_dampIn X.1.2.1 hl X.2.2.1 l0 l2 M31 _ e36) ?_
  obtain ⟨M38, e39, h⟩ := bindE h
  refine q_iastore C e39 dX9_asks_75 ?_
  refine q_aload_n 0 C dX9_asks_76 rfl ?_
  obtain ⟨v40, e41, h⟩ := bindE h
  refine q_getP C fl_RX9_72 rfl e41 dX9_asks_77 ?_
  refine q_iconst (v := (5 : Int32)) C dX9_asks_80 (by decide) ?_
  refine q_aload_n 0 C dX9_asks_81 rfl ?_
  obtain ⟨v42, e43, h⟩ := bindE h
  refine q_getP C fl_RX9_66 rfl e43 dX9_asks_82 ?_
  refine q_iload_n 2 C dX9_asks_85 rfl ?_
  refine q_iconst (v := (0 : Int32)) C dX9_asks_86 (by decide) ?_
  refine q_iadd C dX9_asks_87 ?_
  obtain ⟨v44, e45, h⟩ := bindE h
  refine q_iaload C e45 dX9_asks_88 ?_
  obtain ⟨M46, e47, h⟩ := bindE h
  refine q_iastore C e47 dX9_asks_89 ?_
  refine q_aload_n 0 C dX9_asks_90 rfl ?_
  obtain ⟨v48, e49, h⟩ := bindE h
  refine q_getP C fl_RX9_72 rfl e49 dX9_asks_91 ?_
  refine q_bipush (v := (6 : Int32)) C dX9_asks_94 (by decide) ?_
  refine q_aload_n 0 C dX9_asks_96 rfl ?_
  refine q_iload_n 2 C dX9_asks_97 rfl ?_
  refine q_iload_n 3 C dX9_asks_98 rfl ?_
  refine q_iload 4 C dX9_asks_99 rfl ?_
  obtain ⟨e50, h⟩ := ckOE h
  obtain ⟨v52, e51, h⟩ := bindE h
  refine q_callV (v := some (.int v52)) [.int l2, .int l3, .int l4] C hRO lk_RX9_312 vk_X9_tightOf e50 rfl rfl rfl (Nat.le_of_ble_eq_true rfl) (by decide) (by decide) dX9_asks_101 (k_X9_tightOf X.1.2.1 hl X.2.2.1 l0 l2 l3 l4 M46 _ e51) ?_
  obtain ⟨M53, e54, h⟩ := bindE h
  refine q_iastore C e54 dX9_asks_104 ?_
  refine q_aload_n 0 C dX9_asks_105 rfl ?_
  refine q_iload_n 1 C dX9_asks_106 rfl ?_
  obtain ⟨e55, h⟩ := ckOE h
  obtain ⟨v58, M57, e56, h⟩ := bd2E h
  refine q_callV (v := some (.int v58)) [.int l1] C hRO lk_RX9_315 vk_X9_reckons e55 rfl rfl rfl (Nat.le_of_ble_eq_true rfl) (by decide) (by decide) dX9_asks_107 (k_X9_reckons X.1.2.1 hl X.2.2.1 l0 l1 M53 _ e56) ?_
  cases h
  exact q_iret C kf dX9_asks_110
theorem k_X9_asks (l : Launch) (hl : l.stackTraces = false) (G : GG) (l0 : Nat) (l1 : Int32) (l2 : Int32) (l3 : Int32) (l4 : Int32) (M : Mem) (x : Int32 × Mem) (h : F_X9_asks l0 l1 l2 l3 l4 M = some x) : Ct l G yX9_asks (.code yX9_asks cX9_asks 5 (some .int)) 9 186 [.ref l0, .int l1, .int l2, .int l3, .int l4] M (rs_mI x) (ms_mI x) := by
  refine Ct_of (by decide +kernel) (Nat.le_of_ble_eq_true rfl) fun X e1 e2 e3 C FN hnm => ?_
  subst e1; subst e2
  show wq X 5 0 [(0, .ref l0), (1, .int l1), (2, .int l2), (3, .int l3), (4, .int l4)] [] M
  exact w_X9_asks C FN.2.2.2 hl l0 l1 l2 l3 l4 M h FN
/-! X9_lesser -/
set_option maxRecDepth 100000 in
set_option maxHeartbeats 4000000 in
theorem w_X9_lesser {X : CX} {y : Int32} (C : CK X cX9_lesser 2 RX9 7 140) (hRO : RO X.2.2.1 X.1.2.2.2.2.1 X.1.2.2.2.2.1.heap) (hl : X.1.2.1.stackTraces = false) (l0 : Int32) (l1 : Int32) (M : Mem) (h : F_X9_lesser l0 l1 M = some y) (kf : FIN X (some .int) (rs_pI y) M) : wq X 2 0 [(0, .int l0), (1, .int l1)] [] M := by
  unfold F_X9_lesser at h
  refine q_iload_n 0 C dX9_lesser_0 rfl ?_
  refine q_iload_n 1 C dX9_lesser_1 rfl ?_
  refine q_icmp_ge (tgt := 9) C dX9_lesser_2 (by decide) (fun c1 => ?_) (fun c1 => ?_)
  · have h := ifT c1 h
    refine q_iload_n 1 C dX9_lesser_9 rfl ?_
    cases h
    exact q_iret C kf dX9_lesser_10
  · have h := ifF c1 h
    refine q_iload_n 0 C dX9_lesser_5 rfl ?_
    refine q_goto (tgt := 10) C dX9_lesser_6 (by decide) ?_
    cases h
    exact q_iret C kf dX9_lesser_10
theorem k_X9_lesser (l : Launch) (hl : l.stackTraces = false) (G : GG) (l0 : Int32) (l1 : Int32) (M : Mem) (x : Int32) (h : F_X9_lesser l0 l1 M = some x) : Ct l G yX9_lesser (.code yX9_lesser cX9_lesser 2 (some .int)) 7 140 [.int l0, .int l1] M (rs_pI x) M := by
  refine Ct_of (by decide +kernel) (Nat.le_of_ble_eq_true rfl) fun X e1 e2 e3 C FN hnm => ?_
  subst e1; subst e2
  show wq X 2 0 [(0, .int l0), (1, .int l1)] [] M
  exact w_X9_lesser C FN.2.2.2 hl l0 l1 M h FN
/-! X9_wears -/
set_option maxRecDepth 100000 in
set_option maxHeartbeats 4000000 in
theorem w_X9_wears_j131 {X : CX} {y : Mem} (C : CK X cX9_wears 6 RX9 10 210) (hRO : RO X.2.2.1 X.1.2.2.2.2.1 X.1.2.2.2.2.1.heap) (hl : X.1.2.1.stackTraces = false) (l0 : Nat) (l1 : Int32) (l2 : Int32) (t0 : Int32) (M : Mem) (h : F_X9_wears_j131 l0 l1 l2 t0 M = some y) (kf : FIN X none (rs_mV y) (ms_mV y)) : wq X 6 131 [(0, .ref l0), (1, .int l1), (2, .int l2)] [.int t0] M := by
  unfold F_X9_wears_j131 at h
  refine q_istore (i := 5) (lv' := [(5, .int t0), (0, .ref l0), (1, .int l1), (2, .int l2)]) C dX9_wears_131 (by decide) rfl ?_
  refine q_iload 0 C dX9_wears_133 rfl ?_
  refine q_if_ne (tgt := 139) C dX9_wears_135 (by decide) (fun c38 => ?_) (fun c38 => ?_)
  · have h := ifF c38 h
    refine q_aload_n 1 C dX9_wears_139 rfl ?_
    obtain ⟨v39, e40, h⟩ := bindE h
    refine q_getP C fl_RX9_66 rfl e40 dX9_wears_140 ?_
    refine q_iload_n 2 C dX9_wears_143 rfl ?_
    refine q_iconst (v := (1 : Int32)) C dX9_wears_144 (by decide) ?_
    refine q_iadd C dX9_wears_145 ?_
    refine q_dup2 C dX9_wears_146 rfl rfl ?_
    obtain ⟨v41, e42, h⟩ := bindE h
    refine q_iaload C e42 dX9_wears_147 ?_
    refine q_iconst (v := (1 : Int32)) C dX9_wears_148 (by decide) ?_
    refine q_iload_n 3 C dX9_wears_149 rfl ?_
    refine q_ishl C dX9_wears_150 ?_
    refine q_ior C dX9_wears_151 ?_
    obtain ⟨M43, e44, h⟩ := bindE h
    refine q_iastore C e44 dX9_wears_152 ?_
    refine q_aload_n 1 C dX9_wears_153 rfl ?_
    obtain ⟨v45, e46, h⟩ := bindE h
    refine q_getP C fl_RX9_66 rfl e46 dX9_wears_154 ?_
    refine q_iload_n 2 C dX9_wears_157 rfl ?_
    refine q_bipush (v := (19 : Int32)) C dX9_wears_158 (by decide) ?_
    refine q_iadd C dX9_wears_160 ?_
    refine q_iload_n 3 C dX9_wears_161 rfl ?_
    refine q_iadd C dX9_wears_162 ?_
    refine q_iconst (v := (-1 : Int32)) C dX9_wears_163 (by decide) ?_
    obtain ⟨M47, e48, h⟩ := bindE h
    refine q_iastore C e48 dX9_wears_164 ?_
    cases h
    exact q_vret C kf dX9_wears_165
  · have h := ifT c38 h
    cases h
    exact q_vret C kf dX9_wears_138
set_option maxRecDepth 100000 in
set_option maxHeartbeats 4000000 in
theorem w_X9_wears {X : CX} {y : Mem} (C : CK X cX9_wears 6 RX9 10 210) (hRO : RO X.2.2.1 X.1.2.2.2.2.1 X.1.2.2.2.2.1.heap) (hl : X.1.2.1.stackTraces = false) (l0 : Nat) (l1 : Int32) (l2 : Int32) (M : Mem) (h : F_X9_wears l0 l1 l2 M = some y) (kf : FIN X none (rs_mV y) (ms_mV y)) : wq X 6 0 [(0, .ref l0), (1, .int l1), (2, .int l2)] [] M := by
  unfold F_X9_wears at h
  refine q_aload_n 0 C dX9_wears_0 rfl ?_
  obtain ⟨v1, e2, h⟩ := bindE h
  refine q_getP C fl_RX9_66 rfl e2 dX9_wears_1 ?_
  refine q_iload_n 1 C dX9_wears_4 rfl ?_
  refine q_bipush (v := (19 : Int32)) C dX9_wears_5 (by decide) ?_
  refine q_iadd C dX9_wears_7 ?_
  refine q_iload_n 2 C dX9_wears_8 rfl ?_
  refine q_iadd C dX9_wears_9 ?_
  obtain ⟨v3, e4, h⟩ := bindE h
  refine q_iaload C e4 dX9_wears_10 ?_
  refine q_istore_n (i := 3) (lv' := [(3, .int v3), (0, .ref l0), (1, .int l1), (2, .int l2)]) C dX9_wears_11 rfl (by decide) rfl ?_
  refine q_aload_n 1 C dX9_wears_12 rfl ?_
  refine q_iload_n 2 C dX9_wears_13 rfl ?_
  refine q_iload_n 0 C dX9_wears_14 rfl ?_
  refine q_iload_n 3 C dX9_wears_15 rfl ?_
  obtain ⟨e5, h⟩ := ckOE h
  obtain ⟨v7, e6, h⟩ := bindE h
  refine q_callV (v := some (.int v7)) [.int l1, .int v3, .int l2] C hRO lk_RX9_312 vk_X9_tightOf e5 rfl rfl rfl (Nat.le_of_ble_eq_true rfl) (by decide) (by decide) dX9_wears_16 (k_X9_tightOf X.1.2.1 hl X.2.2.1 l0 l1 v3 l2 M _ e6) ?_
  refine q_istore (i := 4) (lv' := [(4, .int v7), (3, .int v3), (0, .ref l0), (1, .int l1), (2, .int l2)]) C dX9_wears_19 (by decide) rfl ?_
  refine q_aload_n 2 C dX9_wears_21 rfl ?_
  obtain ⟨v8, e9, h⟩ := bindE h
  refine q_getP C fl_RX9_66 rfl e9 dX9_wears_22 ?_
  refine q_iload_n 3 C dX9_wears_25 rfl ?_
  refine q_bipush (v := (11 : Int32)) C dX9_wears_26 (by decide) ?_
  refine q_iadd C dX9_wears_28 ?_
  refine q_iload_n 4 C dX9_wears_29 rfl ?_
  refine q_iadd C dX9_wears_30 ?_
  refine q_bipush (v := (99 : Int32)) C dX9_wears_31 (by decide) ?_
  refine q_aload_n 2 C dX9_wears_33 rfl ?_
  obtain ⟨v10, e11, h⟩ := bindE h
  refine q_getP C fl_RX9_66 rfl e11 dX9_wears_34 ?_
  refine q_iload_n 3 C dX9_wears_37 rfl ?_
  refine q_bipush (v := (11 : Int32)) C dX9_wears_38 (by decide) ?_
  refine q_iadd C dX9_wears_40 ?_
  refine q_iload_n 4 C dX9_wears_41 rfl ?_
  refine q_iadd C dX9_wears_42 ?_
  obtain ⟨v12, e13, h⟩ := bindE h
  refine q_iaload C e13 dX9_wears_43 ?_
  refine q_iload 0 C dX9_wears_44 rfl ?_
  refine q_iadd C dX9_wears_46 ?_
  obtain ⟨v15, e14, h⟩ := bindE h
  refine q_callS (v := some (.int v15)) [.int (99 : Int32), .int (v12 + v7)] C hRO lk_RX9_329 sk_X9_lesser rfl rfl (Nat.le_of_ble_eq_true rfl) (by decide) (by decide) dX9_wears_47 (k_X9_lesser X.1.2.1 hl X.2.2.1 (99 : Int32) (v12 + v7) M _ e14) ?_
  obtain ⟨M16, e17, h⟩ := bindE h
  refine q_iastore C e17 dX9_wears_50 ?_
  refine q_aload_n 2 C dX9_wears_51 rfl ?_
  obtain ⟨v18, e19, h⟩ := bindE h
  refine q_getP C fl_RX9_66 rfl e19 dX9_wears_52 ?_
  refine q_iload_n 3 C dX9_wears_55 rfl ?_
  refine q_bipush (v := (35 : Int32)) C dX9_wears_56 (by decide) ?_
  refine q_iadd C dX9_wears_58 ?_
  refine q_iload_n 1 C dX9_wears_59 rfl ?_
  refine q_iadd C dX9_wears_60 ?_
  refine q_sipush (v := (999 : Int32)) C dX9_wears_61 (by decide) ?_
  refine q_aload_n 2 C dX9_wears_64 rfl ?_
  obtain ⟨v20, e21, h⟩ := bindE h
  refine q_getP C fl_RX9_66 rfl e21 dX9_wears_65 ?_
  refine q_iload_n 3 C dX9_wears_68 rfl ?_
  refine q_bipush (v := (35 : Int32)) C dX9_wears_69 (by decide) ?_
  refine q_iadd C dX9_wears_71 ?_
  refine q_iload_n 1 C dX9_wears_72 rfl ?_
  refine q_iadd C dX9_wears_73 ?_
  obtain ⟨v22, e23, h⟩ := bindE h
  refine q_iaload C e23 dX9_wears_74 ?_
  refine q_iload 0 C dX9_wears_75 rfl ?_
  refine q_iadd C dX9_wears_77 ?_
  obtain ⟨v25, e24, h⟩ := bindE h
  refine q_callS (v := some (.int v25)) [.int (999 : Int32), .int (v22 + v7)] C hRO lk_RX9_329 sk_X9_lesser rfl rfl (Nat.le_of_ble_eq_true rfl) (by decide) (by decide) dX9_wears_78 (k_X9_lesser X.1.2.1 hl X.2.2.1 (999 : Int32) (v22 + v7) M16 _ e24) ?_
  obtain ⟨M26, e27, h⟩ := bindE h
  refine q_iastore C e27 dX9_wears_81 ?_
  refine q_aload_n 2 C dX9_wears_82 rfl ?_
  obtain ⟨v28, e29, h⟩ := bindE h
  refine q_getI C fl_RX9_13 rfl e29 dX9_wears_83 ?_
  refine q_iconst (v := (-1 : Int32)) C dX9_wears_86 (by decide) ?_
  refine q_icmp_ne (tgt := 112) C dX9_wears_87 (by decide) (fun c30 => ?_) (fun c30 => ?_)
  · have h := ifF c30 h
    refine q_aload_n 2 C dX9_wears_112 rfl ?_
    refine q_aload_n 2 C dX9_wears_113 rfl ?_
    obtain ⟨v31, e32, h⟩ := bindE h
    refine q_getI C fl_RX9_13 rfl e32 dX9_wears_114 ?_
    refine q_iload_n 3 C dX9_wears_117 rfl ?_
    refine q_iload_n 1 C dX9_wears_118 rfl ?_
    refine q_iload_n 4 C dX9_wears_119 rfl ?_
    obtain ⟨e33, h⟩ := ckOE h
    obtain ⟨v36, M35, e34, h⟩ := bd2E h
    refine q_callV (v := some (.int v36)) [.int v31, .int l1, .int v3, .int l2] C hRO lk_RX9_318 vk_X9_asks e33 rfl rfl rfl (Nat.le_of_ble_eq_true rfl) (by decide) (by decide) dX9_wears_120 (k_X9_asks X.1.2.1 hl X.2.2.1 l0 v31 l1 v3 l2 M26 _ e34) ?_
    refine q_if_le (tgt := 130) C dX9_wears_123 (by decide) (fun c37 => ?_) (fun c37 => ?_)
    · have h := ifT c37 h
      refine q_iconst (v := (0 : Int32)) C dX9_wears_130 (by decide) ?_
      exact q_sub (lv' := [(0, .ref l0), (1, .int l1), (2, .int l2)]) [2, 3, 4] rfl (w_X9_wears_j131 C hRO hl l0 l1 l2 (0 : Int32) M35 h kf)
    · have h := ifF c37 h
      refine q_iconst (v := (1 : Int32)) C dX9_wears_126 (by decide) ?_
      refine q_goto (tgt := 131) C dX9_wears_127 (by decide) ?_
      exact q_sub (lv' := [(0, .ref l0), (1, .int l1), (2, .int l2)]) [2, 3, 4] rfl (w_X9_wears_j131 C hRO hl l0 l1 l2 (1 : Int32) M35 h kf)
  · have h := ifT c30 h
    refine q_iload 0 C dX9_wears_90 rfl ?_
    refine q_bipush (v := (9 : Int32)) C dX9_wears_92 (by decide) ?_
    refine q_aload_n 2 C dX9_wears_94 rfl ?_
    obtain ⟨v49, e50, h⟩ := bindE h
    refine q_getP C fl_RX9_16 rfl e50 dX9_wears_95 ?_
    refine q_iload_n 4 C dX9_wears_98 rfl ?_
    obtain ⟨v51, e52, h⟩ := bindE h
    refine q_iaload C e52 dX9_wears_99 ?_
    refine q_iadd C dX9_wears_100 ?_
    refine q_icmp_le (tgt := 108) C dX9_wears_101 (by decide) (fun c53 => ?_) (fun c53 => ?_)
    · have h := ifT c53 h
      refine q_iconst (v := (0 : Int32)) C dX9_wears_108 (by decide) ?_
      refine q_goto (tgt := 131) C dX9_wears_109 (by decide) ?_
      exact q_sub (lv' := [(0, .ref l0), (1, .int l1), (2, .int l2)]) [2, 3, 4] rfl (w_X9_wears_j131 C hRO hl l0 l1 l2 (0 : Int32) M26 h kf)
    · have h := ifF c53 h
      refine q_iconst (v := (1 : Int32)) C dX9_wears_104 (by decide) ?_
      refine q_goto (tgt := 131) C dX9_wears_105 (by decide) ?_
      exact q_sub (lv' := [(0, .ref l0), (1, .int l1), (2, .int l2)]) [2, 3, 4] rfl (w_X9_wears_j131 C hRO hl l0 l1 l2 (1 : Int32) M26 h kf)
theorem k_X9_wears (l : Launch) (hl : l.stackTraces = false) (G : GG) (l0 : Nat) (l1 : Int32) (l2 : Int32) (M : Mem) (x : Mem) (h : F_X9_wears l0 l1 l2 M = some x) : Ct l G yX9_wears (.code yX9_wears cX9_wears 6 none) 10 210 [.ref l0, .int l1, .int l2] M (rs_mV x) (ms_mV x) := by
  refine Ct_of (by decide +kernel) (Nat.le_of_ble_eq_true rfl) fun X e1 e2 e3 C FN hnm => ?_
  subst e1; subst e2
  show wq X 6 0 [(0, .ref l0), (1, .int l1), (2, .int l2)] [] M
  exact w_X9_wears C FN.2.2.2 hl l0 l1 l2 M h FN
/-! X9_dayGoes -/
set_option maxRecDepth 100000 in
set_option maxHeartbeats 4000000 in
theorem w_X9_dayGoes_s2 {X : CX} {y : (Int32 × Mem) ⊕ (Mem)} (C : CK X cX9_dayGoes 3 RX9 11 235) (hRO : RO X.2.2.1 X.1.2.2.2.2.1 X.1.2.2.2.2.1.heap) (hl : X.1.2.1.stackTraces = false) (l0 : Nat) (l1 : Int32) (l2 : Int32) (M : Mem) (h : F_X9_dayGoes_s2 l0 l1 l2 M = some y) (kc : ∀ s' : Int32 × Mem, y = .inl s' → wq X 3 2 [(0, .ref l0), (1, .int l1), (2, .int (s'.1))] [] s'.2) (kx : ∀ e' : Mem, y = (.inr e') → wq X 3 37 [(0, .ref l0), (1, .int l1)] [] e') : wq X 3 2 [(0, .ref l0), (1, .int l1), (2, .int l2)] [] M := by
  unfold F_X9_dayGoes_s2 at h
  refine q_iload_n 2 C dX9_dayGoes_2 rfl ?_
  refine q_aload_n 0 C dX9_dayGoes_3 rfl ?_
  obtain ⟨v1, e2, h⟩ := bindE h
  refine q_getI C fl_RX9_275 rfl e2 dX9_dayGoes_4 ?_
  refine q_icmp_ge (tgt := 37) C dX9_dayGoes_7 (by decide) (fun c3 => ?_) (fun c3 => ?_)
  · have h := ifT c3 h
    exact q_sub (lv' := [(0, .ref l0), (1, .int l1)]) [0, 1] rfl (kx M (someI h))
  · have h := ifF c3 h
    refine q_aload_n 0 C dX9_dayGoes_10 rfl ?_
    obtain ⟨v4, e5, h⟩ := bindE h
    refine q_getP C fl_RX9_66 rfl e5 dX9_dayGoes_11 ?_
    refine q_iload_n 1 C dX9_dayGoes_14 rfl ?_
    refine q_bipush (v := (19 : Int32)) C dX9_dayGoes_15 (by decide) ?_
    refine q_iadd C dX9_dayGoes_17 ?_
    refine q_iload_n 2 C dX9_dayGoes_18 rfl ?_
    refine q_iadd C dX9_dayGoes_19 ?_
    obtain ⟨v6, e7, h⟩ := bindE h
    refine q_iaload C e7 dX9_dayGoes_20 ?_
    refine q_iconst (v := (-1 : Int32)) C dX9_dayGoes_21 (by decide) ?_
    refine q_icmp_eq (tgt := 31) C dX9_dayGoes_22 (by decide) (fun c8 => ?_) (fun c8 => ?_)
    · have h := ifT c8 h
      refine q_iinc 2 (v := (l2 + (1 : Int32))) (lv' := [(2, .int (l2 + (1 : Int32))), (0, .ref l0), (1, .int l1)]) C dX9_dayGoes_31 rfl rfl (by decide) rfl ?_
      refine q_goto (tgt := 2) C dX9_dayGoes_34 (by decide) ?_
      exact q_sub (lv' := [(0, .ref l0), (1, .int l1), (2, .int (l2 + (1 : Int32)))]) [1, 2, 0] rfl (kc ((l2 + (1 : Int32)), M) (someI h))
    · have h := ifF c8 h
      refine q_aload_n 0 C dX9_dayGoes_25 rfl ?_
      refine q_iload_n 1 C dX9_dayGoes_26 rfl ?_
      refine q_iload_n 2 C dX9_dayGoes_27 rfl ?_
      obtain ⟨e9, h⟩ := ckOE h
      obtain ⟨M11, e10, h⟩ := bindE h
      refine q_callV (v := none) [.int l1, .int l2] C hRO lk_RX9_332 vk_X9_wears e9 rfl rfl rfl (Nat.le_of_ble_eq_true rfl) (by decide) (by decide) dX9_dayGoes_28 (k_X9_wears X.1.2.1 hl X.2.2.1 l0 l1 l2 M _ e10) ?_
      refine q_iinc 2 (v := (l2 + (1 : Int32))) (lv' := [(2, .int (l2 + (1 : Int32))), (0, .ref l0), (1, .int l1)]) C dX9_dayGoes_31 rfl rfl (by decide) rfl ?_
      refine q_goto (tgt := 2) C dX9_dayGoes_34 (by decide) ?_
      exact q_sub (lv' := [(0, .ref l0), (1, .int l1), (2, .int (l2 + (1 : Int32)))]) [1, 2, 0] rfl (kc ((l2 + (1 : Int32)), M11) (someI h))
theorem w_X9_dayGoes_l2 {X : CX} {r : Mem} (C : CK X cX9_dayGoes 3 RX9 11 235) (hRO : RO X.2.2.1 X.1.2.2.2.2.1 X.1.2.2.2.2.1.heap) (hl : X.1.2.1.stackTraces = false) (l0 : Nat) (l1 : Int32) (l2 : Int32) (M : Mem) (h : loop (fun s => F_X9_dayGoes_s2 l0 l1 s.1 s.2) (l2, M) = some r) (kx : ∀ e' : Mem, r = e' → wq X 3 37 [(0, .ref l0), (1, .int l1)] [] e') : wq X 3 2 [(0, .ref l0), (1, .int l1), (2, .int l2)] [] M :=
  loop_ind (P := fun s => wq X 3 2 [(0, .ref l0), (1, .int l1), (2, .int s.1)] [] s.2) h (fun s y hy kc kr => w_X9_dayGoes_s2 C hRO hl l0 l1 s.1 s.2 hy kc (fun e' he => kx e' (kr _ he).symm))
set_option maxRecDepth 100000 in
set_option maxHeartbeats 4000000 in
theorem w_X9_dayGoes_s39 {X : CX} {y : (Int32 × Mem) ⊕ (Mem)} (C : CK X cX9_dayGoes 3 RX9 11 235) (hRO : RO X.2.2.1 X.1.2.2.2.2.1 X.1.2.2.2.2.1.heap) (hl : X.1.2.1.stackTraces = false) (l0 : Nat) (l1 : Int32) (l2 : Int32) (M : Mem) (h : F_X9_dayGoes_s39 l0 l1 l2 M = some y) (kc : ∀ s' : Int32 × Mem, y = .inl s' → wq X 3 39 [(0, .ref l0), (1, .int l1), (2, .int (s'.1))] [] s'.2) (kx : ∀ e' : Mem, y = (.inr e') → wq X 3 87 [(0, .ref l0), (1, .int l1)] [] e') : wq X 3 39 [(0, .ref l0), (1, .int l1), (2, .int l2)] [] M := by
  unfold F_X9_dayGoes_s39 at h
  refine q_iload_n 2 C dX9_dayGoes_39 rfl ?_
  refine q_aload_n 0 C dX9_dayGoes_40 rfl ?_
  obtain ⟨v16, e17, h⟩ := bindE h
  refine q_getI C fl_RX9_278 rfl e17 dX9_dayGoes_41 ?_
  refine q_icmp_ge (tgt := 87) C dX9_dayGoes_44 (by decide) (fun c18 => ?_) (fun c18 => ?_)
  · have h := ifT c18 h
    exact q_sub (lv' := [(0, .ref l0), (1, .int l1)]) [0, 1] rfl (kx M (someI h))
  · have h := ifF c18 h
    refine q_aload_n 0 C dX9_dayGoes_47 rfl ?_
    obtain ⟨v19, e20, h⟩ := bindE h
    refine q_getP C fl_RX9_66 rfl e20 dX9_dayGoes_48 ?_
    refine q_iload_n 1 C dX9_dayGoes_51 rfl ?_
    refine q_bipush (v := (27 : Int32)) C dX9_dayGoes_52 (by decide) ?_
    refine q_iadd C dX9_dayGoes_54 ?_
    refine q_iload_n 2 C dX9_dayGoes_55 rfl ?_
    refine q_iadd C dX9_dayGoes_56 ?_
    refine q_bipush (v := (99 : Int32)) C dX9_dayGoes_57 (by decide) ?_
    refine q_aload_n 0 C dX9_dayGoes_59 rfl ?_
    obtain ⟨v21, e22, h⟩ := bindE h
    refine q_getP C fl_RX9_66 rfl e22 dX9_dayGoes_60 ?_
    refine q_iload_n 1 C dX9_dayGoes_63 rfl ?_
    refine q_bipush (v := (27 : Int32)) C dX9_dayGoes_64 (by decide) ?_
    refine q_iadd C dX9_dayGoes_66 ?_
    refine q_iload_n 2 C dX9_dayGoes_67 rfl ?_
    refine q_iadd C dX9_dayGoes_68 ?_
    obtain ⟨v23, e24, h⟩ := bindE h
    refine q_iaload C e24 dX9_dayGoes_69 ?_
    refine q_aload_n 0 C dX9_dayGoes_70 rfl ?_
    obtain ⟨v25, e26, h⟩ := bindE h
    refine q_getP C fl_RX9_23 rfl e26 dX9_dayGoes_71 ?_
    refine q_iload_n 2 C dX9_dayGoes_74 rfl ?_
    obtain ⟨v27, e28, h⟩ := bindE h
    refine q_iaload C e28 dX9_dayGoes_75 ?_
    refine q_iadd C dX9_dayGoes_76 ?_
    obtain ⟨v30, e29, h⟩ := bindE h
    refine q_callS (v := some (.int v30)) [.int (99 : Int32), .int (v23 + v27)] C hRO lk_RX9_329 sk_X9_lesser rfl rfl (Nat.le_of_ble_eq_true rfl) (by decide) (by decide) dX9_dayGoes_77 (k_X9_lesser X.1.2.1 hl X.2.2.1 (99 : Int32) (v23 + v27) M _ e29) ?_
    obtain ⟨M31, e32, h⟩ := bindE h
    refine q_iastore C e32 dX9_dayGoes_80 ?_
    refine q_iinc 2 (v := (l2 + (1 : Int32))) (lv' := [(2, .int (l2 + (1 : Int32))), (0, .ref l0), (1, .int l1)]) C dX9_dayGoes_81 rfl rfl (by decide) rfl ?_
    refine q_goto (tgt := 39) C dX9_dayGoes_84 (by decide) ?_
    exact q_sub (lv' := [(0, .ref l0), (1, .int l1), (2, .int (l2 + (1 : Int32)))]) [1, 2, 0] rfl (kc ((l2 + (1 : Int32)), M31) (someI h))
theorem w_X9_dayGoes_l39 {X : CX} {r : Mem} (C : CK X cX9_dayGoes 3 RX9 11 235) (hRO : RO X.2.2.1 X.1.2.2.2.2.1 X.1.2.2.2.2.1.heap) (hl : X.1.2.1.stackTraces = false) (l0 : Nat) (l1 : Int32) (l2 : Int32) (M : Mem) (h : loop (fun s => F_X9_dayGoes_s39 l0 l1 s.1 s.2) (l2, M) = some r) (kx : ∀ e' : Mem, r = e' → wq X 3 87 [(0, .ref l0), (1, .int l1)] [] e') : wq X 3 39 [(0, .ref l0), (1, .int l1), (2, .int l2)] [] M :=
  loop_ind (P := fun s => wq X 3 39 [(0, .ref l0), (1, .int l1), (2, .int s.1)] [] s.2) h (fun s y hy kc kr => w_X9_dayGoes_s39 C hRO hl l0 l1 s.1 s.2 hy kc (fun e' he => kx e' (kr _ he).symm))
set_option maxRecDepth 100000 in
set_option maxHeartbeats 4000000 in
theorem w_X9_dayGoes {X : CX} {y : Mem} (C : CK X cX9_dayGoes 3 RX9 11 235) (hRO : RO X.2.2.1 X.1.2.2.2.2.1 X.1.2.2.2.2.1.heap) (hl : X.1.2.1.stackTraces = false) (l0 : Nat) (l1 : Int32) (M : Mem) (h : F_X9_dayGoes l0 l1 M = some y) (kf : FIN X none (rs_mV y) (ms_mV y)) : wq X 3 0 [(0, .ref l0), (1, .int l1)] [] M := by
  unfold F_X9_dayGoes at h
  refine q_iconst (v := (0 : Int32)) C dX9_dayGoes_0 (by decide) ?_
  refine q_istore_n (i := 2) (lv' := [(2, .int (0 : Int32)), (0, .ref l0), (1, .int l1)]) C dX9_dayGoes_1 rfl (by decide) rfl ?_
  obtain ⟨M15, e14, h⟩ := bindE h
  refine q_sub (lv' := [(0, .ref l0), (1, .int l1), (2, .int (0 : Int32))]) [1, 2, 0] rfl (w_X9_dayGoes_l2 C hRO hl l0 l1 (0 : Int32) M e14 (fun r13 he => ?_))
  subst he
  show wq X 3 37 [(0, .ref l0), (1, .int l1)] [] M15
  refine q_iconst (v := (0 : Int32)) C dX9_dayGoes_37 (by decide) ?_
  refine q_istore_n (i := 2) (lv' := [(2, .int (0 : Int32)), (0, .ref l0), (1, .int l1)]) C dX9_dayGoes_38 rfl (by decide) rfl ?_
  obtain ⟨M35, e34, h⟩ := bindE h
  refine q_sub (lv' := [(0, .ref l0), (1, .int l1), (2, .int (0 : Int32))]) [1, 2, 0] rfl (w_X9_dayGoes_l39 C hRO hl l0 l1 (0 : Int32) M15 e34 (fun r33 he => ?_))
  subst he
  show wq X 3 87 [(0, .ref l0), (1, .int l1)] [] M35
  refine q_aload_n 0 C dX9_dayGoes_87 rfl ?_
  obtain ⟨v36, e37, h⟩ := bindE h
  refine q_getP C fl_RX9_66 rfl e37 dX9_dayGoes_88 ?_
  refine q_iload_n 1 C dX9_dayGoes_91 rfl ?_
  refine q_iconst (v := (0 : Int32)) C dX9_dayGoes_92 (by decide) ?_
  refine q_iadd C dX9_dayGoes_93 ?_
  refine q_dup2 C dX9_dayGoes_94 rfl rfl ?_
  obtain ⟨v38, e39, h⟩ := bindE h
  refine q_iaload C e39 dX9_dayGoes_95 ?_
  refine q_iconst (v := (1 : Int32)) C dX9_dayGoes_96 (by decide) ?_
  refine q_iadd C dX9_dayGoes_97 ?_
  obtain ⟨M40, e41, h⟩ := bindE h
  refine q_iastore C e41 dX9_dayGoes_98 ?_
  refine q_aload_n 0 C dX9_dayGoes_99 rfl ?_
  obtain ⟨v42, e43, h⟩ := bindE h
  refine q_getP C fl_RX9_66 rfl e43 dX9_dayGoes_100 ?_
  refine q_iload_n 1 C dX9_dayGoes_103 rfl ?_
  refine q_iconst (v := (2 : Int32)) C dX9_dayGoes_104 (by decide) ?_
  refine q_iadd C dX9_dayGoes_105 ?_
  refine q_iconst (v := (0 : Int32)) C dX9_dayGoes_106 (by decide) ?_
  obtain ⟨M44, e45, h⟩ := bindE h
  refine q_iastore C e45 dX9_dayGoes_107 ?_
  cases h
  exact q_vret C kf dX9_dayGoes_108
theorem k_X9_dayGoes (l : Launch) (hl : l.stackTraces = false) (G : GG) (l0 : Nat) (l1 : Int32) (M : Mem) (x : Mem) (h : F_X9_dayGoes l0 l1 M = some x) : Ct l G yX9_dayGoes (.code yX9_dayGoes cX9_dayGoes 3 none) 11 235 [.ref l0, .int l1] M (rs_mV x) (ms_mV x) := by
  refine Ct_of (by decide +kernel) (Nat.le_of_ble_eq_true rfl) fun X e1 e2 e3 C FN hnm => ?_
  subst e1; subst e2
  show wq X 3 0 [(0, .ref l0), (1, .int l1)] [] M
  exact w_X9_dayGoes C FN.2.2.2 hl l0 l1 M h FN
/-! X9_daysGo -/
set_option maxRecDepth 100000 in
set_option maxHeartbeats 4000000 in
theorem w_X9_daysGo_s2 {X : CX} {y : (Int32 × Mem) ⊕ (Mem)} (C : CK X cX9_daysGo 3 RX9 12 257) (hRO : RO X.2.2.1 X.1.2.2.2.2.1 X.1.2.2.2.2.1.heap) (hl : X.1.2.1.stackTraces = false) (l0 : Nat) (l1 : Int32) (l2 : Int32) (M : Mem) (h : F_X9_daysGo_s2 l0 l1 l2 M = some y) (kc : ∀ s' : Int32 × Mem, y = .inl s' → wq X 3 2 [(0, .ref l0), (1, .int l1), (2, .int (s'.1))] [] s'.2) (kx : ∀ e' : Mem, y = (.inr e') → wq X 3 19 [] [] e') : wq X 3 2 [(0, .ref l0), (1, .int l1), (2, .int l2)] [] M := by
  unfold F_X9_daysGo_s2 at h
  refine q_iload_n 2 C dX9_daysGo_2 rfl ?_
  refine q_iload_n 1 C dX9_daysGo_3 rfl ?_
  refine q_icmp_ge (tgt := 19) C dX9_daysGo_4 (by decide) (fun c1 => ?_) (fun c1 => ?_)
  · have h := ifT c1 h
    exact q_sub (lv' := []) [] rfl (kx M (someI h))
  · have h := ifF c1 h
    refine q_aload_n 0 C dX9_daysGo_7 rfl ?_
    refine q_bipush (v := (43 : Int32)) C dX9_daysGo_8 (by decide) ?_
    obtain ⟨e2, h⟩ := ckOE h
    obtain ⟨M4, e3, h⟩ := bindE h
    refine q_callV (v := none) [.int (43 : Int32)] C hRO lk_RX9_336 vk_X9_dayGoes e2 rfl rfl rfl (Nat.le_of_ble_eq_true rfl) (by decide) (by decide) dX9_daysGo_10 (k_X9_dayGoes X.1.2.1 hl X.2.2.1 l0 (43 : Int32) M _ e3) ?_
    refine q_iinc 2 (v := (l2 + (1 : Int32))) (lv' := [(2, .int (l2 + (1 : Int32))), (0, .ref l0), (1, .int l1)]) C dX9_daysGo_13 rfl rfl (by decide) rfl ?_
    refine q_goto (tgt := 2) C dX9_daysGo_16 (by decide) ?_
    exact q_sub (lv' := [(0, .ref l0), (1, .int l1), (2, .int (l2 + (1 : Int32)))]) [1, 2, 0] rfl (kc ((l2 + (1 : Int32)), M4) (someI h))
theorem w_X9_daysGo_l2 {X : CX} {r : Mem} (C : CK X cX9_daysGo 3 RX9 12 257) (hRO : RO X.2.2.1 X.1.2.2.2.2.1 X.1.2.2.2.2.1.heap) (hl : X.1.2.1.stackTraces = false) (l0 : Nat) (l1 : Int32) (l2 : Int32) (M : Mem) (h : loop (fun s => F_X9_daysGo_s2 l0 l1 s.1 s.2) (l2, M) = some r) (kx : ∀ e' : Mem, r = e' → wq X 3 19 [] [] e') : wq X 3 2 [(0, .ref l0), (1, .int l1), (2, .int l2)] [] M :=
  loop_ind (P := fun s => wq X 3 2 [(0, .ref l0), (1, .int l1), (2, .int s.1)] [] s.2) h (fun s y hy kc kr => w_X9_daysGo_s2 C hRO hl l0 l1 s.1 s.2 hy kc (fun e' he => kx e' (kr _ he).symm))
set_option maxRecDepth 100000 in
set_option maxHeartbeats 4000000 in
theorem w_X9_daysGo {X : CX} {y : Mem} (C : CK X cX9_daysGo 3 RX9 12 257) (hRO : RO X.2.2.1 X.1.2.2.2.2.1 X.1.2.2.2.2.1.heap) (hl : X.1.2.1.stackTraces = false) (l0 : Nat) (l1 : Int32) (M : Mem) (h : F_X9_daysGo l0 l1 M = some y) (kf : FIN X none (rs_mV y) (ms_mV y)) : wq X 3 0 [(0, .ref l0), (1, .int l1)] [] M := by
  unfold F_X9_daysGo at h
  refine q_iconst (v := (0 : Int32)) C dX9_daysGo_0 (by decide) ?_
  refine q_istore_n (i := 2) (lv' := [(2, .int (0 : Int32)), (0, .ref l0), (1, .int l1)]) C dX9_daysGo_1 rfl (by decide) rfl ?_
  obtain ⟨M8, e7, h⟩ := bindE h
  refine q_sub (lv' := [(0, .ref l0), (1, .int l1), (2, .int (0 : Int32))]) [1, 2, 0] rfl (w_X9_daysGo_l2 C hRO hl l0 l1 (0 : Int32) M e7 (fun r6 he => ?_))
  subst he
  show wq X 3 19 [] [] M8
  cases h
  exact q_vret C kf dX9_daysGo_19
theorem k_X9_daysGo (l : Launch) (hl : l.stackTraces = false) (G : GG) (l0 : Nat) (l1 : Int32) (M : Mem) (x : Mem) (h : F_X9_daysGo l0 l1 M = some x) : Ct l G yX9_daysGo (.code yX9_daysGo cX9_daysGo 3 none) 12 257 [.ref l0, .int l1] M (rs_mV x) (ms_mV x) := by
  refine Ct_of (by decide +kernel) (Nat.le_of_ble_eq_true rfl) fun X e1 e2 e3 C FN hnm => ?_
  subst e1; subst e2
  show wq X 3 0 [(0, .ref l0), (1, .int l1)] [] M
  exact w_X9_daysGo C FN.2.2.2 hl l0 l1 M h FN
/-! X9_tries -/
set_option maxRecDepth 100000 in
set_option maxHeartbeats 4000000 in
theorem w_X9_tries_s2 {X : CX} {y : (Int32 × Mem) ⊕ (Mem)} (C : CK X cX9_tries 2 RX9 7 140) (hRO : RO X.2.2.1 X.1.2.2.2.2.1 X.1.2.2.2.2.1.heap) (hl : X.1.2.1.stackTraces = false) (l0 : Nat) (l1 : Int32) (M : Mem) (h : F_X9_tries_s2 l0 l1 M = some y) (kc : ∀ s' : Int32 × Mem, y = .inl s' → wq X 2 2 [(0, .ref l0), (1, .int (s'.1))] [] s'.2) (kx : ∀ e' : Mem, y = (.inr e') → wq X 2 29 [] [] e') : wq X 2 2 [(0, .ref l0), (1, .int l1)] [] M := by
  unfold F_X9_tries_s2 at h
  refine q_iload_n 1 C dX9_tries_2 rfl ?_
  refine q_bipush (v := (43 : Int32)) C dX9_tries_3 (by decide) ?_
  refine q_icmp_ge (tgt := 29) C dX9_tries_5 (by decide) (fun c1 => ?_) (fun c1 => ?_)
  · have h := ifT c1 h
    exact q_sub (lv' := []) [] rfl (kx M (someI h))
  · have h := ifF c1 h
    refine q_aload_n 0 C dX9_tries_8 rfl ?_
    obtain ⟨v2, e3, h⟩ := bindE h
    refine q_getP C fl_RX9_66 rfl e3 dX9_tries_9 ?_
    refine q_bipush (v := (43 : Int32)) C dX9_tries_12 (by decide) ?_
    refine q_iload_n 1 C dX9_tries_14 rfl ?_
    refine q_iadd C dX9_tries_15 ?_
    refine q_aload_n 0 C dX9_tries_16 rfl ?_
    obtain ⟨v4, e5, h⟩ := bindE h
    refine q_getP C fl_RX9_66 rfl e5 dX9_tries_17 ?_
    refine q_iload_n 1 C dX9_tries_20 rfl ?_
    obtain ⟨v6, e7, h⟩ := bindE h
    refine q_iaload C e7 dX9_tries_21 ?_
    obtain ⟨M8, e9, h⟩ := bindE h
    refine q_iastore C e9 dX9_tries_22 ?_
    refine q_iinc 1 (v := (l1 + (1 : Int32))) (lv' := [(1, .int (l1 + (1 : Int32))), (0, .ref l0)]) C dX9_tries_23 rfl rfl (by decide) rfl ?_
    refine q_goto (tgt := 2) C dX9_tries_26 (by decide) ?_
    exact q_sub (lv' := [(0, .ref l0), (1, .int (l1 + (1 : Int32)))]) [1, 0] rfl (kc ((l1 + (1 : Int32)), M8) (someI h))
theorem w_X9_tries_l2 {X : CX} {r : Mem} (C : CK X cX9_tries 2 RX9 7 140) (hRO : RO X.2.2.1 X.1.2.2.2.2.1 X.1.2.2.2.2.1.heap) (hl : X.1.2.1.stackTraces = false) (l0 : Nat) (l1 : Int32) (M : Mem) (h : loop (fun s => F_X9_tries_s2 l0 s.1 s.2) (l1, M) = some r) (kx : ∀ e' : Mem, r = e' → wq X 2 29 [] [] e') : wq X 2 2 [(0, .ref l0), (1, .int l1)] [] M :=
  loop_ind (P := fun s => wq X 2 2 [(0, .ref l0), (1, .int s.1)] [] s.2) h (fun s y hy kc kr => w_X9_tries_s2 C hRO hl l0 s.1 s.2 hy kc (fun e' he => kx e' (kr _ he).symm))
set_option maxRecDepth 100000 in
set_option maxHeartbeats 4000000 in
theorem w_X9_tries {X : CX} {y : Mem} (C : CK X cX9_tries 2 RX9 7 140) (hRO : RO X.2.2.1 X.1.2.2.2.2.1 X.1.2.2.2.2.1.heap) (hl : X.1.2.1.stackTraces = false) (l0 : Nat) (M : Mem) (h : F_X9_tries l0 M = some y) (kf : FIN X none (rs_mV y) (ms_mV y)) : wq X 2 0 [(0, .ref l0)] [] M := by
  unfold F_X9_tries at h
  refine q_iconst (v := (0 : Int32)) C dX9_tries_0 (by decide) ?_
  refine q_istore_n (i := 1) (lv' := [(1, .int (0 : Int32)), (0, .ref l0)]) C dX9_tries_1 rfl (by decide) rfl ?_
  obtain ⟨M12, e11, h⟩ := bindE h
  refine q_sub (lv' := [(0, .ref l0), (1, .int (0 : Int32))]) [1, 0] rfl (w_X9_tries_l2 C hRO hl l0 (0 : Int32) M e11 (fun r10 he => ?_))
  subst he
  show wq X 2 29 [] [] M12
  cases h
  exact q_vret C kf dX9_tries_29
theorem k_X9_tries (l : Launch) (hl : l.stackTraces = false) (G : GG) (l0 : Nat) (M : Mem) (x : Mem) (h : F_X9_tries l0 M = some x) : Ct l G yX9_tries (.code yX9_tries cX9_tries 2 none) 7 140 [.ref l0] M (rs_mV x) (ms_mV x) := by
  refine Ct_of (by decide +kernel) (Nat.le_of_ble_eq_true rfl) fun X e1 e2 e3 C FN hnm => ?_
  subst e1; subst e2
  show wq X 2 0 [(0, .ref l0)] [] M
  exact w_X9_tries C FN.2.2.2 hl l0 M h FN
/-! X9_goesTo -/
set_option maxRecDepth 100000 in
set_option maxHeartbeats 4000000 in
theorem w_X9_goesTo {X : CX} {y : Mem} (C : CK X cX9_goesTo 2 RX9 13 279) (hRO : RO X.2.2.1 X.1.2.2.2.2.1 X.1.2.2.2.2.1.heap) (hl : X.1.2.1.stackTraces = false) (l0 : Nat) (l1 : Int32) (M : Mem) (h : F_X9_goesTo l0 l1 M = some y) (kf : FIN X none (rs_mV y) (ms_mV y)) : wq X 2 0 [(0, .ref l0), (1, .int l1)] [] M := by
  unfold F_X9_goesTo at h
  refine q_aload_n 0 C dX9_goesTo_0 rfl ?_
  obtain ⟨e1, h⟩ := ckOE h
  obtain ⟨M3, e2, h⟩ := bindE h
  refine q_callV (v := none) [] C hRO lk_RX9_391 vk_X9_tries e1 rfl rfl rfl (Nat.le_of_ble_eq_true rfl) (by decide) (by decide) dX9_goesTo_1 (k_X9_tries X.1.2.1 hl X.2.2.1 l0 M _ e2) ?_
  refine q_aload_n 0 C dX9_goesTo_4 rfl ?_
  refine q_iload_n 1 C dX9_goesTo_5 rfl ?_
  obtain ⟨e5, h⟩ := ckOE h
  obtain ⟨M7, e6, h⟩ := bindE h
  refine q_callV (v := none) [.int l1] C hRO lk_RX9_394 vk_X9_daysGo e5 rfl rfl rfl (Nat.le_of_ble_eq_true rfl) (by decide) (by decide) dX9_goesTo_6 (k_X9_daysGo X.1.2.1 hl X.2.2.1 l0 l1 M3 _ e6) ?_
  cases h
  exact q_vret C kf dX9_goesTo_9
theorem k_X9_goesTo (l : Launch) (hl : l.stackTraces = false) (G : GG) (l0 : Nat) (l1 : Int32) (M : Mem) (x : Mem) (h : F_X9_goesTo l0 l1 M = some x) : Ct l G yX9_goesTo (.code yX9_goesTo cX9_goesTo 2 none) 13 279 [.ref l0, .int l1] M (rs_mV x) (ms_mV x) := by
  refine Ct_of (by decide +kernel) (Nat.le_of_ble_eq_true rfl) fun X e1 e2 e3 C FN hnm => ?_
  subst e1; subst e2
  show wq X 2 0 [(0, .ref l0), (1, .int l1)] [] M
  exact w_X9_goesTo C FN.2.2.2 hl l0 l1 M h FN
/-! X9_right -/
set_option maxRecDepth 100000 in
set_option maxHeartbeats 4000000 in
theorem w_X9_right_j16 {X : CX} {y : Int32 × Mem} (C : CK X cX9_right 3 RX9 7 140) (hRO : RO X.2.2.1 X.1.2.2.2.2.1 X.1.2.2.2.2.1.heap) (hl : X.1.2.1.stackTraces = false) (l0 : Nat) (M : Mem) (h : F_X9_right_j16 l0 M = some y) (kf : FIN X (some .boolean) (rs_mI y) (ms_mI y)) : wq X 3 16 [(0, .ref l0)] [] M := by
  unfold F_X9_right_j16 at h
  refine q_aload_n 0 C dX9_right_16 rfl ?_
  obtain ⟨v4, e5, h⟩ := bindE h
  refine q_getI C fl_RX9_111 rfl e5 dX9_right_17 ?_
  refine q_if_ne (tgt := 27) C dX9_right_20 (by decide) (fun c6 => ?_) (fun c6 => ?_)
  · have h := ifF c6 h
    refine q_iconst (v := (0 : Int32)) C dX9_right_27 (by decide) ?_
    cases h
    exact q_zretE (w := (0 : Int32)) (by decide) C kf dX9_right_28
  · have h := ifT c6 h
    refine q_iconst (v := (1 : Int32)) C dX9_right_23 (by decide) ?_
    refine q_goto (tgt := 28) C dX9_right_24 (by decide) ?_
    cases h
    exact q_zretE (w := (1 : Int32)) (by decide) C kf dX9_right_28
set_option maxRecDepth 100000 in
set_option maxHeartbeats 4000000 in
theorem w_X9_right {X : CX} {y : Int32 × Mem} (C : CK X cX9_right 3 RX9 7 140) (hRO : RO X.2.2.1 X.1.2.2.2.2.1 X.1.2.2.2.2.1.heap) (hl : X.1.2.1.stackTraces = false) (l0 : Nat) (l1 : Int32) (l2 : Int32) (M : Mem) (h : F_X9_right l0 l1 l2 M = some y) (kf : FIN X (some .boolean) (rs_mI y) (ms_mI y)) : wq X 3 0 [(0, .ref l0), (1, .int l1), (2, .int l2)] [] M := by
  unfold F_X9_right at h
  refine q_aload_n 0 C dX9_right_0 rfl ?_
  obtain ⟨v1, e2, h⟩ := bindE h
  refine q_getI C fl_RX9_111 rfl e2 dX9_right_1 ?_
  refine q_if_ne (tgt := 16) C dX9_right_4 (by decide) (fun c3 => ?_) (fun c3 => ?_)
  · have h := ifF c3 h
    exact q_sub (lv' := [(0, .ref l0)]) [0] rfl (w_X9_right_j16 C hRO hl l0 M h kf)
  · have h := ifT c3 h
    refine q_iload_n 1 C dX9_right_7 rfl ?_
    refine q_if_ne (tgt := 16) C dX9_right_8 (by decide) (fun c7 => ?_) (fun c7 => ?_)
    · have h := ifF c7 h
      exact q_sub (lv' := [(0, .ref l0)]) [0] rfl (w_X9_right_j16 C hRO hl l0 M h kf)
    · have h := ifT c7 h
      refine q_aload_n 0 C dX9_right_11 rfl ?_
      refine q_iload_n 2 C dX9_right_12 rfl ?_
      obtain ⟨M8, e9, h⟩ := bindE h
      refine q_putI C fp_RX9_111 rfl e9 dX9_right_13 ?_
      exact q_sub (lv' := [(0, .ref l0)]) [0] rfl (w_X9_right_j16 C hRO hl l0 M8 h kf)
theorem k_X9_right (l : Launch) (hl : l.stackTraces = false) (G : GG) (l0 : Nat) (l1 : Int32) (l2 : Int32) (M : Mem) (x : Int32 × Mem) (h : F_X9_right l0 l1 l2 M = some x) : Ct l G yX9_right (.code yX9_right cX9_right 3 (some .boolean)) 7 140 [.ref l0, .int l1, .int l2] M (rs_mI x) (ms_mI x) := by
  refine Ct_of (by decide +kernel) (Nat.le_of_ble_eq_true rfl) fun X e1 e2 e3 C FN hnm => ?_
  subst e1; subst e2
  show wq X 3 0 [(0, .ref l0), (1, .int l1), (2, .int l2)] [] M
  exact w_X9_right C FN.2.2.2 hl l0 l1 l2 M h FN
/-! X9_within -/
set_option maxRecDepth 100000 in
set_option maxHeartbeats 4000000 in
theorem w_X9_within {X : CX} {y : Int32} (C : CK X cX9_within 3 RX9 7 140) (hRO : RO X.2.2.1 X.1.2.2.2.2.1 X.1.2.2.2.2.1.heap) (hl : X.1.2.1.stackTraces = false) (l0 : Int32) (l1 : Int32) (l2 : Int32) (M : Mem) (h : F_X9_within l0 l1 l2 M = some y) (kf : FIN X (some .boolean) (rs_pI y) M) : wq X 3 0 [(0, .int l0), (1, .int l1), (2, .int l2)] [] M := by
  unfold F_X9_within at h
  refine q_iload_n 0 C dX9_within_0 rfl ?_
  refine q_iload_n 1 C dX9_within_1 rfl ?_
  refine q_icmp_lt (tgt := 14) C dX9_within_2 (by decide) (fun c1 => ?_) (fun c1 => ?_)
  · have h := ifT c1 h
    refine q_iconst (v := (0 : Int32)) C dX9_within_14 (by decide) ?_
    cases h
    exact q_zretE (w := (0 : Int32)) (by decide) C kf dX9_within_15
  · have h := ifF c1 h
    refine q_iload_n 0 C dX9_within_5 rfl ?_
    refine q_iload_n 2 C dX9_within_6 rfl ?_
    refine q_icmp_gt (tgt := 14) C dX9_within_7 (by decide) (fun c2 => ?_) (fun c2 => ?_)
    · have h := ifT c2 h
      refine q_iconst (v := (0 : Int32)) C dX9_within_14 (by decide) ?_
      cases h
      exact q_zretE (w := (0 : Int32)) (by decide) C kf dX9_within_15
    · have h := ifF c2 h
      refine q_iconst (v := (1 : Int32)) C dX9_within_10 (by decide) ?_
      refine q_goto (tgt := 15) C dX9_within_11 (by decide) ?_
      cases h
      exact q_zretE (w := (1 : Int32)) (by decide) C kf dX9_within_15
theorem k_X9_within (l : Launch) (hl : l.stackTraces = false) (G : GG) (l0 : Int32) (l1 : Int32) (l2 : Int32) (M : Mem) (x : Int32) (h : F_X9_within l0 l1 l2 M = some x) : Ct l G yX9_within (.code yX9_within cX9_within 3 (some .boolean)) 7 140 [.int l0, .int l1, .int l2] M (rs_pI x) M := by
  refine Ct_of (by decide +kernel) (Nat.le_of_ble_eq_true rfl) fun X e1 e2 e3 C FN hnm => ?_
  subst e1; subst e2
  show wq X 3 0 [(0, .int l0), (1, .int l1), (2, .int l2)] [] M
  exact w_X9_within C FN.2.2.2 hl l0 l1 l2 M h FN
/-! X9_isDays -/
set_option maxRecDepth 100000 in
set_option maxHeartbeats 4000000 in
theorem w_X9_isDays {X : CX} {y : Int32 × Mem} (C : CK X cX9_isDays 4 RX9 8 162) (hRO : RO X.2.2.1 X.1.2.2.2.2.1 X.1.2.2.2.2.1.heap) (hl : X.1.2.1.stackTraces = false) (l0 : Nat) (l1 : Int32) (l2 : Int32) (l3 : Int32) (M : Mem) (h : F_X9_isDays l0 l1 l2 l3 M = some y) (kf : FIN X (some .boolean) (rs_mI y) (ms_mI y)) : wq X 4 0 [(0, .ref l0), (1, .int l1), (2, .int l2), (3, .int l3)] [] M := by
  unfold F_X9_isDays at h
  refine q_aload_n 0 C dX9_isDays_0 rfl ?_
  refine q_iload_n 1 C dX9_isDays_1 rfl ?_
  refine q_iload_n 2 C dX9_isDays_2 rfl ?_
  refine q_bipush (v := (40 : Int32)) C dX9_isDays_3 (by decide) ?_
  obtain ⟨v2, e1, h⟩ := bindE h
  refine q_callS (v := some (.int v2)) [.int l1, .int l2, .int (40 : Int32)] C hRO lk_RX9_345 sk_X9_within rfl rfl (Nat.le_of_ble_eq_true rfl) (by decide) (by decide) dX9_isDays_5 (k_X9_within X.1.2.1 hl X.2.2.1 l1 l2 (40 : Int32) M _ e1) ?_
  refine q_iload_n 3 C dX9_isDays_8 rfl ?_
  obtain ⟨e3, h⟩ := ckOE h
  obtain ⟨v6, M5, e4, h⟩ := bd2E h
  refine q_callV (v := some (.int v6)) [.int v2, .int l3] C hRO lk_RX9_268 vk_X9_right e3 rfl rfl rfl (Nat.le_of_ble_eq_true rfl) (by decide) (by decide) dX9_isDays_9 (k_X9_right X.1.2.1 hl X.2.2.1 l0 v2 l3 M _ e4) ?_
  cases h
  exact q_zretE (w := (nz v6)) rfl C kf dX9_isDays_12
theorem k_X9_isDays (l : Launch) (hl : l.stackTraces = false) (G : GG) (l0 : Nat) (l1 : Int32) (l2 : Int32) (l3 : Int32) (M : Mem) (x : Int32 × Mem) (h : F_X9_isDays l0 l1 l2 l3 M = some x) : Ct l G yX9_isDays (.code yX9_isDays cX9_isDays 4 (some .boolean)) 8 162 [.ref l0, .int l1, .int l2, .int l3] M (rs_mI x) (ms_mI x) := by
  refine Ct_of (by decide +kernel) (Nat.le_of_ble_eq_true rfl) fun X e1 e2 e3 C FN hnm => ?_
  subst e1; subst e2
  show wq X 4 0 [(0, .ref l0), (1, .int l1), (2, .int l2), (3, .int l3)] [] M
  exact w_X9_isDays C FN.2.2.2 hl l0 l1 l2 l3 M h FN
/-! X9_houseOf -/
set_option maxRecDepth 100000 in
set_option maxHeartbeats 4000000 in
theorem w_X9_houseOf_s2 {X : CX} {y : (Int32) ⊕ ((Unit) ⊕ (Int32))} (C : CK X cX9_houseOf 4 RX9 7 140) (hRO : RO X.2.2.1 X.1.2.2.2.2.1 X.1.2.2.2.2.1.heap) (hl : X.1.2.1.stackTraces = false) (l0 : Nat) (l1 : Int32) (l2 : Int32) (M : Mem) (l3 : Int32) (h : F_X9_houseOf_s2 l0 l1 l2 M l3 = some y) (kc : ∀ s' : Int32, y = .inl s' → wq X 4 2 [(0, .ref l0), (1, .int l1), (2, .int l2), (3, .int (s'))] [] M) (kx : ∀ e' : Unit, y = (.inr (.inl e')) → wq X 4 33 [] [] M) (kf : ∀ f' : Int32, y = (.inr (.inr f')) → FIN X (some .int) (rs_pI f') M) : wq X 4 2 [(0, .ref l0), (1, .int l1), (2, .int l2), (3, .int l3)] [] M := by
  unfold F_X9_houseOf_s2 at h
  refine q_iload_n 3 C dX9_houseOf_2 rfl ?_
  refine q_aload_n 0 C dX9_houseOf_3 rfl ?_
  obtain ⟨v1, e2, h⟩ := bindE h
  refine q_getI C fl_RX9_275 rfl e2 dX9_houseOf_4 ?_
  refine q_icmp_ge (tgt := 33) C dX9_houseOf_7 (by decide) (fun c3 => ?_) (fun c3 => ?_)
  · have h := ifT c3 h
    exact q_sub (lv' := []) [] rfl (kx () (someI h))
  · have h := ifF c3 h
    refine q_aload_n 0 C dX9_houseOf_10 rfl ?_
    obtain ⟨v4, e5, h⟩ := bindE h
    refine q_getP C fl_RX9_66 rfl e5 dX9_houseOf_11 ?_
    refine q_iload_n 1 C dX9_houseOf_14 rfl ?_
    refine q_bipush (v := (19 : Int32)) C dX9_houseOf_15 (by decide) ?_
    refine q_iadd C dX9_houseOf_17 ?_
    refine q_iload_n 3 C dX9_houseOf_18 rfl ?_
    refine q_iadd C dX9_houseOf_19 ?_
    obtain ⟨v6, e7, h⟩ := bindE h
    refine q_iaload C e7 dX9_houseOf_20 ?_
    refine q_iload_n 2 C dX9_houseOf_21 rfl ?_
    refine q_icmp_ne (tgt := 27) C dX9_houseOf_22 (by decide) (fun c8 => ?_) (fun c8 => ?_)
    · have h := ifF c8 h
      refine q_iinc 3 (v := (l3 + (1 : Int32))) (lv' := [(3, .int (l3 + (1 : Int32))), (0, .ref l0), (1, .int l1), (2, .int l2)]) C dX9_houseOf_27 rfl rfl (by decide) rfl ?_
      refine q_goto (tgt := 2) C dX9_houseOf_30 (by decide) ?_
      exact q_sub (lv' := [(0, .ref l0), (1, .int l1), (2, .int l2), (3, .int (l3 + (1 : Int32)))]) [1, 2, 3, 0] rfl (kc (l3 + (1 : Int32)) (someI h))
    · have h := ifT c8 h
      refine q_iload_n 3 C dX9_houseOf_25 rfl ?_
      exact q_iret C (kf _ (someI h)) dX9_houseOf_26
theorem w_X9_houseOf_l2 {X : CX} {r : (Unit) ⊕ (Int32)} (C : CK X cX9_houseOf 4 RX9 7 140) (hRO : RO X.2.2.1 X.1.2.2.2.2.1 X.1.2.2.2.2.1.heap) (hl : X.1.2.1.stackTraces = false) (l0 : Nat) (l1 : Int32) (l2 : Int32) (M : Mem) (l3 : Int32) (h : loop (fun s => F_X9_houseOf_s2 l0 l1 l2 M s) l3 = some r) (kx : ∀ e' : Unit, r = .inl e' → wq X 4 33 [] [] M) (kf : ∀ f' : Int32, r = .inr f' → FIN X (some .int) (rs_pI f') M) : wq X 4 2 [(0, .ref l0), (1, .int l1), (2, .int l2), (3, .int l3)] [] M :=
  loop_ind (P := fun s => wq X 4 2 [(0, .ref l0), (1, .int l1), (2, .int l2), (3, .int s)] [] M) h (fun s y hy kc kr => w_X9_houseOf_s2 C hRO hl l0 l1 l2 M s hy kc (fun e' he => kx e' (kr _ he).symm) (fun f' he => kf f' (kr _ he).symm))
set_option maxRecDepth 100000 in
set_option maxHeartbeats 4000000 in
theorem w_X9_houseOf {X : CX} {y : Int32} (C : CK X cX9_houseOf 4 RX9 7 140) (hRO : RO X.2.2.1 X.1.2.2.2.2.1 X.1.2.2.2.2.1.heap) (hl : X.1.2.1.stackTraces = false) (l0 : Nat) (l1 : Int32) (l2 : Int32) (M : Mem) (h : F_X9_houseOf l0 l1 l2 M = some y) (kf : FIN X (some .int) (rs_pI y) M) : wq X 4 0 [(0, .ref l0), (1, .int l1), (2, .int l2)] [] M := by
  unfold F_X9_houseOf at h
  refine q_iconst (v := (0 : Int32)) C dX9_houseOf_0 (by decide) ?_
  refine q_istore_n (i := 3) (lv' := [(3, .int (0 : Int32)), (0, .ref l0), (1, .int l1), (2, .int l2)]) C dX9_houseOf_1 rfl (by decide) rfl ?_
  obtain ⟨r9, e10, h⟩ := bindE h
  refine q_sub (lv' := [(0, .ref l0), (1, .int l1), (2, .int l2), (3, .int (0 : Int32))]) [1, 2, 3, 0] rfl (w_X9_houseOf_l2 C hRO hl l0 l1 l2 M (0 : Int32) e10 (fun q11 he => ?_) (fun f12 he => ?_))
  · subst he
    have h := elimL h
    show wq X 4 33 [] [] M
    refine q_iconst (v := (-1 : Int32)) C dX9_houseOf_33 (by decide) ?_
    cases h
    exact q_iret C kf dX9_houseOf_34
  · subst he
    have h := elimR h
    cases h
    exact kf
theorem k_X9_houseOf (l : Launch) (hl : l.stackTraces = false) (G : GG) (l0 : Nat) (l1 : Int32) (l2 : Int32) (M : Mem) (x : Int32) (h : F_X9_houseOf l0 l1 l2 M = some x) : Ct l G yX9_houseOf (.code yX9_houseOf cX9_houseOf 4 (some .int)) 7 140 [.ref l0, .int l1, .int l2] M (rs_pI x) M := by
  refine Ct_of (by decide +kernel) (Nat.le_of_ble_eq_true rfl) fun X e1 e2 e3 C FN hnm => ?_
  subst e1; subst e2
  show wq X 4 0 [(0, .ref l0), (1, .int l1), (2, .int l2)] [] M
  exact w_X9_houseOf C FN.2.2.2 hl l0 l1 l2 M h FN
/-! X9_lodgersIn -/
set_option maxRecDepth 100000 in
set_option maxHeartbeats 4000000 in
theorem w_X9_lodgersIn_s4 {X : CX} {y : (Int32 × Int32) ⊕ (Int32)} (C : CK X cX9_lodgersIn 4 RX9 8 163) (hRO : RO X.2.2.1 X.1.2.2.2.2.1 X.1.2.2.2.2.1.heap) (hl : X.1.2.1.stackTraces = false) (l0 : Nat) (l1 : Int32) (M : Mem) (l2 : Int32) (l3 : Int32) (h : F_X9_lodgersIn_s4 l0 l1 M l2 l3 = some y) (kc : ∀ s' : Int32 × Int32, y = .inl s' → wq X 4 4 [(0, .ref l0), (1, .int l1), (2, .int (s'.1)), (3, .int (s'.2))] [] M) (kx : ∀ e' : Int32, y = (.inr e') → wq X 4 38 [(2, .int (e'))] [] M) : wq X 4 4 [(0, .ref l0), (1, .int l1), (2, .int l2), (3, .int l3)] [] M := by
  unfold F_X9_lodgersIn_s4 at h
  refine q_iload_n 3 C dX9_lodgersIn_4 rfl ?_
  refine q_aload_n 0 C dX9_lodgersIn_5 rfl ?_
  obtain ⟨v1, e2, h⟩ := bindE h
  refine q_getI C fl_RX9_278 rfl e2 dX9_lodgersIn_6 ?_
  refine q_icmp_ge (tgt := 38) C dX9_lodgersIn_9 (by decide) (fun c3 => ?_) (fun c3 => ?_)
  · have h := ifT c3 h
    exact q_sub (lv' := [(2, .int l2)]) [2] rfl (kx l2 (someI h))
  · have h := ifF c3 h
    refine q_iload_n 2 C dX9_lodgersIn_12 rfl ?_
    refine q_aload_n 0 C dX9_lodgersIn_13 rfl ?_
    refine q_iload_n 1 C dX9_lodgersIn_14 rfl ?_
    refine q_iload_n 3 C dX9_lodgersIn_15 rfl ?_
    obtain ⟨e4, h⟩ := ckOE h
    obtain ⟨v6, e5, h⟩ := bindE h
    refine q_callV (v := some (.int v6)) [.int l1, .int l3] C hRO lk_RX9_339 vk_X9_houseOf e4 rfl rfl rfl (Nat.le_of_ble_eq_true rfl) (by decide) (by decide) dX9_lodgersIn_16 (k_X9_houseOf X.1.2.1 hl X.2.2.1 l0 l1 l3 M _ e5) ?_
    refine q_iconst (v := (-1 : Int32)) C dX9_lodgersIn_19 (by decide) ?_
    refine q_icmp_ne (tgt := 29) C dX9_lodgersIn_20 (by decide) (fun c7 => ?_) (fun c7 => ?_)
    · have h := ifF c7 h
      refine q_iconst (v := (0 : Int32)) C dX9_lodgersIn_29 (by decide) ?_
      refine q_ior C dX9_lodgersIn_30 ?_
      refine q_istore_n (i := 2) (lv' := [(2, .int (l2 ||| (0 : Int32))), (0, .ref l0), (1, .int l1), (3, .int l3)]) C dX9_lodgersIn_31 rfl (by decide) rfl ?_
      refine q_iinc 3 (v := (l3 + (1 : Int32))) (lv' := [(3, .int (l3 + (1 : Int32))), (2, .int (l2 ||| (0 : Int32))), (0, .ref l0), (1, .int l1)]) C dX9_lodgersIn_32 rfl rfl (by decide) rfl ?_
      refine q_goto (tgt := 4) C dX9_lodgersIn_35 (by decide) ?_
      exact q_sub (lv' := [(0, .ref l0), (1, .int l1), (2, .int (l2 ||| (0 : Int32))), (3, .int (l3 + (1 : Int32)))]) [2, 3, 1, 0] rfl (kc ((l2 ||| (0 : Int32)), (l3 + (1 : Int32))) (someI h))
    · have h := ifT c7 h
      refine q_iconst (v := (1 : Int32)) C dX9_lodgersIn_23 (by decide) ?_
      refine q_iload_n 3 C dX9_lodgersIn_24 rfl ?_
      refine q_ishl C dX9_lodgersIn_25 ?_
      refine q_goto (tgt := 30) C dX9_lodgersIn_26 (by decide) ?_
      refine q_ior C dX9_lodgersIn_30 ?_
      obtain ⟨n8, e9, h⟩ := nmE h
      refine q_topI e9 ?_
      refine q_istore_n (i := 2) (lv' := [(2, .int n8), (0, .ref l0), (1, .int l1), (3, .int l3)]) C dX9_lodgersIn_31 rfl (by decide) rfl ?_
      refine q_iinc 3 (v := (l3 + (1 : Int32))) (lv' := [(3, .int (l3 + (1 : Int32))), (2, .int n8), (0, .ref l0), (1, .int l1)]) C dX9_lodgersIn_32 rfl rfl (by decide) rfl ?_
      refine q_goto (tgt := 4) C dX9_lodgersIn_35 (by decide) ?_
      exact q_sub (lv' := [(0, .ref l0), (1, .int l1), (2, .int n8), (3, .int (l3 + (1 : Int32)))]) [2, 3, 1, 0] rfl (kc (n8, (l3 + (1 : Int32))) (someI h))
theorem w_X9_lodgersIn_l4 {X : CX} {r : Int32} (C : CK X cX9_lodgersIn 4 RX9 8 163) (hRO : RO X.2.2.1 X.1.2.2.2.2.1 X.1.2.2.2.2.1.heap) (hl : X.1.2.1.stackTraces = false) (l0 : Nat) (l1 : Int32) (M : Mem) (l2 : Int32) (l3 : Int32) (h : loop (fun s => F_X9_lodgersIn_s4 l0 l1 M s.1 s.2) (l2, l3) = some r) (kx : ∀ e' : Int32, r = e' → wq X 4 38 [(2, .int (e'))] [] M) : wq X 4 4 [(0, .ref l0), (1, .int l1), (2, .int l2), (3, .int l3)] [] M :=
  loop_ind (P := fun s => wq X 4 4 [(0, .ref l0), (1, .int l1), (2, .int s.1), (3, .int s.2)] [] M) h (fun s y hy kc kr => w_X9_lodgersIn_s4 C hRO hl l0 l1 M s.1 s.2 hy kc (fun e' he => kx e' (kr _ he).symm))
set_option maxRecDepth 100000 in
set_option maxHeartbeats 4000000 in
theorem w_X9_lodgersIn {X : CX} {y : Int32} (C : CK X cX9_lodgersIn 4 RX9 8 163) (hRO : RO X.2.2.1 X.1.2.2.2.2.1 X.1.2.2.2.2.1.heap) (hl : X.1.2.1.stackTraces = false) (l0 : Nat) (l1 : Int32) (M : Mem) (h : F_X9_lodgersIn l0 l1 M = some y) (kf : FIN X (some .int) (rs_pI y) M) : wq X 4 0 [(0, .ref l0), (1, .int l1)] [] M := by
  unfold F_X9_lodgersIn at h
  refine q_iconst (v := (0 : Int32)) C dX9_lodgersIn_0 (by decide) ?_
  refine q_istore_n (i := 2) (lv' := [(2, .int (0 : Int32)), (0, .ref l0), (1, .int l1)]) C dX9_lodgersIn_1 rfl (by decide) rfl ?_
  refine q_iconst (v := (0 : Int32)) C dX9_lodgersIn_2 (by decide) ?_
  refine q_istore_n (i := 3) (lv' := [(3, .int (0 : Int32)), (2, .int (0 : Int32)), (0, .ref l0), (1, .int l1)]) C dX9_lodgersIn_3 rfl (by decide) rfl ?_
  obtain ⟨x12, e11, h⟩ := bindE h
  refine q_sub (lv' := [(0, .ref l0), (1, .int l1), (2, .int (0 : Int32)), (3, .int (0 : Int32))]) [2, 3, 1, 0] rfl (w_X9_lodgersIn_l4 C hRO hl l0 l1 M (0 : Int32) (0 : Int32) e11 (fun r10 he => ?_))
  subst he
  show wq X 4 38 [(2, .int x12)] [] M
  refine q_iload_n 0 C dX9_lodgersIn_38 rfl ?_
  cases h
  exact q_iret C kf dX9_lodgersIn_39
theorem k_X9_lodgersIn (l : Launch) (hl : l.stackTraces = false) (G : GG) (l0 : Nat) (l1 : Int32) (M : Mem) (x : Int32) (h : F_X9_lodgersIn l0 l1 M = some x) : Ct l G yX9_lodgersIn (.code yX9_lodgersIn cX9_lodgersIn 4 (some .int)) 8 163 [.ref l0, .int l1] M (rs_pI x) M := by
  refine Ct_of (by decide +kernel) (Nat.le_of_ble_eq_true rfl) fun X e1 e2 e3 C FN hnm => ?_
  subst e1; subst e2
  show wq X 4 0 [(0, .ref l0), (1, .int l1)] [] M
  exact w_X9_lodgersIn C FN.2.2.2 hl l0 l1 M h FN
/-! X9_barefoot -/
set_option maxRecDepth 100000 in
set_option maxHeartbeats 4000000 in
theorem w_X9_barefoot {X : CX} {y : Int32 × Mem} (C : CK X cX9_barefoot 2 RX9 14 300) (hRO : RO X.2.2.1 X.1.2.2.2.2.1 X.1.2.2.2.2.1.heap) (hl : X.1.2.1.stackTraces = false) (l0 : Nat) (l1 : Int32) (M : Mem) (h : F_X9_barefoot l0 l1 M = some y) (kf : FIN X (some .int) (rs_mI y) (ms_mI y)) : wq X 2 0 [(0, .ref l0), (1, .int l1)] [] M := by
  unfold F_X9_barefoot at h
  refine q_aload_n 0 C dX9_barefoot_0 rfl ?_
  refine q_iconst (v := (0 : Int32)) C dX9_barefoot_1 (by decide) ?_
  obtain ⟨M1, e2, h⟩ := bindE h
  refine q_putI C fp_RX9_111 rfl e2 dX9_barefoot_2 ?_
  refine q_aload_n 0 C dX9_barefoot_5 rfl ?_
  refine q_iload_n 1 C dX9_barefoot_6 rfl ?_
  refine q_iconst (v := (0 : Int32)) C dX9_barefoot_7 (by decide) ?_
  refine q_iconst (v := (1 : Int32)) C dX9_barefoot_8 (by decide) ?_
  obtain ⟨e3, h⟩ := ckOE h
  obtain ⟨v6, M5, e4, h⟩ := bd2E h
  refine q_callV (v := some (.int v6)) [.int l1, .int (0 : Int32), .int (1 : Int32)] C hRO lk_RX9_397 vk_X9_isDays e3 rfl rfl rfl (Nat.le_of_ble_eq_true rfl) (by decide) (by decide) dX9_barefoot_9 (k_X9_isDays X.1.2.1 hl X.2.2.1 l0 l1 (0 : Int32) (1 : Int32) M1 _ e4) ?_
  refine q_if_ne (tgt := 17) C dX9_barefoot_12 (by decide) (fun c7 => ?_) (fun c7 => ?_)
  · have h := ifF c7 h
    refine q_aload_n 0 C dX9_barefoot_17 rfl ?_
    refine q_iload_n 1 C dX9_barefoot_18 rfl ?_
    obtain ⟨e8, h⟩ := ckOE h
    obtain ⟨M10, e9, h⟩ := bindE h
    refine q_callV (v := none) [.int l1] C hRO lk_RX9_400 vk_X9_goesTo e8 rfl rfl rfl (Nat.le_of_ble_eq_true rfl) (by decide) (by decide) dX9_barefoot_19 (k_X9_goesTo X.1.2.1 hl X.2.2.1 l0 l1 M5 _ e9) ?_
    refine q_aload_n 0 C dX9_barefoot_22 rfl ?_
    refine q_bipush (v := (43 : Int32)) C dX9_barefoot_23 (by decide) ?_
    obtain ⟨e12, h⟩ := ckOE h
    obtain ⟨v14, e13, h⟩ := bindE h
    refine q_callV (v := some (.int v14)) [.int (43 : Int32)] C hRO lk_RX9_352 vk_X9_lodgersIn e12 rfl rfl rfl (Nat.le_of_ble_eq_true rfl) (by decide) (by decide) dX9_barefoot_25 (k_X9_lodgersIn X.1.2.1 hl X.2.2.1 l0 (43 : Int32) M10 _ e13) ?_
    cases h
    exact q_iret C kf dX9_barefoot_28
  · have h := ifT c7 h
    refine q_iconst (v := (0 : Int32)) C dX9_barefoot_15 (by decide) ?_
    cases h
    exact q_iret C kf dX9_barefoot_16
theorem k_X9_barefoot (l : Launch) (hl : l.stackTraces = false) (G : GG) (l0 : Nat) (l1 : Int32) (M : Mem) (x : Int32 × Mem) (h : F_X9_barefoot l0 l1 M = some x) : Ct l G yX9_barefoot (.code yX9_barefoot cX9_barefoot 2 (some .int)) 14 300 [.ref l0, .int l1] M (rs_mI x) (ms_mI x) := by
  refine Ct_of (by decide +kernel) (Nat.le_of_ble_eq_true rfl) fun X e1 e2 e3 C FN hnm => ?_
  subst e1; subst e2
  show wq X 2 0 [(0, .ref l0), (1, .int l1)] [] M
  exact w_X9_barefoot C FN.2.2.2 hl l0 l1 M h FN
/-! X9_isGood -/
set_option maxRecDepth 100000 in
set_option maxHeartbeats 4000000 in
theorem w_X9_isGood {X : CX} {y : Int32} (C : CK X cX9_isGood 1 RX9 7 140) (hRO : RO X.2.2.1 X.1.2.2.2.2.1 X.1.2.2.2.2.1.heap) (hl : X.1.2.1.stackTraces = false) (l0 : Nat) (M : Mem) (h : F_X9_isGood l0 M = some y) (kf : FIN X (some .boolean) (rs_pI y) M) : wq X 1 0 [(0, .ref l0)] [] M := by
  unfold F_X9_isGood at h
  refine q_aload_n 0 C dX9_isGood_0 rfl ?_
  obtain ⟨v1, e2, h⟩ := bindE h
  refine q_getI C fl_RX9_167 rfl e2 dX9_isGood_1 ?_
  refine q_if_ne (tgt := 11) C dX9_isGood_4 (by decide) (fun c3 => ?_) (fun c3 => ?_)
  · have h := ifF c3 h
    refine q_iconst (v := (0 : Int32)) C dX9_isGood_11 (by decide) ?_
    cases h
    exact q_zretE (w := (0 : Int32)) (by decide) C kf dX9_isGood_12
  · have h := ifT c3 h
    refine q_iconst (v := (1 : Int32)) C dX9_isGood_7 (by decide) ?_
    refine q_goto (tgt := 12) C dX9_isGood_8 (by decide) ?_
    cases h
    exact q_zretE (w := (1 : Int32)) (by decide) C kf dX9_isGood_12
theorem k_X9_isGood (l : Launch) (hl : l.stackTraces = false) (G : GG) (l0 : Nat) (M : Mem) (x : Int32) (h : F_X9_isGood l0 M = some x) : Ct l G yX9_isGood (.code yX9_isGood cX9_isGood 1 (some .boolean)) 7 140 [.ref l0] M (rs_pI x) M := by
  refine Ct_of (by decide +kernel) (Nat.le_of_ble_eq_true rfl) fun X e1 e2 e3 C FN hnm => ?_
  subst e1; subst e2
  show wq X 1 0 [(0, .ref l0)] [] M
  exact w_X9_isGood C FN.2.2.2 hl l0 M h FN
/-! X9_byteAt -/
set_option maxRecDepth 100000 in
set_option maxHeartbeats 4000000 in
theorem w_X9_byteAt {X : CX} {y : Int32} (C : CK X cX9_byteAt 2 RX9 7 140) (hRO : RO X.2.2.1 X.1.2.2.2.2.1 X.1.2.2.2.2.1.heap) (hl : X.1.2.1.stackTraces = false) (l0 : Nat) (l1 : Int32) (M : Mem) (h : F_X9_byteAt l0 l1 M = some y) (kf : FIN X (some .int) (rs_pI y) M) : wq X 2 0 [(0, .ref l0), (1, .int l1)] [] M := by
  unfold F_X9_byteAt at h
  refine q_iload_n 1 C dX9_byteAt_0 rfl ?_
  refine q_aload_n 0 C dX9_byteAt_1 rfl ?_
  obtain ⟨v1, e2, h⟩ := bindE h
  refine q_getI C fl_RX9_121 rfl e2 dX9_byteAt_2 ?_
  refine q_icmp_ge (tgt := 17) C dX9_byteAt_5 (by decide) (fun c3 => ?_) (fun c3 => ?_)
  · have h := ifT c3 h
    refine q_iconst (v := (0 : Int32)) C dX9_byteAt_17 (by decide) ?_
    cases h
    exact q_iret C kf dX9_byteAt_18
  · have h := ifF c3 h
    refine q_aload_n 0 C dX9_byteAt_8 rfl ?_
    obtain ⟨v4, e5, h⟩ := bindE h
    refine q_getP C fl_RX9_32 rfl e5 dX9_byteAt_9 ?_
    refine q_iload_n 1 C dX9_byteAt_12 rfl ?_
    obtain ⟨v6, e7, h⟩ := bindE h
    refine q_iaload C e7 dX9_byteAt_13 ?_
    refine q_goto (tgt := 18) C dX9_byteAt_14 (by decide) ?_
    cases h
    exact q_iret C kf dX9_byteAt_18
theorem k_X9_byteAt (l : Launch) (hl : l.stackTraces = false) (G : GG) (l0 : Nat) (l1 : Int32) (M : Mem) (x : Int32) (h : F_X9_byteAt l0 l1 M = some x) : Ct l G yX9_byteAt (.code yX9_byteAt cX9_byteAt 2 (some .int)) 7 140 [.ref l0, .int l1] M (rs_pI x) M := by
  refine Ct_of (by decide +kernel) (Nat.le_of_ble_eq_true rfl) fun X e1 e2 e3 C FN hnm => ?_
  subst e1; subst e2
  show wq X 2 0 [(0, .ref l0), (1, .int l1)] [] M
  exact w_X9_byteAt C FN.2.2.2 hl l0 l1 M h FN
/-! X9_isDigit -/
set_option maxRecDepth 100000 in
set_option maxHeartbeats 4000000 in
theorem w_X9_isDigit {X : CX} {y : Int32} (C : CK X cX9_isDigit 1 RX9 7 140) (hRO : RO X.2.2.1 X.1.2.2.2.2.1 X.1.2.2.2.2.1.heap) (hl : X.1.2.1.stackTraces = false) (l0 : Int32) (M : Mem) (h : F_X9_isDigit l0 M = some y) (kf : FIN X (some .boolean) (rs_pI y) M) : wq X 1 0 [(0, .int l0)] [] M := by
  unfold F_X9_isDigit at h
  refine q_iload_n 0 C dX9_isDigit_0 rfl ?_
  refine q_bipush (v := (48 : Int32)) C dX9_isDigit_1 (by decide) ?_
  refine q_icmp_lt (tgt := 16) C dX9_isDigit_3 (by decide) (fun c1 => ?_) (fun c1 => ?_)
  · have h := ifT c1 h
    refine q_iconst (v := (0 : Int32)) C dX9_isDigit_16 (by decide) ?_
    cases h
    exact q_zretE (w := (0 : Int32)) (by decide) C kf dX9_isDigit_17
  · have h := ifF c1 h
    refine q_iload_n 0 C dX9_isDigit_6 rfl ?_
    refine q_bipush (v := (57 : Int32)) C dX9_isDigit_7 (by decide) ?_
    refine q_icmp_gt (tgt := 16) C dX9_isDigit_9 (by decide) (fun c2 => ?_) (fun c2 => ?_)
    · have h := ifT c2 h
      refine q_iconst (v := (0 : Int32)) C dX9_isDigit_16 (by decide) ?_
      cases h
      exact q_zretE (w := (0 : Int32)) (by decide) C kf dX9_isDigit_17
    · have h := ifF c2 h
      refine q_iconst (v := (1 : Int32)) C dX9_isDigit_12 (by decide) ?_
      refine q_goto (tgt := 17) C dX9_isDigit_13 (by decide) ?_
      cases h
      exact q_zretE (w := (1 : Int32)) (by decide) C kf dX9_isDigit_17
theorem k_X9_isDigit (l : Launch) (hl : l.stackTraces = false) (G : GG) (l0 : Int32) (M : Mem) (x : Int32) (h : F_X9_isDigit l0 M = some x) : Ct l G yX9_isDigit (.code yX9_isDigit cX9_isDigit 1 (some .boolean)) 7 140 [.int l0] M (rs_pI x) M := by
  refine Ct_of (by decide +kernel) (Nat.le_of_ble_eq_true rfl) fun X e1 e2 e3 C FN hnm => ?_
  subst e1; subst e2
  show wq X 1 0 [(0, .int l0)] [] M
  exact w_X9_isDigit C FN.2.2.2 hl l0 M h FN
/-! X9_isLetter -/
set_option maxRecDepth 100000 in
set_option maxHeartbeats 4000000 in
theorem w_X9_isLetter {X : CX} {y : Int32} (C : CK X cX9_isLetter 1 RX9 7 140) (hRO : RO X.2.2.1 X.1.2.2.2.2.1 X.1.2.2.2.2.1.heap) (hl : X.1.2.1.stackTraces = false) (l0 : Int32) (M : Mem) (h : F_X9_isLetter l0 M = some y) (kf : FIN X (some .boolean) (rs_pI y) M) : wq X 1 0 [(0, .int l0)] [] M := by
  unfold F_X9_isLetter at h
  refine q_iload_n 0 C dX9_isLetter_0 rfl ?_
  refine q_bipush (v := (97 : Int32)) C dX9_isLetter_1 (by decide) ?_
  refine q_icmp_lt (tgt := 16) C dX9_isLetter_3 (by decide) (fun c1 => ?_) (fun c1 => ?_)
  · have h := ifT c1 h
    refine q_iconst (v := (0 : Int32)) C dX9_isLetter_16 (by decide) ?_
    cases h
    exact q_zretE (w := (0 : Int32)) (by decide) C kf dX9_isLetter_17
  · have h := ifF c1 h
    refine q_iload_n 0 C dX9_isLetter_6 rfl ?_
    refine q_bipush (v := (122 : Int32)) C dX9_isLetter_7 (by decide) ?_
    refine q_icmp_gt (tgt := 16) C dX9_isLetter_9 (by decide) (fun c2 => ?_) (fun c2 => ?_)
    · have h := ifT c2 h
      refine q_iconst (v := (0 : Int32)) C dX9_isLetter_16 (by decide) ?_
      cases h
      exact q_zretE (w := (0 : Int32)) (by decide) C kf dX9_isLetter_17
    · have h := ifF c2 h
      refine q_iconst (v := (1 : Int32)) C dX9_isLetter_12 (by decide) ?_
      refine q_goto (tgt := 17) C dX9_isLetter_13 (by decide) ?_
      cases h
      exact q_zretE (w := (1 : Int32)) (by decide) C kf dX9_isLetter_17
theorem k_X9_isLetter (l : Launch) (hl : l.stackTraces = false) (G : GG) (l0 : Int32) (M : Mem) (x : Int32) (h : F_X9_isLetter l0 M = some x) : Ct l G yX9_isLetter (.code yX9_isLetter cX9_isLetter 1 (some .boolean)) 7 140 [.int l0] M (rs_pI x) M := by
  refine Ct_of (by decide +kernel) (Nat.le_of_ble_eq_true rfl) fun X e1 e2 e3 C FN hnm => ?_
  subst e1; subst e2
  show wq X 1 0 [(0, .int l0)] [] M
  exact w_X9_isLetter C FN.2.2.2 hl l0 M h FN
/-! X9_takes -/
set_option maxRecDepth 100000 in
set_option maxHeartbeats 4000000 in
theorem w_X9_takes_j37_0 {X : CX} {y : (Mem) ⊕ (Mem)} (C : CK X cX9_takes 2 RX9 8 161) (hRO : RO X.2.2.1 X.1.2.2.2.2.1 X.1.2.2.2.2.1.heap) (hl : X.1.2.1.stackTraces = false) (l0 : Nat) (M : Mem) (h : F_X9_takes_j37_0 l0 M = some y) (kc : ∀ s' : Mem, y = .inl s' → wq X 2 0 [(0, .ref l0)] [] s') (kx : ∀ e' : Mem, y = (.inr e') → wq X 2 50 [(0, .ref l0)] [] e') : wq X 2 37 [(0, .ref l0)] [] M := by
  unfold F_X9_takes_j37_0 at h
  refine q_aload_n 0 C dX9_takes_37 rfl ?_
  refine q_dup C dX9_takes_38 rfl ?_
  obtain ⟨v12, e13, h⟩ := bindE h
  refine q_getI C fl_RX9_124 rfl e13 dX9_takes_39 ?_
  refine q_iconst (v := (1 : Int32)) C dX9_takes_42 (by decide) ?_
  refine q_iadd C dX9_takes_43 ?_
  obtain ⟨M14, e15, h⟩ := bindE h
  refine q_putI C fp_RX9_124 rfl e15 dX9_takes_44 ?_
  refine q_goto (tgt := 0) C dX9_takes_47 (by decide) ?_
  exact q_sub (lv' := [(0, .ref l0)]) [0] rfl (kc M14 (someI h))
set_option maxRecDepth 100000 in
set_option maxHeartbeats 4000000 in
theorem w_X9_takes_s0 {X : CX} {y : (Mem) ⊕ (Mem)} (C : CK X cX9_takes 2 RX9 8 161) (hRO : RO X.2.2.1 X.1.2.2.2.2.1 X.1.2.2.2.2.1.heap) (hl : X.1.2.1.stackTraces = false) (l0 : Nat)  (M : Mem) (h : F_X9_takes_s0 l0  M = some y) (kc : ∀ s' : Mem, y = .inl s' → wq X 2 0 [(0, .ref l0)] [] s') (kx : ∀ e' : Mem, y = (.inr e') → wq X 2 50 [(0, .ref l0)] [] e') : wq X 2 0 [(0, .ref l0)] [] M := by
  unfold F_X9_takes_s0 at h
  refine q_aload_n 0 C dX9_takes_0 rfl ?_
  obtain ⟨v1, e2, h⟩ := bindE h
  refine q_getI C fl_RX9_124 rfl e2 dX9_takes_1 ?_
  refine q_aload_n 0 C dX9_takes_4 rfl ?_
  obtain ⟨v3, e4, h⟩ := bindE h
  refine q_getI C fl_RX9_121 rfl e4 dX9_takes_5 ?_
  refine q_icmp_ge (tgt := 50) C dX9_takes_8 (by decide) (fun c5 => ?_) (fun c5 => ?_)
  · have h := ifT c5 h
    exact q_sub (lv' := [(0, .ref l0)]) [0] rfl (kx M (someI h))
  · have h := ifF c5 h
    refine q_aload_n 0 C dX9_takes_11 rfl ?_
    refine q_aload_n 0 C dX9_takes_12 rfl ?_
    obtain ⟨v6, e7, h⟩ := bindE h
    refine q_getI C fl_RX9_124 rfl e7 dX9_takes_13 ?_
    obtain ⟨e8, h⟩ := ckOE h
    obtain ⟨v10, e9, h⟩ := bindE h
    refine q_callV (v := some (.int v10)) [.int v6] C hRO lk_RX9_127 vk_X9_byteAt e8 rfl rfl rfl (Nat.le_of_ble_eq_true rfl) (by decide) (by decide) dX9_takes_16 (k_X9_byteAt X.1.2.1 hl X.2.2.1 l0 v6 M _ e9) ?_
    refine q_bipush (v := (32 : Int32)) C dX9_takes_19 (by decide) ?_
    refine q_icmp_eq (tgt := 37) C dX9_takes_21 (by decide) (fun c11 => ?_) (fun c11 => ?_)
    · have h := ifT c11 h
      exact q_sub (lv' := [(0, .ref l0)]) [0] rfl (w_X9_takes_j37_0 C hRO hl l0 M h kc kx)
    · have h := ifF c11 h
      refine q_aload_n 0 C dX9_takes_24 rfl ?_
      refine q_aload_n 0 C dX9_takes_25 rfl ?_
      obtain ⟨v16, e17, h⟩ := bindE h
      refine q_getI C fl_RX9_124 rfl e17 dX9_takes_26 ?_
      obtain ⟨e18, h⟩ := ckOE h
      obtain ⟨v20, e19, h⟩ := bindE h
      refine q_callV (v := some (.int v20)) [.int v16] C hRO lk_RX9_127 vk_X9_byteAt e18 rfl rfl rfl (Nat.le_of_ble_eq_true rfl) (by decide) (by decide) dX9_takes_29 (k_X9_byteAt X.1.2.1 hl X.2.2.1 l0 v16 M _ e19) ?_
      refine q_bipush (v := (10 : Int32)) C dX9_takes_32 (by decide) ?_
      refine q_icmp_ne (tgt := 50) C dX9_takes_34 (by decide) (fun c21 => ?_) (fun c21 => ?_)
      · have h := ifF c21 h
        exact q_sub (lv' := [(0, .ref l0)]) [0] rfl (kx M (someI h))
      · have h := ifT c21 h
        exact q_sub (lv' := [(0, .ref l0)]) [0] rfl (w_X9_takes_j37_0 C hRO hl l0 M h kc kx)
theorem w_X9_takes_l0 {X : CX} {r : Mem} (C : CK X cX9_takes 2 RX9 8 161) (hRO : RO X.2.2.1 X.1.2.2.2.2.1 X.1.2.2.2.2.1.heap) (hl : X.1.2.1.stackTraces = false) (l0 : Nat)  (M : Mem) (h : loop (fun s => F_X9_takes_s0 l0 s) M = some r) (kx : ∀ e' : Mem, r = e' → wq X 2 50 [(0, .ref l0)] [] e') : wq X 2 0 [(0, .ref l0)] [] M :=
  loop_ind (P := fun s => wq X 2 0 [(0, .ref l0)] [] s) h (fun s y hy kc kr => w_X9_takes_s0 C hRO hl l0 s hy kc (fun e' he => kx e' (kr _ he).symm))
set_option maxRecDepth 100000 in
set_option maxHeartbeats 4000000 in
theorem w_X9_takes_j331 {X : CX} {y : Mem} (C : CK X cX9_takes 2 RX9 8 161) (hRO : RO X.2.2.1 X.1.2.2.2.2.1 X.1.2.2.2.2.1.heap) (hl : X.1.2.1.stackTraces = false) (l0 : Nat) (M : Mem) (h : F_X9_takes_j331 l0 M = some y) (kf : FIN X none (rs_mV y) (ms_mV y)) : wq X 2 331 [(0, .ref l0)] [] M := by
  unfold F_X9_takes_j331 at h
  refine q_aload_n 0 C dX9_takes_331 rfl ?_
  refine q_aload_n 0 C dX9_takes_332 rfl ?_
  obtain ⟨v58, e59, h⟩ := bindE h
  refine q_getI C fl_RX9_124 rfl e59 dX9_takes_333 ?_
  refine q_aload_n 0 C dX9_takes_336 rfl ?_
  obtain ⟨v60, e61, h⟩ := bindE h
  refine q_getI C fl_RX9_131 rfl e61 dX9_takes_337 ?_
  refine q_isub C dX9_takes_340 ?_
  obtain ⟨M62, e63, h⟩ := bindE h
  refine q_putI C fp_RX9_154 rfl e63 dX9_takes_341 ?_
  cases h
  exact q_vret C kf dX9_takes_344
set_option maxRecDepth 100000 in
set_option maxHeartbeats 4000000 in
theorem w_X9_takes_j328 {X : CX} {y : Mem} (C : CK X cX9_takes 2 RX9 8 161) (hRO : RO X.2.2.1 X.1.2.2.2.2.1 X.1.2.2.2.2.1.heap) (hl : X.1.2.1.stackTraces = false) (l0 : Nat) (t0 : Int32) (t1 : Nat) (M : Mem) (h : F_X9_takes_j328 l0 t0 t1 M = some y) (kf : FIN X none (rs_mV y) (ms_mV y)) : wq X 2 328 [(0, .ref l0)] [.int t0, .ref t1] M := by
  unfold F_X9_takes_j328 at h
  obtain ⟨M56, e57, h⟩ := bindE h
  refine q_putI C fp_RX9_144 rfl e57 dX9_takes_328 ?_
  exact q_sub (lv' := [(0, .ref l0)]) [0] rfl (w_X9_takes_j331 C hRO hl l0 M56 h kf)
set_option maxRecDepth 100000 in
set_option maxHeartbeats 4000000 in
theorem w_X9_takes_j323 {X : CX} {y : Mem} (C : CK X cX9_takes 2 RX9 8 161) (hRO : RO X.2.2.1 X.1.2.2.2.2.1 X.1.2.2.2.2.1.heap) (hl : X.1.2.1.stackTraces = false) (l0 : Nat) (t0 : Nat) (M : Mem) (h : F_X9_takes_j323 l0 t0 M = some y) (kf : FIN X none (rs_mV y) (ms_mV y)) : wq X 2 323 [(0, .ref l0)] [.ref t0] M := by
  unfold F_X9_takes_j323 at h
  refine q_iconst (v := (3 : Int32)) C dX9_takes_323 (by decide) ?_
  refine q_goto (tgt := 328) C dX9_takes_324 (by decide) ?_
  exact q_sub (lv' := [(0, .ref l0)]) [0] rfl (w_X9_takes_j328 C hRO hl l0 (3 : Int32) t0 M h kf)
set_option maxRecDepth 100000 in
set_option maxHeartbeats 4000000 in
theorem w_X9_takes_j237_187 {X : CX} {y : (Mem) ⊕ (Mem)} (C : CK X cX9_takes 2 RX9 8 161) (hRO : RO X.2.2.1 X.1.2.2.2.2.1 X.1.2.2.2.2.1.heap) (hl : X.1.2.1.stackTraces = false) (l0 : Nat) (M : Mem) (h : F_X9_takes_j237_187 l0 M = some y) (kc : ∀ s' : Mem, y = .inl s' → wq X 2 187 [(0, .ref l0)] [] s') (kx : ∀ e' : Mem, y = (.inr e') → wq X 2 250 [(0, .ref l0)] [] e') : wq X 2 237 [(0, .ref l0)] [] M := by
  unfold F_X9_takes_j237_187 at h
  refine q_aload_n 0 C dX9_takes_237 rfl ?_
  refine q_dup C dX9_takes_238 rfl ?_
  obtain ⟨v85, e86, h⟩ := bindE h
  refine q_getI C fl_RX9_124 rfl e86 dX9_takes_239 ?_
  refine q_iconst (v := (1 : Int32)) C dX9_takes_242 (by decide) ?_
  refine q_iadd C dX9_takes_243 ?_
  obtain ⟨M87, e88, h⟩ := bindE h
  refine q_putI C fp_RX9_124 rfl e88 dX9_takes_244 ?_
  refine q_goto (tgt := 187) C dX9_takes_247 (by decide) ?_
  exact q_sub (lv' := [(0, .ref l0)]) [0] rfl (kc M87 (someI h))
set_option maxRecDepth 100000 in
set_option maxHeartbeats 4000000 in
theorem w_X9_takes_s187 {X : CX} {y : (Mem) ⊕ (Mem)} (C : CK X cX9_takes 2 RX9 8 161) (hRO : RO X.2.2.1 X.1.2.2.2.2.1 X.1.2.2.2.2.1.heap) (hl : X.1.2.1.stackTraces = false) (l0 : Nat)  (M : Mem) (h : F_X9_takes_s187 l0  M = some y) (kc : ∀ s' : Mem, y = .inl s' → wq X 2 187 [(0, .ref l0)] [] s') (kx : ∀ e' : Mem, y = (.inr e') → wq X 2 250 [(0, .ref l0)] [] e') : wq X 2 187 [(0, .ref l0)] [] M := by
  unfold F_X9_takes_s187 at h
  refine q_aload_n 0 C dX9_takes_187 rfl ?_
  refine q_aload_n 0 C dX9_takes_188 rfl ?_
  obtain ⟨v72, e73, h⟩ := bindE h
  refine q_getI C fl_RX9_124 rfl e73 dX9_takes_189 ?_
  obtain ⟨e74, h⟩ := ckOE h
  obtain ⟨v76, e75, h⟩ := bindE h
  refine q_callV (v := some (.int v76)) [.int v72] C hRO lk_RX9_127 vk_X9_byteAt e74 rfl rfl rfl (Nat.le_of_ble_eq_true rfl) (by decide) (by decide) dX9_takes_192 (k_X9_byteAt X.1.2.1 hl X.2.2.1 l0 v72 M _ e75) ?_
  obtain ⟨v78, e77, h⟩ := bindE h
  refine q_callS (v := some (.int v78)) [.int v76] C hRO lk_RX9_151 sk_X9_isDigit rfl rfl (Nat.le_of_ble_eq_true rfl) (by decide) (by decide) dX9_takes_195 (k_X9_isDigit X.1.2.1 hl X.2.2.1 v76 M _ e77) ?_
  refine q_if_eq (tgt := 250) C dX9_takes_198 (by decide) (fun c79 => ?_) (fun c79 => ?_)
  · have h := ifT c79 h
    exact q_sub (lv' := [(0, .ref l0)]) [0] rfl (kx M (someI h))
  · have h := ifF c79 h
    refine q_aload_n 0 C dX9_takes_201 rfl ?_
    obtain ⟨v80, e81, h⟩ := bindE h
    refine q_getI C fl_RX9_124 rfl e81 dX9_takes_202 ?_
    refine q_aload_n 0 C dX9_takes_205 rfl ?_
    obtain ⟨v82, e83, h⟩ := bindE h
    refine q_getI C fl_RX9_131 rfl e83 dX9_takes_206 ?_
    refine q_isub C dX9_takes_209 ?_
    refine q_iconst (v := (4 : Int32)) C dX9_takes_210 (by decide) ?_
    refine q_icmp_ge (tgt := 237) C dX9_takes_211 (by decide) (fun c84 => ?_) (fun c84 => ?_)
    · have h := ifT c84 h
      exact q_sub (lv' := [(0, .ref l0)]) [0] rfl (w_X9_takes_j237_187 C hRO hl l0 M h kc kx)
    · have h := ifF c84 h
      refine q_aload_n 0 C dX9_takes_214 rfl ?_
      refine q_bipush (v := (10 : Int32)) C dX9_takes_215 (by decide) ?_
      refine q_aload_n 0 C dX9_takes_217 rfl ?_
      obtain ⟨v89, e90, h⟩ := bindE h
      refine q_getI C fl_RX9_138 rfl e90 dX9_takes_218 ?_
      refine q_imul C dX9_takes_221 ?_
      refine q_aload_n 0 C dX9_takes_222 rfl ?_
      refine q_aload_n 0 C dX9_takes_223 rfl ?_
      obtain ⟨v91, e92, h⟩ := bindE h
      refine q_getI C fl_RX9_124 rfl e92 dX9_takes_224 ?_
      obtain ⟨e93, h⟩ := ckOE h
      obtain ⟨v95, e94, h⟩ := bindE h
      refine q_callV (v := some (.int v95)) [.int v91] C hRO lk_RX9_127 vk_X9_byteAt e93 rfl rfl rfl (Nat.le_of_ble_eq_true rfl) (by decide) (by decide) dX9_takes_227 (k_X9_byteAt X.1.2.1 hl X.2.2.1 l0 v91 M _ e94) ?_
      refine q_iadd C dX9_takes_230 ?_
      refine q_bipush (v := (48 : Int32)) C dX9_takes_231 (by decide) ?_
      refine q_isub C dX9_takes_233 ?_
      obtain ⟨M96, e97, h⟩ := bindE h
      refine q_putI C fp_RX9_138 rfl e97 dX9_takes_234 ?_
      exact q_sub (lv' := [(0, .ref l0)]) [0] rfl (w_X9_takes_j237_187 C hRO hl l0 M96 h kc kx)
theorem w_X9_takes_l187 {X : CX} {r : Mem} (C : CK X cX9_takes 2 RX9 8 161) (hRO : RO X.2.2.1 X.1.2.2.2.2.1 X.1.2.2.2.2.1.heap) (hl : X.1.2.1.stackTraces = false) (l0 : Nat)  (M : Mem) (h : loop (fun s => F_X9_takes_s187 l0 s) M = some r) (kx : ∀ e' : Mem, r = e' → wq X 2 250 [(0, .ref l0)] [] e') : wq X 2 187 [(0, .ref l0)] [] M :=
  loop_ind (P := fun s => wq X 2 187 [(0, .ref l0)] [] s) h (fun s y hy kc kr => w_X9_takes_s187 C hRO hl l0 s hy kc (fun e' he => kx e' (kr _ he).symm))
set_option maxRecDepth 100000 in
set_option maxHeartbeats 4000000 in
theorem w_X9_takes_j159_108 {X : CX} {y : (Mem) ⊕ (Mem)} (C : CK X cX9_takes 2 RX9 8 161) (hRO : RO X.2.2.1 X.1.2.2.2.2.1 X.1.2.2.2.2.1.heap) (hl : X.1.2.1.stackTraces = false) (l0 : Nat) (M : Mem) (h : F_X9_takes_j159_108 l0 M = some y) (kc : ∀ s' : Mem, y = .inl s' → wq X 2 108 [(0, .ref l0)] [] s') (kx : ∀ e' : Mem, y = (.inr e') → wq X 2 172 [(0, .ref l0)] [] e') : wq X 2 159 [(0, .ref l0)] [] M := by
  unfold F_X9_takes_j159_108 at h
  refine q_aload_n 0 C dX9_takes_159 rfl ?_
  refine q_dup C dX9_takes_160 rfl ?_
  obtain ⟨v117, e118, h⟩ := bindE h
  refine q_getI C fl_RX9_124 rfl e118 dX9_takes_161 ?_
  refine q_iconst (v := (1 : Int32)) C dX9_takes_164 (by decide) ?_
  refine q_iadd C dX9_takes_165 ?_
  obtain ⟨M119, e120, h⟩ := bindE h
  refine q_putI C fp_RX9_124 rfl e120 dX9_takes_166 ?_
  refine q_goto (tgt := 108) C dX9_takes_169 (by decide) ?_
  exact q_sub (lv' := [(0, .ref l0)]) [0] rfl (kc M119 (someI h))
set_option maxRecDepth 100000 in
set_option maxHeartbeats 4000000 in
theorem w_X9_takes_s108 {X : CX} {y : (Mem) ⊕ (Mem)} (C : CK X cX9_takes 2 RX9 8 161) (hRO : RO X.2.2.1 X.1.2.2.2.2.1 X.1.2.2.2.2.1.heap) (hl : X.1.2.1.stackTraces = false) (l0 : Nat)  (M : Mem) (h : F_X9_takes_s108 l0  M = some y) (kc : ∀ s' : Mem, y = .inl s' → wq X 2 108 [(0, .ref l0)] [] s') (kx : ∀ e' : Mem, y = (.inr e') → wq X 2 172 [(0, .ref l0)] [] e') : wq X 2 108 [(0, .ref l0)] [] M := by
  unfold F_X9_takes_s108 at h
  refine q_aload_n 0 C dX9_takes_108 rfl ?_
  refine q_aload_n 0 C dX9_takes_109 rfl ?_
  obtain ⟨v104, e105, h⟩ := bindE h
  refine q_getI C fl_RX9_124 rfl e105 dX9_takes_110 ?_
  obtain ⟨e106, h⟩ := ckOE h
  obtain ⟨v108, e107, h⟩ := bindE h
  refine q_callV (v := some (.int v108)) [.int v104] C hRO lk_RX9_127 vk_X9_byteAt e106 rfl rfl rfl (Nat.le_of_ble_eq_true rfl) (by decide) (by decide) dX9_takes_113 (k_X9_byteAt X.1.2.1 hl X.2.2.1 l0 v104 M _ e107) ?_
  obtain ⟨v110, e109, h⟩ := bindE h
  refine q_callS (v := some (.int v110)) [.int v108] C hRO lk_RX9_147 sk_X9_isLetter rfl rfl (Nat.le_of_ble_eq_true rfl) (by decide) (by decide) dX9_takes_116 (k_X9_isLetter X.1.2.1 hl X.2.2.1 v108 M _ e109) ?_
  refine q_if_eq (tgt := 172) C dX9_takes_119 (by decide) (fun c111 => ?_) (fun c111 => ?_)
  · have h := ifT c111 h
    exact q_sub (lv' := [(0, .ref l0)]) [0] rfl (kx M (someI h))
  · have h := ifF c111 h
    refine q_aload_n 0 C dX9_takes_122 rfl ?_
    obtain ⟨v112, e113, h⟩ := bindE h
    refine q_getI C fl_RX9_124 rfl e113 dX9_takes_123 ?_
    refine q_aload_n 0 C dX9_takes_126 rfl ?_
    obtain ⟨v114, e115, h⟩ := bindE h
    refine q_getI C fl_RX9_131 rfl e115 dX9_takes_127 ?_
    refine q_isub C dX9_takes_130 ?_
    refine q_bipush (v := (6 : Int32)) C dX9_takes_131 (by decide) ?_
    refine q_icmp_ge (tgt := 159) C dX9_takes_133 (by decide) (fun c116 => ?_) (fun c116 => ?_)
    · have h := ifT c116 h
      exact q_sub (lv' := [(0, .ref l0)]) [0] rfl (w_X9_takes_j159_108 C hRO hl l0 M h kc kx)
    · have h := ifF c116 h
      refine q_aload_n 0 C dX9_takes_136 rfl ?_
      refine q_aload_n 0 C dX9_takes_137 rfl ?_
      obtain ⟨v121, e122, h⟩ := bindE h
      refine q_getL C fl_RX9_134 rfl e122 dX9_takes_138 ?_
      refine q_iconst (v := (5 : Int32)) C dX9_takes_141 (by decide) ?_
      refine q_lshl C dX9_takes_142 ?_
      refine q_aload_n 0 C dX9_takes_143 rfl ?_
      refine q_aload_n 0 C dX9_takes_144 rfl ?_
      obtain ⟨v123, e124, h⟩ := bindE h
      refine q_getI C fl_RX9_124 rfl e124 dX9_takes_145 ?_
      obtain ⟨e125, h⟩ := ckOE h
      obtain ⟨v127, e126, h⟩ := bindE h
      refine q_callV (v := some (.int v127)) [.int v123] C hRO lk_RX9_127 vk_X9_byteAt e125 rfl rfl rfl (Nat.le_of_ble_eq_true rfl) (by decide) (by decide) dX9_takes_148 (k_X9_byteAt X.1.2.1 hl X.2.2.1 l0 v123 M _ e126) ?_
      refine q_bipush (v := (96 : Int32)) C dX9_takes_151 (by decide) ?_
      refine q_isub C dX9_takes_153 ?_
      refine q_i2l C dX9_takes_154 ?_
      refine q_lor C dX9_takes_155 ?_
      obtain ⟨M128, e129, h⟩ := bindE h
      refine q_putL C fp_RX9_134 rfl e129 dX9_takes_156 ?_
      exact q_sub (lv' := [(0, .ref l0)]) [0] rfl (w_X9_takes_j159_108 C hRO hl l0 M128 h kc kx)
theorem w_X9_takes_l108 {X : CX} {r : Mem} (C : CK X cX9_takes 2 RX9 8 161) (hRO : RO X.2.2.1 X.1.2.2.2.2.1 X.1.2.2.2.2.1.heap) (hl : X.1.2.1.stackTraces = false) (l0 : Nat)  (M : Mem) (h : loop (fun s => F_X9_takes_s108 l0 s) M = some r) (kx : ∀ e' : Mem, r = e' → wq X 2 172 [(0, .ref l0)] [] e') : wq X 2 108 [(0, .ref l0)] [] M :=
  loop_ind (P := fun s => wq X 2 108 [(0, .ref l0)] [] s) h (fun s y hy kc kr => w_X9_takes_s108 C hRO hl l0 s hy kc (fun e' he => kx e' (kr _ he).symm))
set_option maxRecDepth 100000 in
set_option maxHeartbeats 4000000 in
theorem w_X9_takes_j50 {X : CX} {y : Mem} (C : CK X cX9_takes 2 RX9 8 161) (hRO : RO X.2.2.1 X.1.2.2.2.2.1 X.1.2.2.2.2.1.heap) (hl : X.1.2.1.stackTraces = false) (l0 : Nat) (M : Mem) (h : F_X9_takes_j50 l0 M = some y) (kf : FIN X none (rs_mV y) (ms_mV y)) : wq X 2 50 [(0, .ref l0)] [] M := by
  unfold F_X9_takes_j50 at h
  refine q_aload_n 0 C dX9_takes_50 rfl ?_
  refine q_aload_n 0 C dX9_takes_51 rfl ?_
  obtain ⟨v25, e26, h⟩ := bindE h
  refine q_getI C fl_RX9_124 rfl e26 dX9_takes_52 ?_
  obtain ⟨M27, e28, h⟩ := bindE h
  refine q_putI C fp_RX9_131 rfl e28 dX9_takes_55 ?_
  refine q_aload_n 0 C dX9_takes_58 rfl ?_
  refine q_lconst (v := (0 : Int64)) C dX9_takes_59 (by decide) ?_
  obtain ⟨M29, e30, h⟩ := bindE h
  refine q_putL C fp_RX9_134 rfl e30 dX9_takes_60 ?_
  refine q_aload_n 0 C dX9_takes_63 rfl ?_
  refine q_iconst (v := (0 : Int32)) C dX9_takes_64 (by decide) ?_
  obtain ⟨M31, e32, h⟩ := bindE h
  refine q_putI C fp_RX9_138 rfl e32 dX9_takes_65 ?_
  refine q_aload_n 0 C dX9_takes_68 rfl ?_
  refine q_aload_n 0 C dX9_takes_69 rfl ?_
  obtain ⟨v33, e34, h⟩ := bindE h
  refine q_getI C fl_RX9_124 rfl e34 dX9_takes_70 ?_
  obtain ⟨e35, h⟩ := ckOE h
  obtain ⟨v37, e36, h⟩ := bindE h
  refine q_callV (v := some (.int v37)) [.int v33] C hRO lk_RX9_127 vk_X9_byteAt e35 rfl rfl rfl (Nat.le_of_ble_eq_true rfl) (by decide) (by decide) dX9_takes_73 (k_X9_byteAt X.1.2.1 hl X.2.2.1 l0 v33 M31 _ e36) ?_
  refine q_istore_n (i := 1) (lv' := [(1, .int v37), (0, .ref l0)]) C dX9_takes_76 rfl (by decide) rfl ?_
  refine q_aload_n 1 C dX9_takes_77 rfl ?_
  refine q_iload_n 0 C dX9_takes_78 rfl ?_
  obtain ⟨M38, e39, h⟩ := bindE h
  refine q_putI C fp_RX9_141 rfl e39 dX9_takes_79 ?_
  refine q_aload_n 1 C dX9_takes_82 rfl ?_
  obtain ⟨v40, e41, h⟩ := bindE h
  refine q_getI C fl_RX9_124 rfl e41 dX9_takes_83 ?_
  refine q_aload_n 1 C dX9_takes_86 rfl ?_
  obtain ⟨v42, e43, h⟩ := bindE h
  refine q_getI C fl_RX9_121 rfl e43 dX9_takes_87 ?_
  refine q_icmp_lt (tgt := 101) C dX9_takes_90 (by decide) (fun c44 => ?_) (fun c44 => ?_)
  · have h := ifT c44 h
    refine q_iload_n 0 C dX9_takes_101 rfl ?_
    obtain ⟨v46, e45, h⟩ := bindE h
    refine q_callS (v := some (.int v46)) [.int v37] C hRO lk_RX9_147 sk_X9_isLetter rfl rfl (Nat.le_of_ble_eq_true rfl) (by decide) (by decide) dX9_takes_102 (k_X9_isLetter X.1.2.1 hl X.2.2.1 v37 M38 _ e45) ?_
    refine q_if_eq (tgt := 180) C dX9_takes_105 (by decide) (fun c47 => ?_) (fun c47 => ?_)
    · have h := ifT c47 h
      refine q_iload_n 0 C dX9_takes_180 rfl ?_
      obtain ⟨v49, e48, h⟩ := bindE h
      refine q_callS (v := some (.int v49)) [.int v37] C hRO lk_RX9_151 sk_X9_isDigit rfl rfl (Nat.le_of_ble_eq_true rfl) (by decide) (by decide) dX9_takes_181 (k_X9_isDigit X.1.2.1 hl X.2.2.1 v37 M38 _ e48) ?_
      refine q_if_eq (tgt := 258) C dX9_takes_184 (by decide) (fun c50 => ?_) (fun c50 => ?_)
      · have h := ifT c50 h
        refine q_aload_n 1 C dX9_takes_258 rfl ?_
        refine q_dup C dX9_takes_259 rfl ?_
        obtain ⟨v51, e52, h⟩ := bindE h
        refine q_getI C fl_RX9_124 rfl e52 dX9_takes_260 ?_
        refine q_iconst (v := (1 : Int32)) C dX9_takes_263 (by decide) ?_
        refine q_iadd C dX9_takes_264 ?_
        obtain ⟨M53, e54, h⟩ := bindE h
        refine q_putI C fp_RX9_124 rfl e54 dX9_takes_265 ?_
        refine q_aload_n 1 C dX9_takes_268 rfl ?_
        refine q_iload_n 0 C dX9_takes_269 rfl ?_
        refine q_bipush (v := (59 : Int32)) C dX9_takes_270 (by decide) ?_
        refine q_icmp_eq (tgt := 323) C dX9_takes_272 (by decide) (fun c55 => ?_) (fun c55 => ?_)
        · have h := ifT c55 h
          exact q_sub (lv' := [(0, .ref l0)]) [1] rfl (w_X9_takes_j323 C hRO hl l0 l0 M53 h kf)
        · have h := ifF c55 h
          refine q_iload_n 0 C dX9_takes_275 rfl ?_
          refine q_bipush (v := (40 : Int32)) C dX9_takes_276 (by decide) ?_
          refine q_icmp_eq (tgt := 323) C dX9_takes_278 (by decide) (fun c64 => ?_) (fun c64 => ?_)
          · have h := ifT c64 h
            exact q_sub (lv' := [(0, .ref l0)]) [1] rfl (w_X9_takes_j323 C hRO hl l0 l0 M53 h kf)
          · have h := ifF c64 h
            refine q_iload_n 0 C dX9_takes_281 rfl ?_
            refine q_bipush (v := (41 : Int32)) C dX9_takes_282 (by decide) ?_
            refine q_icmp_eq (tgt := 323) C dX9_takes_284 (by decide) (fun c65 => ?_) (fun c65 => ?_)
            · have h := ifT c65 h
              exact q_sub (lv' := [(0, .ref l0)]) [1] rfl (w_X9_takes_j323 C hRO hl l0 l0 M53 h kf)
            · have h := ifF c65 h
              refine q_iload_n 0 C dX9_takes_287 rfl ?_
              refine q_bipush (v := (43 : Int32)) C dX9_takes_288 (by decide) ?_
              refine q_icmp_eq (tgt := 323) C dX9_takes_290 (by decide) (fun c66 => ?_) (fun c66 => ?_)
              · have h := ifT c66 h
                exact q_sub (lv' := [(0, .ref l0)]) [1] rfl (w_X9_takes_j323 C hRO hl l0 l0 M53 h kf)
              · have h := ifF c66 h
                refine q_iload_n 0 C dX9_takes_293 rfl ?_
                refine q_bipush (v := (45 : Int32)) C dX9_takes_294 (by decide) ?_
                refine q_icmp_eq (tgt := 323) C dX9_takes_296 (by decide) (fun c67 => ?_) (fun c67 => ?_)
                · have h := ifT c67 h
                  exact q_sub (lv' := [(0, .ref l0)]) [1] rfl (w_X9_takes_j323 C hRO hl l0 l0 M53 h kf)
                · have h := ifF c67 h
                  refine q_iload_n 0 C dX9_takes_299 rfl ?_
                  refine q_bipush (v := (42 : Int32)) C dX9_takes_300 (by decide) ?_
                  refine q_icmp_eq (tgt := 323) C dX9_takes_302 (by decide) (fun c68 => ?_) (fun c68 => ?_)
                  · have h := ifT c68 h
                    exact q_sub (lv' := [(0, .ref l0)]) [1] rfl (w_X9_takes_j323 C hRO hl l0 l0 M53 h kf)
                  · have h := ifF c68 h
                    refine q_iload_n 0 C dX9_takes_305 rfl ?_
                    refine q_bipush (v := (47 : Int32)) C dX9_takes_306 (by decide) ?_
                    refine q_icmp_eq (tgt := 323) C dX9_takes_308 (by decide) (fun c69 => ?_) (fun c69 => ?_)
                    · have h := ifT c69 h
                      exact q_sub (lv' := [(0, .ref l0)]) [1] rfl (w_X9_takes_j323 C hRO hl l0 l0 M53 h kf)
                    · have h := ifF c69 h
                      refine q_iload_n 0 C dX9_takes_311 rfl ?_
                      refine q_bipush (v := (60 : Int32)) C dX9_takes_312 (by decide) ?_
                      refine q_icmp_eq (tgt := 323) C dX9_takes_314 (by decide) (fun c70 => ?_) (fun c70 => ?_)
                      · have h := ifT c70 h
                        exact q_sub (lv' := [(0, .ref l0)]) [1] rfl (w_X9_takes_j323 C hRO hl l0 l0 M53 h kf)
                      · have h := ifF c70 h
                        refine q_iload_n 0 C dX9_takes_317 rfl ?_
                        refine q_bipush (v := (61 : Int32)) C dX9_takes_318 (by decide) ?_
                        refine q_icmp_ne (tgt := 327) C dX9_takes_320 (by decide) (fun c71 => ?_) (fun c71 => ?_)
                        · have h := ifF c71 h
                          refine q_iconst (v := (4 : Int32)) C dX9_takes_327 (by decide) ?_
                          exact q_sub (lv' := [(0, .ref l0)]) [1] rfl (w_X9_takes_j328 C hRO hl l0 (4 : Int32) l0 M53 h kf)
                        · have h := ifT c71 h
                          exact q_sub (lv' := [(0, .ref l0)]) [1] rfl (w_X9_takes_j323 C hRO hl l0 l0 M53 h kf)
      · have h := ifF c50 h
        obtain ⟨M100, e99, h⟩ := bindE h
        refine q_sub (lv' := [(0, .ref l0)]) [1] rfl (w_X9_takes_l187 C hRO hl l0 M38 e99 (fun r98 he => ?_))
        subst he
        show wq X 2 250 [(0, .ref l0)] [] M100
        refine q_aload_n 0 C dX9_takes_250 rfl ?_
        refine q_iconst (v := (2 : Int32)) C dX9_takes_251 (by decide) ?_
        obtain ⟨M101, e102, h⟩ := bindE h
        refine q_putI C fp_RX9_144 rfl e102 dX9_takes_252 ?_
        refine q_goto (tgt := 331) C dX9_takes_255 (by decide) ?_
        exact q_sub (lv' := [(0, .ref l0)]) [0] rfl (w_X9_takes_j331 C hRO hl l0 M101 h kf)
    · have h := ifF c47 h
      obtain ⟨M132, e131, h⟩ := bindE h
      refine q_sub (lv' := [(0, .ref l0)]) [1] rfl (w_X9_takes_l108 C hRO hl l0 M38 e131 (fun r130 he => ?_))
      subst he
      show wq X 2 172 [(0, .ref l0)] [] M132
      refine q_aload_n 0 C dX9_takes_172 rfl ?_
      refine q_iconst (v := (1 : Int32)) C dX9_takes_173 (by decide) ?_
      obtain ⟨M133, e134, h⟩ := bindE h
      refine q_putI C fp_RX9_144 rfl e134 dX9_takes_174 ?_
      refine q_goto (tgt := 331) C dX9_takes_177 (by decide) ?_
      exact q_sub (lv' := [(0, .ref l0)]) [0] rfl (w_X9_takes_j331 C hRO hl l0 M133 h kf)
  · have h := ifF c44 h
    refine q_aload_n 1 C dX9_takes_93 rfl ?_
    refine q_iconst (v := (0 : Int32)) C dX9_takes_94 (by decide) ?_
    obtain ⟨M136, e137, h⟩ := bindE h
    refine q_putI C fp_RX9_144 rfl e137 dX9_takes_95 ?_
    refine q_goto (tgt := 331) C dX9_takes_98 (by decide) ?_
    exact q_sub (lv' := [(0, .ref l0)]) [1] rfl (w_X9_takes_j331 C hRO hl l0 M136 h kf)
set_option maxRecDepth 100000 in
set_option maxHeartbeats 4000000 in
theorem w_X9_takes {X : CX} {y : Mem} (C : CK X cX9_takes 2 RX9 8 161) (hRO : RO X.2.2.1 X.1.2.2.2.2.1 X.1.2.2.2.2.1.heap) (hl : X.1.2.1.stackTraces = false) (l0 : Nat) (M : Mem) (h : F_X9_takes l0 M = some y) (kf : FIN X none (rs_mV y) (ms_mV y)) : wq X 2 0 [(0, .ref l0)] [] M := by
  unfold F_X9_takes at h
  obtain ⟨M24, e23, h⟩ := bindE h
  refine q_sub (lv' := [(0, .ref l0)]) [0] rfl (w_X9_takes_l0 C hRO hl l0 M e23 (fun r22 he => ?_))
  subst he
  show wq X 2 50 [(0, .ref l0)] [] M24
  exact q_sub (lv' := [(0, .ref l0)]) [0] rfl (w_X9_takes_j50 C hRO hl l0 M24 h kf)
theorem k_X9_takes (l : Launch) (hl : l.stackTraces = false) (G : GG) (l0 : Nat) (M : Mem) (x : Mem) (h : F_X9_takes l0 M = some x) : Ct l G yX9_takes (.code yX9_takes cX9_takes 2 none) 8 161 [.ref l0] M (rs_mV x) (ms_mV x) := by
  refine Ct_of (by decide +kernel) (Nat.le_of_ble_eq_true rfl) fun X e1 e2 e3 C FN hnm => ?_
  subst e1; subst e2
  show wq X 2 0 [(0, .ref l0)] [] M
  exact w_X9_takes C FN.2.2.2 hl l0 M h FN
/-! X9_wrong -/
set_option maxRecDepth 100000 in
set_option maxHeartbeats 4000000 in
theorem w_X9_wrong {X : CX} {y : Mem} (C : CK X cX9_wrong 2 RX9 7 140) (hRO : RO X.2.2.1 X.1.2.2.2.2.1 X.1.2.2.2.2.1.heap) (hl : X.1.2.1.stackTraces = false) (l0 : Nat) (l1 : Int32) (M : Mem) (h : F_X9_wrong l0 l1 M = some y) (kf : FIN X none (rs_mV y) (ms_mV y)) : wq X 2 0 [(0, .ref l0), (1, .int l1)] [] M := by
  unfold F_X9_wrong at h
  refine q_aload_n 0 C dX9_wrong_0 rfl ?_
  obtain ⟨v1, e2, h⟩ := bindE h
  refine q_getI C fl_RX9_167 rfl e2 dX9_wrong_1 ?_
  refine q_if_eq (tgt := 8) C dX9_wrong_4 (by decide) (fun c3 => ?_) (fun c3 => ?_)
  · have h := ifT c3 h
    refine q_aload_n 0 C dX9_wrong_8 rfl ?_
    refine q_iload_n 1 C dX9_wrong_9 rfl ?_
    obtain ⟨M4, e5, h⟩ := bindE h
    refine q_putI C fp_RX9_167 rfl e5 dX9_wrong_10 ?_
    refine q_aload_n 0 C dX9_wrong_13 rfl ?_
    refine q_aload_n 0 C dX9_wrong_14 rfl ?_
    obtain ⟨v6, e7, h⟩ := bindE h
    refine q_getI C fl_RX9_131 rfl e7 dX9_wrong_15 ?_
    obtain ⟨M8, e9, h⟩ := bindE h
    refine q_putI C fp_RX9_35 rfl e9 dX9_wrong_18 ?_
    cases h
    exact q_vret C kf dX9_wrong_21
  · have h := ifF c3 h
    cases h
    exact q_vret C kf dX9_wrong_7
theorem k_X9_wrong (l : Launch) (hl : l.stackTraces = false) (G : GG) (l0 : Nat) (l1 : Int32) (M : Mem) (x : Mem) (h : F_X9_wrong l0 l1 M = some x) : Ct l G yX9_wrong (.code yX9_wrong cX9_wrong 2 none) 7 140 [.ref l0, .int l1] M (rs_mV x) (ms_mV x) := by
  refine Ct_of (by decide +kernel) (Nat.le_of_ble_eq_true rfl) fun X e1 e2 e3 C FN hnm => ?_
  subst e1; subst e2
  show wq X 2 0 [(0, .ref l0), (1, .int l1)] [] M
  exact w_X9_wrong C FN.2.2.2 hl l0 l1 M h FN
/-! X9_begins -/
set_option maxRecDepth 100000 in
set_option maxHeartbeats 4000000 in
theorem w_X9_begins_j18 {X : CX} {y : Int32 × Mem} (C : CK X cX9_begins 3 RX9 9 182) (hRO : RO X.2.2.1 X.1.2.2.2.2.1 X.1.2.2.2.2.1.heap) (hl : X.1.2.1.stackTraces = false) (l0 : Nat) (M : Mem) (h : F_X9_begins_j18 l0 M = some y) (kf : FIN X (some .boolean) (rs_mI y) (ms_mI y)) : wq X 3 18 [(0, .ref l0)] [] M := by
  unfold F_X9_begins_j18 at h
  refine q_aload_n 0 C dX9_begins_18 rfl ?_
  obtain ⟨e3, h⟩ := ckOE h
  obtain ⟨v5, e4, h⟩ := bindE h
  refine q_callV (v := some (.int v5)) [] C hRO lk_RX9_170 vk_X9_isGood e3 rfl rfl rfl (Nat.le_of_ble_eq_true rfl) (by decide) (by decide) dX9_begins_19 (k_X9_isGood X.1.2.1 hl X.2.2.1 l0 M _ e4) ?_
  refine q_if_ne (tgt := 27) C dX9_begins_22 (by decide) (fun c6 => ?_) (fun c6 => ?_)
  · have h := ifF c6 h
    refine q_aload_n 0 C dX9_begins_27 rfl ?_
    obtain ⟨e7, h⟩ := ckOE h
    obtain ⟨M9, e8, h⟩ := bindE h
    refine q_callV (v := none) [] C hRO lk_RX9_174 vk_X9_takes e7 rfl rfl rfl (Nat.le_of_ble_eq_true rfl) (by decide) (by decide) dX9_begins_28 (k_X9_takes X.1.2.1 hl X.2.2.1 l0 M _ e8) ?_
    refine q_iconst (v := (1 : Int32)) C dX9_begins_31 (by decide) ?_
    cases h
    exact q_zretE (w := (1 : Int32)) (by decide) C kf dX9_begins_32
  · have h := ifT c6 h
    refine q_iconst (v := (0 : Int32)) C dX9_begins_25 (by decide) ?_
    cases h
    exact q_zretE (w := (0 : Int32)) (by decide) C kf dX9_begins_26
set_option maxRecDepth 100000 in
set_option maxHeartbeats 4000000 in
theorem w_X9_begins_j9 {X : CX} {y : Int32 × Mem} (C : CK X cX9_begins 3 RX9 9 182) (hRO : RO X.2.2.1 X.1.2.2.2.2.1 X.1.2.2.2.2.1.heap) (hl : X.1.2.1.stackTraces = false) (l0 : Nat) (l2 : Int32) (M : Mem) (h : F_X9_begins_j9 l0 l2 M = some y) (kf : FIN X (some .boolean) (rs_mI y) (ms_mI y)) : wq X 3 9 [(0, .ref l0), (2, .int l2)] [] M := by
  unfold F_X9_begins_j9 at h
  refine q_iload_n 1 C dX9_begins_9 rfl ?_
  refine q_if_eq (tgt := 18) C dX9_begins_10 (by decide) (fun c2 => ?_) (fun c2 => ?_)
  · have h := ifT c2 h
    exact q_sub (lv' := [(0, .ref l0)]) [0] rfl (w_X9_begins_j18 C hRO hl l0 M h kf)
  · have h := ifF c2 h
    refine q_aload_n 0 C dX9_begins_13 rfl ?_
    refine q_iconst (v := (5 : Int32)) C dX9_begins_14 (by decide) ?_
    obtain ⟨e11, h⟩ := ckOE h
    obtain ⟨M13, e12, h⟩ := bindE h
    refine q_callV (v := none) [.int (5 : Int32)] C hRO lk_RX9_177 vk_X9_wrong e11 rfl rfl rfl (Nat.le_of_ble_eq_true rfl) (by decide) (by decide) dX9_begins_15 (k_X9_wrong X.1.2.1 hl X.2.2.1 l0 (5 : Int32) M _ e12) ?_
    exact q_sub (lv' := [(0, .ref l0)]) [0] rfl (w_X9_begins_j18 C hRO hl l0 M13 h kf)
set_option maxRecDepth 100000 in
set_option maxHeartbeats 4000000 in
theorem w_X9_begins {X : CX} {y : Int32 × Mem} (C : CK X cX9_begins 3 RX9 9 182) (hRO : RO X.2.2.1 X.1.2.2.2.2.1 X.1.2.2.2.2.1.heap) (hl : X.1.2.1.stackTraces = false) (l0 : Nat) (l1 : Int32) (l2 : Int32) (M : Mem) (h : F_X9_begins l0 l1 l2 M = some y) (kf : FIN X (some .boolean) (rs_mI y) (ms_mI y)) : wq X 3 0 [(0, .ref l0), (1, .int l1), (2, .int l2)] [] M := by
  unfold F_X9_begins at h
  refine q_iload_n 1 C dX9_begins_0 rfl ?_
  refine q_if_eq (tgt := 9) C dX9_begins_1 (by decide) (fun c1 => ?_) (fun c1 => ?_)
  · have h := ifT c1 h
    exact q_sub (lv' := [(0, .ref l0), (2, .int l2)]) [0, 2] rfl (w_X9_begins_j9 C hRO hl l0 l2 M h kf)
  · have h := ifF c1 h
    refine q_aload_n 0 C dX9_begins_4 rfl ?_
    refine q_iconst (v := (2 : Int32)) C dX9_begins_5 (by decide) ?_
    obtain ⟨e15, h⟩ := ckOE h
    obtain ⟨M17, e16, h⟩ := bindE h
    refine q_callV (v := none) [.int (2 : Int32)] C hRO lk_RX9_177 vk_X9_wrong e15 rfl rfl rfl (Nat.le_of_ble_eq_true rfl) (by decide) (by decide) dX9_begins_6 (k_X9_wrong X.1.2.1 hl X.2.2.1 l0 (2 : Int32) M _ e16) ?_
    exact q_sub (lv' := [(0, .ref l0), (2, .int l2)]) [0, 2] rfl (w_X9_begins_j9 C hRO hl l0 l2 M17 h kf)
theorem k_X9_begins (l : Launch) (hl : l.stackTraces = false) (G : GG) (l0 : Nat) (l1 : Int32) (l2 : Int32) (M : Mem) (x : Int32 × Mem) (h : F_X9_begins l0 l1 l2 M = some x) : Ct l G yX9_begins (.code yX9_begins cX9_begins 3 (some .boolean)) 9 182 [.ref l0, .int l1, .int l2] M (rs_mI x) (ms_mI x) := by
  refine Ct_of (by decide +kernel) (Nat.le_of_ble_eq_true rfl) fun X e1 e2 e3 C FN hnm => ?_
  subst e1; subst e2
  show wq X 3 0 [(0, .ref l0), (1, .int l1), (2, .int l2)] [] M
  exact w_X9_begins C FN.2.2.2 hl l0 l1 l2 M h FN
/-! X9_bits -/
set_option maxRecDepth 100000 in
set_option maxHeartbeats 4000000 in
theorem w_X9_bits_s4 {X : CX} {y : (Int32 × Int32) ⊕ (Int32)} (C : CK X cX9_bits 3 RX9 7 140) (hRO : RO X.2.2.1 X.1.2.2.2.2.1 X.1.2.2.2.2.1.heap) (hl : X.1.2.1.stackTraces = false) (l0 : Int32) (M : Mem) (l1 : Int32) (l2 : Int32) (h : F_X9_bits_s4 l0 M l1 l2 = some y) (kc : ∀ s' : Int32 × Int32, y = .inl s' → wq X 3 4 [(0, .int l0), (1, .int (s'.1)), (2, .int (s'.2))] [] M) (kx : ∀ e' : Int32, y = (.inr e') → wq X 3 24 [(1, .int (e'))] [] M) : wq X 3 4 [(0, .int l0), (1, .int l1), (2, .int l2)] [] M := by
  unfold F_X9_bits_s4 at h
  refine q_iload_n 2 C dX9_bits_4 rfl ?_
  refine q_bipush (v := (8 : Int32)) C dX9_bits_5 (by decide) ?_
  refine q_icmp_ge (tgt := 24) C dX9_bits_7 (by decide) (fun c1 => ?_) (fun c1 => ?_)
  · have h := ifT c1 h
    exact q_sub (lv' := [(1, .int l1)]) [1] rfl (kx l1 (someI h))
  · have h := ifF c1 h
    refine q_iload_n 1 C dX9_bits_10 rfl ?_
    refine q_iload_n 0 C dX9_bits_11 rfl ?_
    refine q_iload_n 2 C dX9_bits_12 rfl ?_
    refine q_ishr C dX9_bits_13 ?_
    refine q_iconst (v := (1 : Int32)) C dX9_bits_14 (by decide) ?_
    refine q_iand C dX9_bits_15 ?_
    refine q_iadd C dX9_bits_16 ?_
    obtain ⟨n2, e3, h⟩ := nmE h
    refine q_topI e3 ?_
    refine q_istore_n (i := 1) (lv' := [(1, .int n2), (0, .int l0), (2, .int l2)]) C dX9_bits_17 rfl (by decide) rfl ?_
    refine q_iinc 2 (v := (l2 + (1 : Int32))) (lv' := [(2, .int (l2 + (1 : Int32))), (1, .int n2), (0, .int l0)]) C dX9_bits_18 rfl rfl (by decide) rfl ?_
    refine q_goto (tgt := 4) C dX9_bits_21 (by decide) ?_
    exact q_sub (lv' := [(0, .int l0), (1, .int n2), (2, .int (l2 + (1 : Int32)))]) [2, 1, 0] rfl (kc (n2, (l2 + (1 : Int32))) (someI h))
theorem w_X9_bits_l4 {X : CX} {r : Int32} (C : CK X cX9_bits 3 RX9 7 140) (hRO : RO X.2.2.1 X.1.2.2.2.2.1 X.1.2.2.2.2.1.heap) (hl : X.1.2.1.stackTraces = false) (l0 : Int32) (M : Mem) (l1 : Int32) (l2 : Int32) (h : loop (fun s => F_X9_bits_s4 l0 M s.1 s.2) (l1, l2) = some r) (kx : ∀ e' : Int32, r = e' → wq X 3 24 [(1, .int (e'))] [] M) : wq X 3 4 [(0, .int l0), (1, .int l1), (2, .int l2)] [] M :=
  loop_ind (P := fun s => wq X 3 4 [(0, .int l0), (1, .int s.1), (2, .int s.2)] [] M) h (fun s y hy kc kr => w_X9_bits_s4 C hRO hl l0 M s.1 s.2 hy kc (fun e' he => kx e' (kr _ he).symm))
set_option maxRecDepth 100000 in
set_option maxHeartbeats 4000000 in
theorem w_X9_bits {X : CX} {y : Int32} (C : CK X cX9_bits 3 RX9 7 140) (hRO : RO X.2.2.1 X.1.2.2.2.2.1 X.1.2.2.2.2.1.heap) (hl : X.1.2.1.stackTraces = false) (l0 : Int32) (M : Mem) (h : F_X9_bits l0 M = some y) (kf : FIN X (some .int) (rs_pI y) M) : wq X 3 0 [(0, .int l0)] [] M := by
  unfold F_X9_bits at h
  refine q_iconst (v := (0 : Int32)) C dX9_bits_0 (by decide) ?_
  refine q_istore_n (i := 1) (lv' := [(1, .int (0 : Int32)), (0, .int l0)]) C dX9_bits_1 rfl (by decide) rfl ?_
  refine q_iconst (v := (0 : Int32)) C dX9_bits_2 (by decide) ?_
  refine q_istore_n (i := 2) (lv' := [(2, .int (0 : Int32)), (1, .int (0 : Int32)), (0, .int l0)]) C dX9_bits_3 rfl (by decide) rfl ?_
  obtain ⟨x6, e5, h⟩ := bindE h
  refine q_sub (lv' := [(0, .int l0), (1, .int (0 : Int32)), (2, .int (0 : Int32))]) [2, 1, 0] rfl (w_X9_bits_l4 C hRO hl l0 M (0 : Int32) (0 : Int32) e5 (fun r4 he => ?_))
  subst he
  show wq X 3 24 [(1, .int x6)] [] M
  refine q_iload_n 0 C dX9_bits_24 rfl ?_
  cases h
  exact q_iret C kf dX9_bits_25
theorem k_X9_bits (l : Launch) (hl : l.stackTraces = false) (G : GG) (l0 : Int32) (M : Mem) (x : Int32) (h : F_X9_bits l0 M = some x) : Ct l G yX9_bits (.code yX9_bits cX9_bits 3 (some .int)) 7 140 [.int l0] M (rs_pI x) M := by
  refine Ct_of (by decide +kernel) (Nat.le_of_ble_eq_true rfl) fun X e1 e2 e3 C FN hnm => ?_
  subst e1; subst e2
  show wq X 3 0 [(0, .int l0)] [] M
  exact w_X9_bits C FN.2.2.2 hl l0 M h FN
/-! X9_isBurst -/
set_option maxRecDepth 100000 in
set_option maxHeartbeats 4000000 in
theorem w_X9_isBurst {X : CX} {y : Int32} (C : CK X cX9_isBurst 3 RX9 7 140) (hRO : RO X.2.2.1 X.1.2.2.2.2.1 X.1.2.2.2.2.1.heap) (hl : X.1.2.1.stackTraces = false) (l0 : Nat) (l1 : Int32) (l2 : Int32) (M : Mem) (h : F_X9_isBurst l0 l1 l2 M = some y) (kf : FIN X (some .boolean) (rs_pI y) M) : wq X 3 0 [(0, .ref l0), (1, .int l1), (2, .int l2)] [] M := by
  unfold F_X9_isBurst at h
  refine q_aload_n 0 C dX9_isBurst_0 rfl ?_
  obtain ⟨v1, e2, h⟩ := bindE h
  refine q_getP C fl_RX9_66 rfl e2 dX9_isBurst_1 ?_
  refine q_iload_n 1 C dX9_isBurst_4 rfl ?_
  refine q_iconst (v := (1 : Int32)) C dX9_isBurst_5 (by decide) ?_
  refine q_iadd C dX9_isBurst_6 ?_
  obtain ⟨v3, e4, h⟩ := bindE h
  refine q_iaload C e4 dX9_isBurst_7 ?_
  refine q_iload_n 2 C dX9_isBurst_8 rfl ?_
  refine q_ishr C dX9_isBurst_9 ?_
  refine q_iconst (v := (1 : Int32)) C dX9_isBurst_10 (by decide) ?_
  refine q_iand C dX9_isBurst_11 ?_
  refine q_iconst (v := (1 : Int32)) C dX9_isBurst_12 (by decide) ?_
  refine q_icmp_ne (tgt := 20) C dX9_isBurst_13 (by decide) (fun c5 => ?_) (fun c5 => ?_)
  · have h := ifF c5 h
    refine q_iconst (v := (0 : Int32)) C dX9_isBurst_20 (by decide) ?_
    cases h
    exact q_zretE (w := (0 : Int32)) (by decide) C kf dX9_isBurst_21
  · have h := ifT c5 h
    refine q_iconst (v := (1 : Int32)) C dX9_isBurst_16 (by decide) ?_
    refine q_goto (tgt := 21) C dX9_isBurst_17 (by decide) ?_
    cases h
    exact q_zretE (w := (1 : Int32)) (by decide) C kf dX9_isBurst_21
theorem k_X9_isBurst (l : Launch) (hl : l.stackTraces = false) (G : GG) (l0 : Nat) (l1 : Int32) (l2 : Int32) (M : Mem) (x : Int32) (h : F_X9_isBurst l0 l1 l2 M = some x) : Ct l G yX9_isBurst (.code yX9_isBurst cX9_isBurst 3 (some .boolean)) 7 140 [.ref l0, .int l1, .int l2] M (rs_pI x) M := by
  refine Ct_of (by decide +kernel) (Nat.le_of_ble_eq_true rfl) fun X e1 e2 e3 C FN hnm => ?_
  subst e1; subst e2
  show wq X 3 0 [(0, .ref l0), (1, .int l1), (2, .int l2)] [] M
  exact w_X9_isBurst C FN.2.2.2 hl l0 l1 l2 M h FN
/-! X9_burstsIn -/
set_option maxRecDepth 100000 in
set_option maxHeartbeats 4000000 in
theorem w_X9_burstsIn_s6 {X : CX} {y : (Int32 × Mem) ⊕ ((Mem) ⊕ (Int32 × Mem))} (C : CK X cX9_burstsIn 3 RX9 12 257) (hRO : RO X.2.2.1 X.1.2.2.2.2.1 X.1.2.2.2.2.1.heap) (hl : X.1.2.1.stackTraces = false) (l0 : Nat) (l1 : Int32) (l2 : Int32) (M : Mem) (h : F_X9_burstsIn_s6 l0 l1 l2 M = some y) (kc : ∀ s' : Int32 × Mem, y = .inl s' → wq X 3 6 [(0, .ref l0), (1, .int l1), (2, .int (s'.1))] [] s'.2) (kx : ∀ e' : Mem, y = (.inr (.inl e')) → wq X 3 36 [] [] e') (kf : ∀ f' : Int32 × Mem, y = (.inr (.inr f')) → FIN X (some .int) (rs_mI f') (ms_mI f')) : wq X 3 6 [(0, .ref l0), (1, .int l1), (2, .int l2)] [] M := by
  unfold F_X9_burstsIn_s6 at h
  refine q_iload_n 2 C dX9_burstsIn_6 rfl ?_
  refine q_bipush (v := (40 : Int32)) C dX9_burstsIn_7 (by decide) ?_
  refine q_icmp_gt (tgt := 36) C dX9_burstsIn_9 (by decide) (fun c5 => ?_) (fun c5 => ?_)
  · have h := ifT c5 h
    exact q_sub (lv' := []) [] rfl (kx M (someI h))
  · have h := ifF c5 h
    refine q_aload_n 0 C dX9_burstsIn_12 rfl ?_
    refine q_bipush (v := (43 : Int32)) C dX9_burstsIn_13 (by decide) ?_
    refine q_iload_n 1 C dX9_burstsIn_15 rfl ?_
    obtain ⟨e6, h⟩ := ckOE h
    obtain ⟨v8, e7, h⟩ := bindE h
    refine q_callV (v := some (.int v8)) [.int (43 : Int32), .int l1] C hRO lk_RX9_322 vk_X9_isBurst e6 rfl rfl rfl (Nat.le_of_ble_eq_true rfl) (by decide) (by decide) dX9_burstsIn_16 (k_X9_isBurst X.1.2.1 hl X.2.2.1 l0 (43 : Int32) l1 M _ e7) ?_
    refine q_if_eq (tgt := 24) C dX9_burstsIn_19 (by decide) (fun c9 => ?_) (fun c9 => ?_)
    · have h := ifT c9 h
      refine q_aload_n 0 C dX9_burstsIn_24 rfl ?_
      refine q_bipush (v := (43 : Int32)) C dX9_burstsIn_25 (by decide) ?_
      obtain ⟨e10, h⟩ := ckOE h
      obtain ⟨M12, e11, h⟩ := bindE h
      refine q_callV (v := none) [.int (43 : Int32)] C hRO lk_RX9_336 vk_X9_dayGoes e10 rfl rfl rfl (Nat.le_of_ble_eq_true rfl) (by decide) (by decide) dX9_burstsIn_27 (k_X9_dayGoes X.1.2.1 hl X.2.2.1 l0 (43 : Int32) M _ e11) ?_
      refine q_iinc 2 (v := (l2 + (1 : Int32))) (lv' := [(2, .int (l2 + (1 : Int32))), (0, .ref l0), (1, .int l1)]) C dX9_burstsIn_30 rfl rfl (by decide) rfl ?_
      refine q_goto (tgt := 6) C dX9_burstsIn_33 (by decide) ?_
      exact q_sub (lv' := [(0, .ref l0), (1, .int l1), (2, .int (l2 + (1 : Int32)))]) [1, 2, 0] rfl (kc ((l2 + (1 : Int32)), M12) (someI h))
    · have h := ifF c9 h
      refine q_iload_n 2 C dX9_burstsIn_22 rfl ?_
      exact q_iret C (kf _ (someI h)) dX9_burstsIn_23
theorem w_X9_burstsIn_l6 {X : CX} {r : (Mem) ⊕ (Int32 × Mem)} (C : CK X cX9_burstsIn 3 RX9 12 257) (hRO : RO X.2.2.1 X.1.2.2.2.2.1 X.1.2.2.2.2.1.heap) (hl : X.1.2.1.stackTraces = false) (l0 : Nat) (l1 : Int32) (l2 : Int32) (M : Mem) (h : loop (fun s => F_X9_burstsIn_s6 l0 l1 s.1 s.2) (l2, M) = some r) (kx : ∀ e' : Mem, r = .inl e' → wq X 3 36 [] [] e') (kf : ∀ f' : Int32 × Mem, r = .inr f' → FIN X (some .int) (rs_mI f') (ms_mI f')) : wq X 3 6 [(0, .ref l0), (1, .int l1), (2, .int l2)] [] M :=
  loop_ind (P := fun s => wq X 3 6 [(0, .ref l0), (1, .int l1), (2, .int s.1)] [] s.2) h (fun s y hy kc kr => w_X9_burstsIn_s6 C hRO hl l0 l1 s.1 s.2 hy kc (fun e' he => kx e' (kr _ he).symm) (fun f' he => kf f' (kr _ he).symm))
set_option maxRecDepth 100000 in
set_option maxHeartbeats 4000000 in
theorem w_X9_burstsIn {X : CX} {y : Int32 × Mem} (C : CK X cX9_burstsIn 3 RX9 12 257) (hRO : RO X.2.2.1 X.1.2.2.2.2.1 X.1.2.2.2.2.1.heap) (hl : X.1.2.1.stackTraces = false) (l0 : Nat) (l1 : Int32) (M : Mem) (h : F_X9_burstsIn l0 l1 M = some y) (kf : FIN X (some .int) (rs_mI y) (ms_mI y)) : wq X 3 0 [(0, .ref l0), (1, .int l1)] [] M := by
  unfold F_X9_burstsIn at h
  refine q_aload_n 0 C dX9_burstsIn_0 rfl ?_
  obtain ⟨e1, h⟩ := ckOE h
  obtain ⟨M3, e2, h⟩ := bindE h
  refine q_callV (v := none) [] C hRO lk_RX9_391 vk_X9_tries e1 rfl rfl rfl (Nat.le_of_ble_eq_true rfl) (by decide) (by decide) dX9_burstsIn_1 (k_X9_tries X.1.2.1 hl X.2.2.1 l0 M _ e2) ?_
  refine q_iconst (v := (0 : Int32)) C dX9_burstsIn_4 (by decide) ?_
  refine q_istore_n (i := 2) (lv' := [(2, .int (0 : Int32)), (0, .ref l0), (1, .int l1)]) C dX9_burstsIn_5 rfl (by decide) rfl ?_
  obtain ⟨r14, e15, h⟩ := bindE h
  refine q_sub (lv' := [(0, .ref l0), (1, .int l1), (2, .int (0 : Int32))]) [1, 2, 0] rfl (w_X9_burstsIn_l6 C hRO hl l0 l1 (0 : Int32) M3 e15 (fun M16 he => ?_) (fun f18 he => ?_))
  · subst he
    have h := elimL h
    show wq X 3 36 [] [] M16
    refine q_ldcw (v := (99999 : Int32)) C cn_RX9_305 dX9_burstsIn_36 ?_
    cases h
    exact q_iret C kf dX9_burstsIn_39
  · subst he
    have h := elimR h
    cases h
    exact kf
theorem k_X9_burstsIn (l : Launch) (hl : l.stackTraces = false) (G : GG) (l0 : Nat) (l1 : Int32) (M : Mem) (x : Int32 × Mem) (h : F_X9_burstsIn l0 l1 M = some x) : Ct l G yX9_burstsIn (.code yX9_burstsIn cX9_burstsIn 3 (some .int)) 12 257 [.ref l0, .int l1] M (rs_mI x) (ms_mI x) := by
  refine Ct_of (by decide +kernel) (Nat.le_of_ble_eq_true rfl) fun X e1 e2 e3 C FN hnm => ?_
  subst e1; subst e2
  show wq X 3 0 [(0, .ref l0), (1, .int l1)] [] M
  exact w_X9_burstsIn C FN.2.2.2 hl l0 l1 M h FN
/-! X9_isHouse -/
set_option maxRecDepth 100000 in
set_option maxHeartbeats 4000000 in
theorem w_X9_isHouse {X : CX} {y : Int32 × Mem} (C : CK X cX9_isHouse 2 RX9 8 162) (hRO : RO X.2.2.1 X.1.2.2.2.2.1 X.1.2.2.2.2.1.heap) (hl : X.1.2.1.stackTraces = false) (l0 : Nat) (l1 : Int32) (M : Mem) (h : F_X9_isHouse l0 l1 M = some y) (kf : FIN X (some .boolean) (rs_mI y) (ms_mI y)) : wq X 2 0 [(0, .ref l0), (1, .int l1)] [] M := by
  unfold F_X9_isHouse at h
  refine q_aload_n 0 C dX9_isHouse_0 rfl ?_
  refine q_iload_n 1 C dX9_isHouse_1 rfl ?_
  refine q_if_lt (tgt := 17) C dX9_isHouse_2 (by decide) (fun c1 => ?_) (fun c1 => ?_)
  · have h := ifT c1 h
    refine q_iconst (v := (0 : Int32)) C dX9_isHouse_17 (by decide) ?_
    refine q_iconst (v := (1 : Int32)) C dX9_isHouse_18 (by decide) ?_
    obtain ⟨e2, h⟩ := ckOE h
    obtain ⟨v5, M4, e3, h⟩ := bd2E h
    refine q_callV (v := some (.int v5)) [.int (0 : Int32), .int (1 : Int32)] C hRO lk_RX9_268 vk_X9_right e2 rfl rfl rfl (Nat.le_of_ble_eq_true rfl) (by decide) (by decide) dX9_isHouse_19 (k_X9_right X.1.2.1 hl X.2.2.1 l0 (0 : Int32) (1 : Int32) M _ e3) ?_
    cases h
    exact q_zretE (w := (nz v5)) rfl C kf dX9_isHouse_22
  · have h := ifF c1 h
    refine q_iload_n 1 C dX9_isHouse_5 rfl ?_
    refine q_aload_n 0 C dX9_isHouse_6 rfl ?_
    obtain ⟨v6, e7, h⟩ := bindE h
    refine q_getI C fl_RX9_275 rfl e7 dX9_isHouse_7 ?_
    refine q_icmp_ge (tgt := 17) C dX9_isHouse_10 (by decide) (fun c8 => ?_) (fun c8 => ?_)
    · have h := ifT c8 h
      refine q_iconst (v := (0 : Int32)) C dX9_isHouse_17 (by decide) ?_
      refine q_iconst (v := (1 : Int32)) C dX9_isHouse_18 (by decide) ?_
      obtain ⟨e9, h⟩ := ckOE h
      obtain ⟨v12, M11, e10, h⟩ := bd2E h
      refine q_callV (v := some (.int v12)) [.int (0 : Int32), .int (1 : Int32)] C hRO lk_RX9_268 vk_X9_right e9 rfl rfl rfl (Nat.le_of_ble_eq_true rfl) (by decide) (by decide) dX9_isHouse_19 (k_X9_right X.1.2.1 hl X.2.2.1 l0 (0 : Int32) (1 : Int32) M _ e10) ?_
      cases h
      exact q_zretE (w := (nz v12)) rfl C kf dX9_isHouse_22
    · have h := ifF c8 h
      refine q_iconst (v := (1 : Int32)) C dX9_isHouse_13 (by decide) ?_
      refine q_goto (tgt := 18) C dX9_isHouse_14 (by decide) ?_
      refine q_iconst (v := (1 : Int32)) C dX9_isHouse_18 (by decide) ?_
      obtain ⟨e13, h⟩ := ckOE h
      obtain ⟨v16, M15, e14, h⟩ := bd2E h
      refine q_callV (v := some (.int v16)) [.int (1 : Int32), .int (1 : Int32)] C hRO lk_RX9_268 vk_X9_right e13 rfl rfl rfl (Nat.le_of_ble_eq_true rfl) (by decide) (by decide) dX9_isHouse_19 (k_X9_right X.1.2.1 hl X.2.2.1 l0 (1 : Int32) (1 : Int32) M _ e14) ?_
      cases h
      exact q_zretE (w := (nz v16)) rfl C kf dX9_isHouse_22
theorem k_X9_isHouse (l : Launch) (hl : l.stackTraces = false) (G : GG) (l0 : Nat) (l1 : Int32) (M : Mem) (x : Int32 × Mem) (h : F_X9_isHouse l0 l1 M = some x) : Ct l G yX9_isHouse (.code yX9_isHouse cX9_isHouse 2 (some .boolean)) 8 162 [.ref l0, .int l1] M (rs_mI x) (ms_mI x) := by
  refine Ct_of (by decide +kernel) (Nat.le_of_ble_eq_true rfl) fun X e1 e2 e3 C FN hnm => ?_
  subst e1; subst e2
  show wq X 2 0 [(0, .ref l0), (1, .int l1)] [] M
  exact w_X9_isHouse C FN.2.2.2 hl l0 l1 M h FN
/-! X9_burst -/
set_option maxRecDepth 100000 in
set_option maxHeartbeats 4000000 in
theorem w_X9_burst {X : CX} {y : Int32 × Mem} (C : CK X cX9_burst 3 RX9 13 279) (hRO : RO X.2.2.1 X.1.2.2.2.2.1 X.1.2.2.2.2.1.heap) (hl : X.1.2.1.stackTraces = false) (l0 : Nat) (l1 : Int32) (M : Mem) (h : F_X9_burst l0 l1 M = some y) (kf : FIN X (some .int) (rs_mI y) (ms_mI y)) : wq X 3 0 [(0, .ref l0), (1, .int l1)] [] M := by
  unfold F_X9_burst at h
  refine q_aload_n 0 C dX9_burst_0 rfl ?_
  refine q_iconst (v := (0 : Int32)) C dX9_burst_1 (by decide) ?_
  obtain ⟨M1, e2, h⟩ := bindE h
  refine q_putI C fp_RX9_111 rfl e2 dX9_burst_2 ?_
  refine q_aload_n 0 C dX9_burst_5 rfl ?_
  refine q_iload_n 1 C dX9_burst_6 rfl ?_
  obtain ⟨e3, h⟩ := ckOE h
  obtain ⟨v6, M5, e4, h⟩ := bd2E h
  refine q_callV (v := some (.int v6)) [.int l1] C hRO lk_RX9_367 vk_X9_isHouse e3 rfl rfl rfl (Nat.le_of_ble_eq_true rfl) (by decide) (by decide) dX9_burst_7 (k_X9_isHouse X.1.2.1 hl X.2.2.1 l0 l1 M1 _ e4) ?_
  refine q_if_ne (tgt := 15) C dX9_burst_10 (by decide) (fun c7 => ?_) (fun c7 => ?_)
  · have h := ifF c7 h
    refine q_aload_n 0 C dX9_burst_15 rfl ?_
    refine q_iload_n 1 C dX9_burst_16 rfl ?_
    obtain ⟨e8, h⟩ := ckOE h
    obtain ⟨v11, M10, e9, h⟩ := bd2E h
    refine q_callV (v := some (.int v11)) [.int l1] C hRO lk_RX9_403 vk_X9_burstsIn e8 rfl rfl rfl (Nat.le_of_ble_eq_true rfl) (by decide) (by decide) dX9_burst_17 (k_X9_burstsIn X.1.2.1 hl X.2.2.1 l0 l1 M5 _ e9) ?_
    refine q_istore_n (i := 2) (lv' := [(2, .int v11), (0, .ref l0), (1, .int l1)]) C dX9_burst_20 rfl (by decide) rfl ?_
    refine q_iload_n 0 C dX9_burst_21 rfl ?_
    refine q_ldcw (v := (99999 : Int32)) C cn_RX9_305 dX9_burst_22 ?_
    refine q_icmp_ne (tgt := 32) C dX9_burst_25 (by decide) (fun c12 => ?_) (fun c12 => ?_)
    · have h := ifF c12 h
      refine q_iload_n 0 C dX9_burst_32 rfl ?_
      cases h
      exact q_iret C kf dX9_burst_33
    · have h := ifT c12 h
      refine q_iconst (v := (-1 : Int32)) C dX9_burst_28 (by decide) ?_
      refine q_goto (tgt := 33) C dX9_burst_29 (by decide) ?_
      cases h
      exact q_iret C kf dX9_burst_33
  · have h := ifT c7 h
    refine q_iconst (v := (0 : Int32)) C dX9_burst_13 (by decide) ?_
    cases h
    exact q_iret C kf dX9_burst_14
theorem k_X9_burst (l : Launch) (hl : l.stackTraces = false) (G : GG) (l0 : Nat) (l1 : Int32) (M : Mem) (x : Int32 × Mem) (h : F_X9_burst l0 l1 M = some x) : Ct l G yX9_burst (.code yX9_burst cX9_burst 3 (some .int)) 13 279 [.ref l0, .int l1] M (rs_mI x) (ms_mI x) := by
  refine Ct_of (by decide +kernel) (Nat.le_of_ble_eq_true rfl) fun X e1 e2 e3 C FN hnm => ?_
  subst e1; subst e2
  show wq X 3 0 [(0, .ref l0), (1, .int l1)] [] M
  exact w_X9_burst C FN.2.2.2 hl l0 l1 M h FN
/-! X9_byDamp -/
set_option maxRecDepth 100000 in
set_option maxHeartbeats 4000000 in
theorem w_X9_byDamp_j125_71 {X : CX} {y : (Int32 × Int32 × Mem) ⊕ (Int32 × Mem)} (C : CK X cX9_byDamp 9 RX9 12 257) (hRO : RO X.2.2.1 X.1.2.2.2.2.1 X.1.2.2.2.2.1.heap) (hl : X.1.2.1.stackTraces = false) (l0 : Nat) (l1 : Int32) (l2 : Int32) (l3 : Int32) (l4 : Int32) (l5 : Int32) (l6 : Int32) (l7 : Int32) (t0 : Int32) (t1 : Nat) (M : Mem) (h : F_X9_byDamp_j125_71 l0 l2 l3 l5 l6 l7 t0 t1 M = some y) (kc : ∀ s' : Int32 × Int32 × Mem, y = .inl s' → wq X 9 71 [(0, .ref l0), (1, .int l1), (2, .int l2), (3, .int l3), (4, .int l4), (5, .int l5), (6, .int (s'.1)), (7, .int (s'.2.1))] [] s'.2.2) (kx : ∀ e' : Int32 × Mem, y = (.inr e') → wq X 9 140 [(0, .ref l0), (1, .int l1), (2, .int l2), (3, .int l3), (4, .int l4), (5, .int l5), (6, .int (e'.1))] [] e'.2) : wq X 9 125 [(0, .ref l0), (1, .int l1), (2, .int l2), (3, .int l3), (4, .int l4), (5, .int l5), (6, .int l6), (7, .int l7)] [.int t0, .ref t1] M := by
  unfold F_X9_byDamp_j125_71 at h
  obtain ⟨M25, e26, h⟩ := bindE h
  refine q_putI C fp_RX9_78 rfl e26 dX9_byDamp_125 ?_
  refine q_aload_n 0 C dX9_byDamp_128 rfl ?_
  refine q_bipush (v := (43 : Int32)) C dX9_byDamp_129 (by decide) ?_
  obtain ⟨e27, h⟩ := ckOE h
  obtain ⟨M29, e28, h⟩ := bindE h
  refine q_callV (v := none) [.int (43 : Int32)] C hRO lk_RX9_336 vk_X9_dayGoes e27 rfl rfl rfl (Nat.le_of_ble_eq_true rfl) (by decide) (by decide) dX9_byDamp_131 (k_X9_dayGoes X.1.2.1 hl X.2.2.1 l0 (43 : Int32) M25 _ e28) ?_
  refine q_iinc 7 (v := (l7 + (1 : Int32))) (lv' := [(7, .int (l7 + (1 : Int32))), (0, .ref l0), (1, .int l1), (2, .int l2), (3, .int l3), (4, .int l4), (5, .int l5), (6, .int l6)]) C dX9_byDamp_134 rfl rfl (by decide) rfl ?_
  refine q_goto (tgt := 71) C dX9_byDamp_137 (by decide) ?_
  exact q_sub (lv' := [(0, .ref l0), (1, .int l1), (2, .int l2), (3, .int l3), (4, .int l4), (5, .int l5), (6, .int l6), (7, .int (l7 + (1 : Int32)))]) [1, 2, 3, 4, 5, 6, 7, 0] rfl (kc (l6, (l7 + (1 : Int32)), M29) (someI h))
set_option maxRecDepth 100000 in
set_option maxHeartbeats 4000000 in
theorem w_X9_byDamp_j110_71 {X : CX} {y : (Int32 × Int32 × Mem) ⊕ (Int32 × Mem)} (C : CK X cX9_byDamp 9 RX9 12 257) (hRO : RO X.2.2.1 X.1.2.2.2.2.1 X.1.2.2.2.2.1.heap) (hl : X.1.2.1.stackTraces = false) (l0 : Nat) (l1 : Int32) (l2 : Int32) (l3 : Int32) (l4 : Int32) (l5 : Int32) (l7 : Int32) (l8 : Int32) (t0 : Int32) (t1 : Int32) (M : Mem) (h : F_X9_byDamp_j110_71 l0 l2 l3 l5 l7 l8 t0 t1 M = some y) (kc : ∀ s' : Int32 × Int32 × Mem, y = .inl s' → wq X 9 71 [(0, .ref l0), (1, .int l1), (2, .int l2), (3, .int l3), (4, .int l4), (5, .int l5), (6, .int (s'.1)), (7, .int (s'.2.1))] [] s'.2.2) (kx : ∀ e' : Int32 × Mem, y = (.inr e') → wq X 9 140 [(0, .ref l0), (1, .int l1), (2, .int l2), (3, .int l3), (4, .int l4), (5, .int l5), (6, .int (e'.1))] [] e'.2) : wq X 9 110 [(0, .ref l0), (1, .int l1), (2, .int l2), (3, .int l3), (4, .int l4), (5, .int l5), (7, .int l7), (8, .int l8)] [.int t0, .int t1] M := by
  unfold F_X9_byDamp_j110_71 at h
  refine q_imul C dX9_byDamp_110 ?_
  refine q_istore (i := 6) (lv' := [(6, .int (t1 * t0)), (0, .ref l0), (1, .int l1), (2, .int l2), (3, .int l3), (4, .int l4), (5, .int l5), (7, .int l7), (8, .int l8)]) C dX9_byDamp_111 (by decide) rfl ?_
  refine q_aload_n 1 C dX9_byDamp_113 rfl ?_
  refine q_iload 8 C dX9_byDamp_114 rfl ?_
  refine q_if_eq (tgt := 124) C dX9_byDamp_116 (by decide) (fun c24 => ?_) (fun c24 => ?_)
  · have h := ifT c24 h
    refine q_iconst (v := (0 : Int32)) C dX9_byDamp_124 (by decide) ?_
    exact q_sub (lv' := [(0, .ref l0), (1, .int l1), (2, .int l2), (3, .int l3), (4, .int l4), (5, .int l5), (6, .int (t1 * t0)), (7, .int l7)]) [1, 2, 3, 4, 5, 6, 0, 7] rfl (w_X9_byDamp_j125_71 C hRO hl l0 l1 l2 l3 l4 l5 (t1 * t0) l7 (0 : Int32) l0 M h kc kx)
  · have h := ifF c24 h
    refine q_bipush (v := (9 : Int32)) C dX9_byDamp_119 (by decide) ?_
    refine q_goto (tgt := 125) C dX9_byDamp_121 (by decide) ?_
    exact q_sub (lv' := [(0, .ref l0), (1, .int l1), (2, .int l2), (3, .int l3), (4, .int l4), (5, .int l5), (6, .int (t1 * t0)), (7, .int l7)]) [1, 2, 3, 4, 5, 6, 0, 7] rfl (w_X9_byDamp_j125_71 C hRO hl l0 l1 l2 l3 l4 l5 (t1 * t0) l7 (9 : Int32) l0 M h kc kx)
set_option maxRecDepth 100000 in
set_option maxHeartbeats 4000000 in
theorem w_X9_byDamp_j93_71 {X : CX} {y : (Int32 × Int32 × Mem) ⊕ (Int32 × Mem)} (C : CK X cX9_byDamp 9 RX9 12 257) (hRO : RO X.2.2.1 X.1.2.2.2.2.1 X.1.2.2.2.2.1.heap) (hl : X.1.2.1.stackTraces = false) (l0 : Nat) (l1 : Int32) (l2 : Int32) (l3 : Int32) (l4 : Int32) (l5 : Int32) (l6 : Int32) (l7 : Int32) (t0 : Int32) (M : Mem) (h : F_X9_byDamp_j93_71 l0 l2 l3 l5 l6 l7 t0 M = some y) (kc : ∀ s' : Int32 × Int32 × Mem, y = .inl s' → wq X 9 71 [(0, .ref l0), (1, .int l1), (2, .int l2), (3, .int l3), (4, .int l4), (5, .int l5), (6, .int (s'.1)), (7, .int (s'.2.1))] [] s'.2.2) (kx : ∀ e' : Int32 × Mem, y = (.inr e') → wq X 9 140 [(0, .ref l0), (1, .int l1), (2, .int l2), (3, .int l3), (4, .int l4), (5, .int l5), (6, .int (e'.1))] [] e'.2) : wq X 9 93 [(0, .ref l0), (1, .int l1), (2, .int l2), (3, .int l3), (4, .int l4), (5, .int l5), (6, .int l6), (7, .int l7)] [.int t0] M := by
  unfold F_X9_byDamp_j93_71 at h
  refine q_istore (i := 8) (lv' := [(8, .int t0), (0, .ref l0), (1, .int l1), (2, .int l2), (3, .int l3), (4, .int l4), (5, .int l5), (6, .int l6), (7, .int l7)]) C dX9_byDamp_93 (by decide) rfl ?_
  refine q_iload 7 C dX9_byDamp_95 rfl ?_
  refine q_iload 0 C dX9_byDamp_97 rfl ?_
  refine q_if_eq (tgt := 106) C dX9_byDamp_99 (by decide) (fun c23 => ?_) (fun c23 => ?_)
  · have h := ifT c23 h
    refine q_bipush (v := (10 : Int32)) C dX9_byDamp_106 (by decide) ?_
    refine q_iload_n 4 C dX9_byDamp_108 rfl ?_
    refine q_isub C dX9_byDamp_109 ?_
    exact q_sub (lv' := [(0, .ref l0), (1, .int l1), (2, .int l2), (3, .int l3), (4, .int l4), (5, .int l5), (7, .int l7), (8, .int t0)]) [1, 2, 3, 4, 5, 6, 8, 0] rfl (w_X9_byDamp_j110_71 C hRO hl l0 l1 l2 l3 l4 l5 l7 t0 ((10 : Int32) - l3) l6 M h kc kx)
  · have h := ifF c23 h
    refine q_iload_n 4 C dX9_byDamp_102 rfl ?_
    refine q_goto (tgt := 110) C dX9_byDamp_103 (by decide) ?_
    exact q_sub (lv' := [(0, .ref l0), (1, .int l1), (2, .int l2), (3, .int l3), (4, .int l4), (5, .int l5), (7, .int l7), (8, .int t0)]) [1, 2, 3, 4, 5, 6, 8, 0] rfl (w_X9_byDamp_j110_71 C hRO hl l0 l1 l2 l3 l4 l5 l7 t0 l3 l6 M h kc kx)
set_option maxRecDepth 100000 in
set_option maxHeartbeats 4000000 in
theorem w_X9_byDamp_s71 {X : CX} {y : (Int32 × Int32 × Mem) ⊕ (Int32 × Mem)} (C : CK X cX9_byDamp 9 RX9 12 257) (hRO : RO X.2.2.1 X.1.2.2.2.2.1 X.1.2.2.2.2.1.heap) (hl : X.1.2.1.stackTraces = false) (l0 : Nat) (l1 : Int32) (l2 : Int32) (l3 : Int32) (l4 : Int32) (l5 : Int32) (l6 : Int32) (l7 : Int32) (M : Mem) (h : F_X9_byDamp_s71 l0 l2 l3 l5 l6 l7 M = some y) (kc : ∀ s' : Int32 × Int32 × Mem, y = .inl s' → wq X 9 71 [(0, .ref l0), (1, .int l1), (2, .int l2), (3, .int l3), (4, .int l4), (5, .int l5), (6, .int (s'.1)), (7, .int (s'.2.1))] [] s'.2.2) (kx : ∀ e' : Int32 × Mem, y = (.inr e') → wq X 9 140 [(0, .ref l0), (1, .int l1), (2, .int l2), (3, .int l3), (4, .int l4), (5, .int l5), (6, .int (e'.1))] [] e'.2) : wq X 9 71 [(0, .ref l0), (1, .int l1), (2, .int l2), (3, .int l3), (4, .int l4), (5, .int l5), (6, .int l6), (7, .int l7)] [] M := by
  unfold F_X9_byDamp_s71 at h
  refine q_iload 7 C dX9_byDamp_71 rfl ?_
  refine q_iload_n 2 C dX9_byDamp_73 rfl ?_
  refine q_icmp_ge (tgt := 140) C dX9_byDamp_74 (by decide) (fun c21 => ?_) (fun c21 => ?_)
  · have h := ifT c21 h
    exact q_sub (lv' := [(0, .ref l0), (1, .int l1), (2, .int l2), (3, .int l3), (4, .int l4), (5, .int l5), (6, .int l6)]) [0, 1, 2, 3, 4, 5, 6] rfl (kx (l6, M) (someI h))
  · have h := ifF c21 h
    refine q_iload 5 C dX9_byDamp_77 rfl ?_
    refine q_iload 7 C dX9_byDamp_79 rfl ?_
    refine q_ishr C dX9_byDamp_81 ?_
    refine q_iconst (v := (1 : Int32)) C dX9_byDamp_82 (by decide) ?_
    refine q_iand C dX9_byDamp_83 ?_
    refine q_iconst (v := (1 : Int32)) C dX9_byDamp_84 (by decide) ?_
    refine q_icmp_ne (tgt := 92) C dX9_byDamp_85 (by decide) (fun c22 => ?_) (fun c22 => ?_)
    · have h := ifF c22 h
      refine q_iconst (v := (0 : Int32)) C dX9_byDamp_92 (by decide) ?_
      exact q_sub (lv' := [(0, .ref l0), (1, .int l1), (2, .int l2), (3, .int l3), (4, .int l4), (5, .int l5), (6, .int l6), (7, .int l7)]) [0, 1, 2, 3, 4, 5, 6, 7] rfl (w_X9_byDamp_j93_71 C hRO hl l0 l1 l2 l3 l4 l5 l6 l7 (0 : Int32) M h kc kx)
    · have h := ifT c22 h
      refine q_iconst (v := (1 : Int32)) C dX9_byDamp_88 (by decide) ?_
      refine q_goto (tgt := 93) C dX9_byDamp_89 (by decide) ?_
      exact q_sub (lv' := [(0, .ref l0), (1, .int l1), (2, .int l2), (3, .int l3), (4, .int l4), (5, .int l5), (6, .int l6), (7, .int l7)]) [0, 1, 2, 3, 4, 5, 6, 7] rfl (w_X9_byDamp_j93_71 C hRO hl l0 l1 l2 l3 l4 l5 l6 l7 (1 : Int32) M h kc kx)
theorem w_X9_byDamp_l71 {X : CX} {r : Int32 × Mem} (C : CK X cX9_byDamp 9 RX9 12 257) (hRO : RO X.2.2.1 X.1.2.2.2.2.1 X.1.2.2.2.2.1.heap) (hl : X.1.2.1.stackTraces = false) (l0 : Nat) (l1 : Int32) (l2 : Int32) (l3 : Int32) (l4 : Int32) (l5 : Int32) (l6 : Int32) (l7 : Int32) (M : Mem) (h : loop (fun s => F_X9_byDamp_s71 l0 l2 l3 l5 s.1 s.2.1 s.2.2) (l6, l7, M) = some r) (kx : ∀ e' : Int32 × Mem, r = e' → wq X 9 140 [(0, .ref l0), (1, .int l1), (2, .int l2), (3, .int l3), (4, .int l4), (5, .int l5), (6, .int (e'.1))] [] e'.2) : wq X 9 71 [(0, .ref l0), (1, .int l1), (2, .int l2), (3, .int l3), (4, .int l4), (5, .int l5), (6, .int l6), (7, .int l7)] [] M :=
  loop_ind (P := fun s => wq X 9 71 [(0, .ref l0), (1, .int l1), (2, .int l2), (3, .int l3), (4, .int l4), (5, .int l5), (6, .int s.1), (7, .int s.2.1)] [] s.2.2) h (fun s y hy kc kr => w_X9_byDamp_s71 C hRO hl l0 l1 l2 l3 l4 l5 s.1 s.2.1 s.2.2 hy kc (fun e' he => kx e' (kr _ he).symm))
set_option maxRecDepth 100000 in
set_option maxHeartbeats 4000000 in
theorem w_X9_byDamp_s53 {X : CX} {y : (Int32 × Int32 × Mem) ⊕ (Int32 × Mem)} (C : CK X cX9_byDamp 9 RX9 12 257) (hRO : RO X.2.2.1 X.1.2.2.2.2.1 X.1.2.2.2.2.1.heap) (hl : X.1.2.1.stackTraces = false) (l0 : Nat) (l1 : Int32) (l2 : Int32) (l3 : Int32) (l4 : Int32) (l5 : Int32) (M : Mem) (h : F_X9_byDamp_s53 l0 l1 l2 l3 l4 l5 M = some y) (kc : ∀ s' : Int32 × Int32 × Mem, y = .inl s' → wq X 9 53 [(0, .ref l0), (1, .int l1), (2, .int l2), (3, .int l3), (4, .int (s'.1)), (5, .int (s'.2.1))] [] s'.2.2) (kx : ∀ e' : Int32 × Mem, y = (.inr e') → wq X 9 167 [(0, .ref l0), (4, .int (e'.1))] [] e'.2) : wq X 9 53 [(0, .ref l0), (1, .int l1), (2, .int l2), (3, .int l3), (4, .int l4), (5, .int l5)] [] M := by
  unfold F_X9_byDamp_s53 at h
  refine q_iload 5 C dX9_byDamp_53 rfl ?_
  refine q_iconst (v := (1 : Int32)) C dX9_byDamp_55 (by decide) ?_
  refine q_iload_n 2 C dX9_byDamp_56 rfl ?_
  refine q_ishl C dX9_byDamp_57 ?_
  refine q_icmp_ge (tgt := 167) C dX9_byDamp_58 (by decide) (fun c16 => ?_) (fun c16 => ?_)
  · have h := ifT c16 h
    exact q_sub (lv' := [(0, .ref l0), (4, .int l4)]) [0, 4] rfl (kx (l4, M) (someI h))
  · have h := ifF c16 h
    refine q_iconst (v := (1 : Int32)) C dX9_byDamp_61 (by decide) ?_
    refine q_istore (i := 6) (lv' := [(6, .int (1 : Int32)), (0, .ref l0), (1, .int l1), (2, .int l2), (3, .int l3), (4, .int l4), (5, .int l5)]) C dX9_byDamp_62 (by decide) rfl ?_
    refine q_aload_n 1 C dX9_byDamp_64 rfl ?_
    obtain ⟨e17, h⟩ := ckOE h
    obtain ⟨M19, e18, h⟩ := bindE h
    refine q_callV (v := none) [] C hRO lk_RX9_391 vk_X9_tries e17 rfl rfl rfl (Nat.le_of_ble_eq_true rfl) (by decide) (by decide) dX9_byDamp_65 (k_X9_tries X.1.2.1 hl X.2.2.1 l0 M _ e18) ?_
    refine q_iconst (v := (0 : Int32)) C dX9_byDamp_68 (by decide) ?_
    refine q_istore (i := 7) (lv' := [(7, .int (0 : Int32)), (6, .int (1 : Int32)), (0, .ref l0), (1, .int l1), (2, .int l2), (3, .int l3), (4, .int l4), (5, .int l5)]) C dX9_byDamp_69 (by decide) rfl ?_
    obtain ⟨⟨x33, M34⟩, e32, h⟩ := bindE h
    refine q_sub (lv' := [(0, .ref l0), (1, .int l1), (2, .int l2), (3, .int l3), (4, .int l4), (5, .int l5), (6, .int (1 : Int32)), (7, .int (0 : Int32))]) [2, 3, 4, 5, 6, 7, 1, 0] rfl (w_X9_byDamp_l71 C hRO hl l0 l1 l2 l3 l4 l5 (1 : Int32) (0 : Int32) M19 e32 (fun r31 he => ?_))
    subst he
    have h := u2E h
    show wq X 9 140 [(0, .ref l0), (1, .int l1), (2, .int l2), (3, .int l3), (4, .int l4), (5, .int l5), (6, .int x33)] [] M34
    refine q_iload 4 C dX9_byDamp_140 rfl ?_
    refine q_aload_n 0 C dX9_byDamp_142 rfl ?_
    refine q_bipush (v := (43 : Int32)) C dX9_byDamp_143 (by decide) ?_
    refine q_iload_n 1 C dX9_byDamp_145 rfl ?_
    obtain ⟨e35, h⟩ := ckOE h
    obtain ⟨v37, e36, h⟩ := bindE h
    refine q_callV (v := some (.int v37)) [.int (43 : Int32), .int l1] C hRO lk_RX9_322 vk_X9_isBurst e35 rfl rfl rfl (Nat.le_of_ble_eq_true rfl) (by decide) (by decide) dX9_byDamp_146 (k_X9_isBurst X.1.2.1 hl X.2.2.1 l0 (43 : Int32) l1 M34 _ e36) ?_
    refine q_if_eq (tgt := 157) C dX9_byDamp_149 (by decide) (fun c38 => ?_) (fun c38 => ?_)
    · have h := ifT c38 h
      refine q_iconst (v := (0 : Int32)) C dX9_byDamp_157 (by decide) ?_
      refine q_iadd C dX9_byDamp_158 ?_
      refine q_istore (i := 4) (lv' := [(4, .int (l4 + (0 : Int32))), (0, .ref l0), (1, .int l1), (2, .int l2), (3, .int l3), (5, .int l5), (6, .int x33)]) C dX9_byDamp_159 (by decide) rfl ?_
      refine q_iinc 5 (v := (l5 + (1 : Int32))) (lv' := [(5, .int (l5 + (1 : Int32))), (4, .int (l4 + (0 : Int32))), (0, .ref l0), (1, .int l1), (2, .int l2), (3, .int l3), (6, .int x33)]) C dX9_byDamp_161 rfl rfl (by decide) rfl ?_
      refine q_goto (tgt := 53) C dX9_byDamp_164 (by decide) ?_
      exact q_sub (lv' := [(0, .ref l0), (1, .int l1), (2, .int l2), (3, .int l3), (4, .int (l4 + (0 : Int32))), (5, .int (l5 + (1 : Int32)))]) [2, 3, 4, 5, 1, 0] rfl (kc ((l4 + (0 : Int32)), (l5 + (1 : Int32)), M34) (someI h))
    · have h := ifF c38 h
      refine q_iload 6 C dX9_byDamp_152 rfl ?_
      refine q_goto (tgt := 158) C dX9_byDamp_154 (by decide) ?_
      refine q_iadd C dX9_byDamp_158 ?_
      refine q_istore (i := 4) (lv' := [(4, .int (l4 + x33)), (0, .ref l0), (1, .int l1), (2, .int l2), (3, .int l3), (5, .int l5), (6, .int x33)]) C dX9_byDamp_159 (by decide) rfl ?_
      refine q_iinc 5 (v := (l5 + (1 : Int32))) (lv' := [(5, .int (l5 + (1 : Int32))), (4, .int (l4 + x33)), (0, .ref l0), (1, .int l1), (2, .int l2), (3, .int l3), (6, .int x33)]) C dX9_byDamp_161 rfl rfl (by decide) rfl ?_
      refine q_goto (tgt := 53) C dX9_byDamp_164 (by decide) ?_
      exact q_sub (lv' := [(0, .ref l0), (1, .int l1), (2, .int l2), (3, .int l3), (4, .int (l4 + x33)), (5, .int (l5 + (1 : Int32)))]) [2, 3, 4, 5, 1, 0] rfl (kc ((l4 + x33), (l5 + (1 : Int32)), M34) (someI h))
theorem w_X9_byDamp_l53 {X : CX} {r : Int32 × Mem} (C : CK X cX9_byDamp 9 RX9 12 257) (hRO : RO X.2.2.1 X.1.2.2.2.2.1 X.1.2.2.2.2.1.heap) (hl : X.1.2.1.stackTraces = false) (l0 : Nat) (l1 : Int32) (l2 : Int32) (l3 : Int32) (l4 : Int32) (l5 : Int32) (M : Mem) (h : loop (fun s => F_X9_byDamp_s53 l0 l1 l2 l3 s.1 s.2.1 s.2.2) (l4, l5, M) = some r) (kx : ∀ e' : Int32 × Mem, r = e' → wq X 9 167 [(0, .ref l0), (4, .int (e'.1))] [] e'.2) : wq X 9 53 [(0, .ref l0), (1, .int l1), (2, .int l2), (3, .int l3), (4, .int l4), (5, .int l5)] [] M :=
  loop_ind (P := fun s => wq X 9 53 [(0, .ref l0), (1, .int l1), (2, .int l2), (3, .int l3), (4, .int s.1), (5, .int s.2.1)] [] s.2.2) h (fun s y hy kc kr => w_X9_byDamp_s53 C hRO hl l0 l1 l2 l3 s.1 s.2.1 s.2.2 hy kc (fun e' he => kx e' (kr _ he).symm))
set_option maxRecDepth 100000 in
set_option maxHeartbeats 4000000 in
theorem w_X9_byDamp_j38 {X : CX} {y : Int32 × Mem} (C : CK X cX9_byDamp 9 RX9 12 257) (hRO : RO X.2.2.1 X.1.2.2.2.2.1 X.1.2.2.2.2.1.heap) (hl : X.1.2.1.stackTraces = false) (l0 : Nat) (l1 : Int32) (l2 : Int32) (l3 : Int32) (t0 : Int32) (t1 : Nat) (M : Mem) (h : F_X9_byDamp_j38 l0 l1 l2 l3 t0 t1 M = some y) (kf : FIN X (some .int) (rs_mI y) (ms_mI y)) : wq X 9 38 [(0, .ref l0), (1, .int l1), (2, .int l2), (3, .int l3)] [.int t0, .ref t1] M := by
  unfold F_X9_byDamp_j38 at h
  refine q_iconst (v := (2 : Int32)) C dX9_byDamp_38 (by decide) ?_
  obtain ⟨e11, h⟩ := ckOE h
  obtain ⟨v14, M13, e12, h⟩ := bd2E h
  refine q_callV (v := some (.int v14)) [.int t0, .int (2 : Int32)] C hRO lk_RX9_268 vk_X9_right e11 rfl rfl rfl (Nat.le_of_ble_eq_true rfl) (by decide) (by decide) dX9_byDamp_39 (k_X9_right X.1.2.1 hl X.2.2.1 t1 t0 (2 : Int32) M _ e12) ?_
  refine q_if_ne (tgt := 47) C dX9_byDamp_42 (by decide) (fun c15 => ?_) (fun c15 => ?_)
  · have h := ifF c15 h
    refine q_iconst (v := (0 : Int32)) C dX9_byDamp_47 (by decide) ?_
    refine q_istore (i := 4) (lv' := [(4, .int (0 : Int32)), (0, .ref l0), (1, .int l1), (2, .int l2), (3, .int l3)]) C dX9_byDamp_48 (by decide) rfl ?_
    refine q_iconst (v := (0 : Int32)) C dX9_byDamp_50 (by decide) ?_
    refine q_istore (i := 5) (lv' := [(5, .int (0 : Int32)), (4, .int (0 : Int32)), (0, .ref l0), (1, .int l1), (2, .int l2), (3, .int l3)]) C dX9_byDamp_51 (by decide) rfl ?_
    obtain ⟨⟨x42, M43⟩, e41, h⟩ := bindE h
    refine q_sub (lv' := [(0, .ref l0), (1, .int l1), (2, .int l2), (3, .int l3), (4, .int (0 : Int32)), (5, .int (0 : Int32))]) [2, 3, 4, 5, 1, 0] rfl (w_X9_byDamp_l53 C hRO hl l0 l1 l2 l3 (0 : Int32) (0 : Int32) M13 e41 (fun r40 he => ?_))
    subst he
    have h := u2E h
    show wq X 9 167 [(0, .ref l0), (4, .int x42)] [] M43
    refine q_aload_n 0 C dX9_byDamp_167 rfl ?_
    refine q_iconst (v := (-1 : Int32)) C dX9_byDamp_168 (by decide) ?_
    obtain ⟨M44, e45, h⟩ := bindE h
    refine q_putI C fp_RX9_78 rfl e45 dX9_byDamp_169 ?_
    refine q_iload 1 C dX9_byDamp_172 rfl ?_
    cases h
    exact q_iret C kf dX9_byDamp_174
  · have h := ifT c15 h
    refine q_iconst (v := (0 : Int32)) C dX9_byDamp_45 (by decide) ?_
    cases h
    exact q_iret C kf dX9_byDamp_46
set_option maxRecDepth 100000 in
set_option maxHeartbeats 4000000 in
theorem w_X9_byDamp_j37 {X : CX} {y : Int32 × Mem} (C : CK X cX9_byDamp 9 RX9 12 257) (hRO : RO X.2.2.1 X.1.2.2.2.2.1 X.1.2.2.2.2.1.heap) (hl : X.1.2.1.stackTraces = false) (l0 : Nat) (l1 : Int32) (l2 : Int32) (l3 : Int32) (t0 : Nat) (M : Mem) (h : F_X9_byDamp_j37 l0 l1 l2 l3 t0 M = some y) (kf : FIN X (some .int) (rs_mI y) (ms_mI y)) : wq X 9 37 [(0, .ref l0), (1, .int l1), (2, .int l2), (3, .int l3)] [.ref t0] M := by
  unfold F_X9_byDamp_j37 at h
  refine q_iconst (v := (0 : Int32)) C dX9_byDamp_37 (by decide) ?_
  exact q_sub (lv' := [(0, .ref l0), (1, .int l1), (2, .int l2), (3, .int l3)]) [0, 1, 2, 3] rfl (w_X9_byDamp_j38 C hRO hl l0 l1 l2 l3 (0 : Int32) t0 M h kf)
set_option maxRecDepth 100000 in
set_option maxHeartbeats 4000000 in
theorem w_X9_byDamp {X : CX} {y : Int32 × Mem} (C : CK X cX9_byDamp 9 RX9 12 257) (hRO : RO X.2.2.1 X.1.2.2.2.2.1 X.1.2.2.2.2.1.heap) (hl : X.1.2.1.stackTraces = false) (l0 : Nat) (l1 : Int32) (l2 : Int32) (l3 : Int32) (M : Mem) (h : F_X9_byDamp l0 l1 l2 l3 M = some y) (kf : FIN X (some .int) (rs_mI y) (ms_mI y)) : wq X 9 0 [(0, .ref l0), (1, .int l1), (2, .int l2), (3, .int l3)] [] M := by
  unfold F_X9_byDamp at h
  refine q_aload_n 0 C dX9_byDamp_0 rfl ?_
  refine q_iconst (v := (0 : Int32)) C dX9_byDamp_1 (by decide) ?_
  obtain ⟨M1, e2, h⟩ := bindE h
  refine q_putI C fp_RX9_111 rfl e2 dX9_byDamp_2 ?_
  refine q_aload_n 0 C dX9_byDamp_5 rfl ?_
  refine q_iload_n 1 C dX9_byDamp_6 rfl ?_
  obtain ⟨e3, h⟩ := ckOE h
  obtain ⟨v6, M5, e4, h⟩ := bd2E h
  refine q_callV (v := some (.int v6)) [.int l1] C hRO lk_RX9_367 vk_X9_isHouse e3 rfl rfl rfl (Nat.le_of_ble_eq_true rfl) (by decide) (by decide) dX9_byDamp_7 (k_X9_isHouse X.1.2.1 hl X.2.2.1 l0 l1 M1 _ e4) ?_
  refine q_if_eq (tgt := 45) C dX9_byDamp_10 (by decide) (fun c7 => ?_) (fun c7 => ?_)
  · have h := ifT c7 h
    refine q_iconst (v := (0 : Int32)) C dX9_byDamp_45 (by decide) ?_
    cases h
    exact q_iret C kf dX9_byDamp_46
  · have h := ifF c7 h
    refine q_aload_n 0 C dX9_byDamp_13 rfl ?_
    refine q_iload_n 2 C dX9_byDamp_14 rfl ?_
    refine q_iconst (v := (1 : Int32)) C dX9_byDamp_15 (by decide) ?_
    refine q_iconst (v := (5 : Int32)) C dX9_byDamp_16 (by decide) ?_
    obtain ⟨v9, e8, h⟩ := bindE h
    refine q_callS (v := some (.int v9)) [.int l2, .int (1 : Int32), .int (5 : Int32)] C hRO lk_RX9_345 sk_X9_within rfl rfl (Nat.le_of_ble_eq_true rfl) (by decide) (by decide) dX9_byDamp_17 (k_X9_within X.1.2.1 hl X.2.2.1 l2 (1 : Int32) (5 : Int32) M5 _ e8) ?_
    refine q_if_eq (tgt := 37) C dX9_byDamp_20 (by decide) (fun c10 => ?_) (fun c10 => ?_)
    · have h := ifT c10 h
      exact q_sub (lv' := [(0, .ref l0), (1, .int l1), (2, .int l2), (3, .int l3)]) [0, 1, 2, 3] rfl (w_X9_byDamp_j37 C hRO hl l0 l1 l2 l3 l0 M5 h kf)
    · have h := ifF c10 h
      refine q_iload_n 3 C dX9_byDamp_23 rfl ?_
      refine q_iconst (v := (0 : Int32)) C dX9_byDamp_24 (by decide) ?_
      refine q_bipush (v := (10 : Int32)) C dX9_byDamp_25 (by decide) ?_
      obtain ⟨v48, e47, h⟩ := bindE h
      refine q_callS (v := some (.int v48)) [.int l3, .int (0 : Int32), .int (10 : Int32)] C hRO lk_RX9_345 sk_X9_within rfl rfl (Nat.le_of_ble_eq_true rfl) (by decide) (by decide) dX9_byDamp_27 (k_X9_within X.1.2.1 hl X.2.2.1 l3 (0 : Int32) (10 : Int32) M5 _ e47) ?_
      refine q_if_eq (tgt := 37) C dX9_byDamp_30 (by decide) (fun c49 => ?_) (fun c49 => ?_)
      · have h := ifT c49 h
        exact q_sub (lv' := [(0, .ref l0), (1, .int l1), (2, .int l2), (3, .int l3)]) [0, 1, 2, 3] rfl (w_X9_byDamp_j37 C hRO hl l0 l1 l2 l3 l0 M5 h kf)
      · have h := ifF c49 h
        refine q_iconst (v := (1 : Int32)) C dX9_byDamp_33 (by decide) ?_
        refine q_goto (tgt := 38) C dX9_byDamp_34 (by decide) ?_
        exact q_sub (lv' := [(0, .ref l0), (1, .int l1), (2, .int l2), (3, .int l3)]) [0, 1, 2, 3] rfl (w_X9_byDamp_j38 C hRO hl l0 l1 l2 l3 (1 : Int32) l0 M5 h kf)
theorem k_X9_byDamp (l : Launch) (hl : l.stackTraces = false) (G : GG) (l0 : Nat) (l1 : Int32) (l2 : Int32) (l3 : Int32) (M : Mem) (x : Int32 × Mem) (h : F_X9_byDamp l0 l1 l2 l3 M = some x) : Ct l G yX9_byDamp (.code yX9_byDamp cX9_byDamp 9 (some .int)) 12 257 [.ref l0, .int l1, .int l2, .int l3] M (rs_mI x) (ms_mI x) := by
  refine Ct_of (by decide +kernel) (Nat.le_of_ble_eq_true rfl) fun X e1 e2 e3 C FN hnm => ?_
  subst e1; subst e2
  show wq X 9 0 [(0, .ref l0), (1, .int l1), (2, .int l2), (3, .int l3)] [] M
  exact w_X9_byDamp C FN.2.2.2 hl l0 l1 l2 l3 M h FN
/-! X9_leastOf -/
set_option maxRecDepth 100000 in
set_option maxHeartbeats 4000000 in
theorem w_X9_leastOf {X : CX} {y : Int32} (C : CK X cX9_leastOf 3 RX9 7 140) (hRO : RO X.2.2.1 X.1.2.2.2.2.1 X.1.2.2.2.2.1.heap) (hl : X.1.2.1.stackTraces = false) (l0 : Nat) (l1 : Int32) (l2 : Int32) (M : Mem) (h : F_X9_leastOf l0 l1 l2 M = some y) (kf : FIN X (some .int) (rs_pI y) M) : wq X 3 0 [(0, .ref l0), (1, .int l1), (2, .int l2)] [] M := by
  unfold F_X9_leastOf at h
  refine q_iload_n 1 C dX9_leastOf_0 rfl ?_
  refine q_aload_n 0 C dX9_leastOf_1 rfl ?_
  obtain ⟨v1, e2, h⟩ := bindE h
  refine q_getI C fl_RX9_278 rfl e2 dX9_leastOf_2 ?_
  refine q_icmp_ne (tgt := 12) C dX9_leastOf_5 (by decide) (fun c3 => ?_) (fun c3 => ?_)
  · have h := ifF c3 h
    refine q_aload_n 0 C dX9_leastOf_12 rfl ?_
    obtain ⟨v4, e5, h⟩ := bindE h
    refine q_getP C fl_RX9_81 rfl e5 dX9_leastOf_13 ?_
    refine q_sipush (v := (256 : Int32)) C dX9_leastOf_16 (by decide) ?_
    refine q_iload_n 1 C dX9_leastOf_19 rfl ?_
    refine q_imul C dX9_leastOf_20 ?_
    refine q_iload_n 2 C dX9_leastOf_21 rfl ?_
    refine q_iadd C dX9_leastOf_22 ?_
    obtain ⟨v6, e7, h⟩ := bindE h
    refine q_iaload C e7 dX9_leastOf_23 ?_
    cases h
    exact q_iret C kf dX9_leastOf_24
  · have h := ifT c3 h
    refine q_iconst (v := (0 : Int32)) C dX9_leastOf_8 (by decide) ?_
    refine q_goto (tgt := 24) C dX9_leastOf_9 (by decide) ?_
    cases h
    exact q_iret C kf dX9_leastOf_24
theorem k_X9_leastOf (l : Launch) (hl : l.stackTraces = false) (G : GG) (l0 : Nat) (l1 : Int32) (l2 : Int32) (M : Mem) (x : Int32) (h : F_X9_leastOf l0 l1 l2 M = some x) : Ct l G yX9_leastOf (.code yX9_leastOf cX9_leastOf 3 (some .int)) 7 140 [.ref l0, .int l1, .int l2] M (rs_pI x) M := by
  refine Ct_of (by decide +kernel) (Nat.le_of_ble_eq_true rfl) fun X e1 e2 e3 C FN hnm => ?_
  subst e1; subst e2
  show wq X 3 0 [(0, .ref l0), (1, .int l1), (2, .int l2)] [] M
  exact w_X9_leastOf C FN.2.2.2 hl l0 l1 l2 M h FN
/-! X9_byHouse -/
set_option maxRecDepth 100000 in
set_option maxHeartbeats 4000000 in
theorem w_X9_byHouse {X : CX} {y : Int32} (C : CK X cX9_byHouse 4 RX9 9 185) (hRO : RO X.2.2.1 X.1.2.2.2.2.1 X.1.2.2.2.2.1.heap) (hl : X.1.2.1.stackTraces = false) (l0 : Nat) (l1 : Int32) (l2 : Int32) (l3 : Int32) (M : Mem) (h : F_X9_byHouse l0 l1 l2 l3 M = some y) (kf : FIN X (some .int) (rs_pI y) M) : wq X 4 0 [(0, .ref l0), (1, .int l1), (2, .int l2), (3, .int l3)] [] M := by
  unfold F_X9_byHouse at h
  refine q_aload_n 0 C dX9_byHouse_0 rfl ?_
  refine q_iconst (v := (0 : Int32)) C dX9_byHouse_1 (by decide) ?_
  refine q_iload_n 1 C dX9_byHouse_2 rfl ?_
  refine q_iload_n 2 C dX9_byHouse_3 rfl ?_
  obtain ⟨e1, h⟩ := ckOE h
  obtain ⟨v3, e2, h⟩ := bindE h
  refine q_callV (v := some (.int v3)) [.int (0 : Int32), .int l1, .int l2] C hRO lk_RX9_312 vk_X9_tightOf e1 rfl rfl rfl (Nat.le_of_ble_eq_true rfl) (by decide) (by decide) dX9_byHouse_4 (k_X9_tightOf X.1.2.1 hl X.2.2.1 l0 (0 : Int32) l1 l2 M _ e2) ?_
  refine q_aload_n 0 C dX9_byHouse_7 rfl ?_
  refine q_iload_n 1 C dX9_byHouse_8 rfl ?_
  refine q_iconst (v := (1 : Int32)) C dX9_byHouse_9 (by decide) ?_
  refine q_iadd C dX9_byHouse_10 ?_
  refine q_iload_n 3 C dX9_byHouse_11 rfl ?_
  refine q_iconst (v := (1 : Int32)) C dX9_byHouse_12 (by decide) ?_
  refine q_iload_n 2 C dX9_byHouse_13 rfl ?_
  refine q_ishl C dX9_byHouse_14 ?_
  refine q_ior C dX9_byHouse_15 ?_
  obtain ⟨e4, h⟩ := ckOE h
  obtain ⟨v6, e5, h⟩ := bindE h
  refine q_callV (v := some (.int v6)) [.int (l1 + (1 : Int32)), .int (l3 ||| ((1 : Int32) <<< (l2 &&& 31)))] C hRO lk_RX9_406 vk_X9_leastOf e4 rfl rfl rfl (Nat.le_of_ble_eq_true rfl) (by decide) (by decide) dX9_byHouse_16 (k_X9_leastOf X.1.2.1 hl X.2.2.1 l0 (l1 + (1 : Int32)) (l3 ||| ((1 : Int32) <<< (l2 &&& 31))) M _ e5) ?_
  refine q_iadd C dX9_byHouse_19 ?_
  cases h
  exact q_iret C kf dX9_byHouse_20
theorem k_X9_byHouse (l : Launch) (hl : l.stackTraces = false) (G : GG) (l0 : Nat) (l1 : Int32) (l2 : Int32) (l3 : Int32) (M : Mem) (x : Int32) (h : F_X9_byHouse l0 l1 l2 l3 M = some x) : Ct l G yX9_byHouse (.code yX9_byHouse cX9_byHouse 4 (some .int)) 9 185 [.ref l0, .int l1, .int l2, .int l3] M (rs_pI x) M := by
  refine Ct_of (by decide +kernel) (Nat.le_of_ble_eq_true rfl) fun X e1 e2 e3 C FN hnm => ?_
  subst e1; subst e2
  show wq X 4 0 [(0, .ref l0), (1, .int l1), (2, .int l2), (3, .int l3)] [] M
  exact w_X9_byHouse C FN.2.2.2 hl l0 l1 l2 l3 M h FN
/-! X9_isPerson -/
set_option maxRecDepth 100000 in
set_option maxHeartbeats 4000000 in
theorem w_X9_isPerson {X : CX} {y : Int32 × Mem} (C : CK X cX9_isPerson 2 RX9 8 162) (hRO : RO X.2.2.1 X.1.2.2.2.2.1 X.1.2.2.2.2.1.heap) (hl : X.1.2.1.stackTraces = false) (l0 : Nat) (l1 : Int32) (M : Mem) (h : F_X9_isPerson l0 l1 M = some y) (kf : FIN X (some .boolean) (rs_mI y) (ms_mI y)) : wq X 2 0 [(0, .ref l0), (1, .int l1)] [] M := by
  unfold F_X9_isPerson at h
  refine q_aload_n 0 C dX9_isPerson_0 rfl ?_
  refine q_iload_n 1 C dX9_isPerson_1 rfl ?_
  refine q_if_lt (tgt := 17) C dX9_isPerson_2 (by decide) (fun c1 => ?_) (fun c1 => ?_)
  · have h := ifT c1 h
    refine q_iconst (v := (0 : Int32)) C dX9_isPerson_17 (by decide) ?_
    refine q_iconst (v := (1 : Int32)) C dX9_isPerson_18 (by decide) ?_
    obtain ⟨e2, h⟩ := ckOE h
    obtain ⟨v5, M4, e3, h⟩ := bd2E h
    refine q_callV (v := some (.int v5)) [.int (0 : Int32), .int (1 : Int32)] C hRO lk_RX9_268 vk_X9_right e2 rfl rfl rfl (Nat.le_of_ble_eq_true rfl) (by decide) (by decide) dX9_isPerson_19 (k_X9_right X.1.2.1 hl X.2.2.1 l0 (0 : Int32) (1 : Int32) M _ e3) ?_
    cases h
    exact q_zretE (w := (nz v5)) rfl C kf dX9_isPerson_22
  · have h := ifF c1 h
    refine q_iload_n 1 C dX9_isPerson_5 rfl ?_
    refine q_aload_n 0 C dX9_isPerson_6 rfl ?_
    obtain ⟨v6, e7, h⟩ := bindE h
    refine q_getI C fl_RX9_278 rfl e7 dX9_isPerson_7 ?_
    refine q_icmp_ge (tgt := 17) C dX9_isPerson_10 (by decide) (fun c8 => ?_) (fun c8 => ?_)
    · have h := ifT c8 h
      refine q_iconst (v := (0 : Int32)) C dX9_isPerson_17 (by decide) ?_
      refine q_iconst (v := (1 : Int32)) C dX9_isPerson_18 (by decide) ?_
      obtain ⟨e9, h⟩ := ckOE h
      obtain ⟨v12, M11, e10, h⟩ := bd2E h
      refine q_callV (v := some (.int v12)) [.int (0 : Int32), .int (1 : Int32)] C hRO lk_RX9_268 vk_X9_right e9 rfl rfl rfl (Nat.le_of_ble_eq_true rfl) (by decide) (by decide) dX9_isPerson_19 (k_X9_right X.1.2.1 hl X.2.2.1 l0 (0 : Int32) (1 : Int32) M _ e10) ?_
      cases h
      exact q_zretE (w := (nz v12)) rfl C kf dX9_isPerson_22
    · have h := ifF c8 h
      refine q_iconst (v := (1 : Int32)) C dX9_isPerson_13 (by decide) ?_
      refine q_goto (tgt := 18) C dX9_isPerson_14 (by decide) ?_
      refine q_iconst (v := (1 : Int32)) C dX9_isPerson_18 (by decide) ?_
      obtain ⟨e13, h⟩ := ckOE h
      obtain ⟨v16, M15, e14, h⟩ := bd2E h
      refine q_callV (v := some (.int v16)) [.int (1 : Int32), .int (1 : Int32)] C hRO lk_RX9_268 vk_X9_right e13 rfl rfl rfl (Nat.le_of_ble_eq_true rfl) (by decide) (by decide) dX9_isPerson_19 (k_X9_right X.1.2.1 hl X.2.2.1 l0 (1 : Int32) (1 : Int32) M _ e14) ?_
      cases h
      exact q_zretE (w := (nz v16)) rfl C kf dX9_isPerson_22
theorem k_X9_isPerson (l : Launch) (hl : l.stackTraces = false) (G : GG) (l0 : Nat) (l1 : Int32) (M : Mem) (x : Int32 × Mem) (h : F_X9_isPerson l0 l1 M = some x) : Ct l G yX9_isPerson (.code yX9_isPerson cX9_isPerson 2 (some .boolean)) 8 162 [.ref l0, .int l1] M (rs_mI x) (ms_mI x) := by
  refine Ct_of (by decide +kernel) (Nat.le_of_ble_eq_true rfl) fun X e1 e2 e3 C FN hnm => ?_
  subst e1; subst e2
  show wq X 2 0 [(0, .ref l0), (1, .int l1)] [] M
  exact w_X9_isPerson C FN.2.2.2 hl l0 l1 M h FN
/-! X9_keeps -/
set_option maxRecDepth 100000 in
set_option maxHeartbeats 4000000 in
theorem w_X9_keeps_s52 {X : CX} {y : (Int32 × Mem) ⊕ (Mem)} (C : CK X cX9_keeps 2 RX9 7 140) (hRO : RO X.2.2.1 X.1.2.2.2.2.1 X.1.2.2.2.2.1.heap) (hl : X.1.2.1.stackTraces = false) (l0 : Nat) (l1 : Int32) (M : Mem) (h : F_X9_keeps_s52 l0 l1 M = some y) (kc : ∀ s' : Int32 × Mem, y = .inl s' → wq X 2 52 [(0, .ref l0), (1, .int (s'.1))] [] s'.2) (kx : ∀ e' : Mem, y = (.inr e') → wq X 2 84 [(0, .ref l0)] [] e') : wq X 2 52 [(0, .ref l0), (1, .int l1)] [] M := by
  unfold F_X9_keeps_s52 at h
  refine q_iload_n 1 C dX9_keeps_52 rfl ?_
  refine q_bipush (v := (43 : Int32)) C dX9_keeps_53 (by decide) ?_
  refine q_icmp_ge (tgt := 84) C dX9_keeps_55 (by decide) (fun c4 => ?_) (fun c4 => ?_)
  · have h := ifT c4 h
    exact q_sub (lv' := [(0, .ref l0)]) [0] rfl (kx M (someI h))
  · have h := ifF c4 h
    refine q_aload_n 0 C dX9_keeps_58 rfl ?_
    obtain ⟨v5, e6, h⟩ := bindE h
    refine q_getP C fl_RX9_69 rfl e6 dX9_keeps_59 ?_
    refine q_bipush (v := (43 : Int32)) C dX9_keeps_62 (by decide) ?_
    refine q_aload_n 0 C dX9_keeps_64 rfl ?_
    obtain ⟨v7, e8, h⟩ := bindE h
    refine q_getI C fl_RX9_288 rfl e8 dX9_keeps_65 ?_
    refine q_imul C dX9_keeps_68 ?_
    refine q_iload_n 1 C dX9_keeps_69 rfl ?_
    refine q_iadd C dX9_keeps_70 ?_
    refine q_aload_n 0 C dX9_keeps_71 rfl ?_
    obtain ⟨v9, e10, h⟩ := bindE h
    refine q_getP C fl_RX9_66 rfl e10 dX9_keeps_72 ?_
    refine q_iload_n 1 C dX9_keeps_75 rfl ?_
    obtain ⟨v11, e12, h⟩ := bindE h
    refine q_iaload C e12 dX9_keeps_76 ?_
    obtain ⟨M13, e14, h⟩ := bindE h
    refine q_iastore C e14 dX9_keeps_77 ?_
    refine q_iinc 1 (v := (l1 + (1 : Int32))) (lv' := [(1, .int (l1 + (1 : Int32))), (0, .ref l0)]) C dX9_keeps_78 rfl rfl (by decide) rfl ?_
    refine q_goto (tgt := 52) C dX9_keeps_81 (by decide) ?_
    exact q_sub (lv' := [(0, .ref l0), (1, .int (l1 + (1 : Int32)))]) [1, 0] rfl (kc ((l1 + (1 : Int32)), M13) (someI h))
theorem w_X9_keeps_l52 {X : CX} {r : Mem} (C : CK X cX9_keeps 2 RX9 7 140) (hRO : RO X.2.2.1 X.1.2.2.2.2.1 X.1.2.2.2.2.1.heap) (hl : X.1.2.1.stackTraces = false) (l0 : Nat) (l1 : Int32) (M : Mem) (h : loop (fun s => F_X9_keeps_s52 l0 s.1 s.2) (l1, M) = some r) (kx : ∀ e' : Mem, r = e' → wq X 2 84 [(0, .ref l0)] [] e') : wq X 2 52 [(0, .ref l0), (1, .int l1)] [] M :=
  loop_ind (P := fun s => wq X 2 52 [(0, .ref l0), (1, .int s.1)] [] s.2) h (fun s y hy kc kr => w_X9_keeps_s52 C hRO hl l0 s.1 s.2 hy kc (fun e' he => kx e' (kr _ he).symm))
set_option maxRecDepth 100000 in
set_option maxHeartbeats 4000000 in
theorem w_X9_keeps_s12 {X : CX} {y : (Int32 × Mem) ⊕ (Mem)} (C : CK X cX9_keeps 2 RX9 7 140) (hRO : RO X.2.2.1 X.1.2.2.2.2.1 X.1.2.2.2.2.1.heap) (hl : X.1.2.1.stackTraces = false) (l0 : Nat) (l1 : Int32) (M : Mem) (h : F_X9_keeps_s12 l0 l1 M = some y) (kc : ∀ s' : Int32 × Mem, y = .inl s' → wq X 2 12 [(0, .ref l0), (1, .int (s'.1))] [] s'.2) (kx : ∀ e' : Mem, y = (.inr e') → wq X 2 40 [(0, .ref l0)] [] e') : wq X 2 12 [(0, .ref l0), (1, .int l1)] [] M := by
  unfold F_X9_keeps_s12 at h
  refine q_iload_n 1 C dX9_keeps_12 rfl ?_
  refine q_sipush (v := (1720 : Int32)) C dX9_keeps_13 (by decide) ?_
  refine q_icmp_ge (tgt := 40) C dX9_keeps_16 (by decide) (fun c23 => ?_) (fun c23 => ?_)
  · have h := ifT c23 h
    exact q_sub (lv' := [(0, .ref l0)]) [0] rfl (kx M (someI h))
  · have h := ifF c23 h
    refine q_aload_n 0 C dX9_keeps_19 rfl ?_
    obtain ⟨v24, e25, h⟩ := bindE h
    refine q_getP C fl_RX9_69 rfl e25 dX9_keeps_20 ?_
    refine q_iload_n 1 C dX9_keeps_23 rfl ?_
    refine q_bipush (v := (43 : Int32)) C dX9_keeps_24 (by decide) ?_
    refine q_isub C dX9_keeps_26 ?_
    refine q_aload_n 0 C dX9_keeps_27 rfl ?_
    obtain ⟨v26, e27, h⟩ := bindE h
    refine q_getP C fl_RX9_69 rfl e27 dX9_keeps_28 ?_
    refine q_iload_n 1 C dX9_keeps_31 rfl ?_
    obtain ⟨v28, e29, h⟩ := bindE h
    refine q_iaload C e29 dX9_keeps_32 ?_
    obtain ⟨M30, e31, h⟩ := bindE h
    refine q_iastore C e31 dX9_keeps_33 ?_
    refine q_iinc 1 (v := (l1 + (1 : Int32))) (lv' := [(1, .int (l1 + (1 : Int32))), (0, .ref l0)]) C dX9_keeps_34 rfl rfl (by decide) rfl ?_
    refine q_goto (tgt := 12) C dX9_keeps_37 (by decide) ?_
    exact q_sub (lv' := [(0, .ref l0), (1, .int (l1 + (1 : Int32)))]) [1, 0] rfl (kc ((l1 + (1 : Int32)), M30) (someI h))
theorem w_X9_keeps_l12 {X : CX} {r : Mem} (C : CK X cX9_keeps 2 RX9 7 140) (hRO : RO X.2.2.1 X.1.2.2.2.2.1 X.1.2.2.2.2.1.heap) (hl : X.1.2.1.stackTraces = false) (l0 : Nat) (l1 : Int32) (M : Mem) (h : loop (fun s => F_X9_keeps_s12 l0 s.1 s.2) (l1, M) = some r) (kx : ∀ e' : Mem, r = e' → wq X 2 40 [(0, .ref l0)] [] e') : wq X 2 12 [(0, .ref l0), (1, .int l1)] [] M :=
  loop_ind (P := fun s => wq X 2 12 [(0, .ref l0), (1, .int s.1)] [] s.2) h (fun s y hy kc kr => w_X9_keeps_s12 C hRO hl l0 s.1 s.2 hy kc (fun e' he => kx e' (kr _ he).symm))
set_option maxRecDepth 100000 in
set_option maxHeartbeats 4000000 in
theorem w_X9_keeps {X : CX} {y : Mem} (C : CK X cX9_keeps 2 RX9 7 140) (hRO : RO X.2.2.1 X.1.2.2.2.2.1 X.1.2.2.2.2.1.heap) (hl : X.1.2.1.stackTraces = false) (l0 : Nat) (M : Mem) (h : F_X9_keeps l0 M = some y) (kf : FIN X none (rs_mV y) (ms_mV y)) : wq X 2 0 [(0, .ref l0)] [] M := by
  unfold F_X9_keeps at h
  refine q_aload_n 0 C dX9_keeps_0 rfl ?_
  obtain ⟨v1, e2, h⟩ := bindE h
  refine q_getI C fl_RX9_288 rfl e2 dX9_keeps_1 ?_
  refine q_bipush (v := (40 : Int32)) C dX9_keeps_4 (by decide) ?_
  refine q_icmp_ne (tgt := 50) C dX9_keeps_6 (by decide) (fun c3 => ?_) (fun c3 => ?_)
  · have h := ifF c3 h
    refine q_iconst (v := (0 : Int32)) C dX9_keeps_50 (by decide) ?_
    refine q_istore_n (i := 1) (lv' := [(1, .int (0 : Int32)), (0, .ref l0)]) C dX9_keeps_51 rfl (by decide) rfl ?_
    obtain ⟨M17, e16, h⟩ := bindE h
    refine q_sub (lv' := [(0, .ref l0), (1, .int (0 : Int32))]) [1, 0] rfl (w_X9_keeps_l52 C hRO hl l0 (0 : Int32) M e16 (fun r15 he => ?_))
    subst he
    show wq X 2 84 [(0, .ref l0)] [] M17
    refine q_aload_n 0 C dX9_keeps_84 rfl ?_
    refine q_dup C dX9_keeps_85 rfl ?_
    obtain ⟨v18, e19, h⟩ := bindE h
    refine q_getI C fl_RX9_288 rfl e19 dX9_keeps_86 ?_
    refine q_iconst (v := (1 : Int32)) C dX9_keeps_89 (by decide) ?_
    refine q_iadd C dX9_keeps_90 ?_
    obtain ⟨M20, e21, h⟩ := bindE h
    refine q_putI C fp_RX9_288 rfl e21 dX9_keeps_91 ?_
    cases h
    exact q_vret C kf dX9_keeps_94
  · have h := ifT c3 h
    refine q_bipush (v := (43 : Int32)) C dX9_keeps_9 (by decide) ?_
    refine q_istore_n (i := 1) (lv' := [(1, .int (43 : Int32)), (0, .ref l0)]) C dX9_keeps_11 rfl (by decide) rfl ?_
    obtain ⟨M34, e33, h⟩ := bindE h
    refine q_sub (lv' := [(0, .ref l0), (1, .int (43 : Int32))]) [1, 0] rfl (w_X9_keeps_l12 C hRO hl l0 (43 : Int32) M e33 (fun r32 he => ?_))
    subst he
    show wq X 2 40 [(0, .ref l0)] [] M34
    refine q_aload_n 0 C dX9_keeps_40 rfl ?_
    refine q_dup C dX9_keeps_41 rfl ?_
    obtain ⟨v35, e36, h⟩ := bindE h
    refine q_getI C fl_RX9_288 rfl e36 dX9_keeps_42 ?_
    refine q_iconst (v := (1 : Int32)) C dX9_keeps_45 (by decide) ?_
    refine q_isub C dX9_keeps_46 ?_
    obtain ⟨M37, e38, h⟩ := bindE h
    refine q_putI C fp_RX9_288 rfl e38 dX9_keeps_47 ?_
    refine q_iconst (v := (0 : Int32)) C dX9_keeps_50 (by decide) ?_
    refine q_istore_n (i := 1) (lv' := [(1, .int (0 : Int32)), (0, .ref l0)]) C dX9_keeps_51 rfl (by decide) rfl ?_
    obtain ⟨M41, e40, h⟩ := bindE h
    refine q_sub (lv' := [(0, .ref l0), (1, .int (0 : Int32))]) [1, 0] rfl (w_X9_keeps_l52 C hRO hl l0 (0 : Int32) M37 e40 (fun r39 he => ?_))
    subst he
    show wq X 2 84 [(0, .ref l0)] [] M41
    refine q_aload_n 0 C dX9_keeps_84 rfl ?_
    refine q_dup C dX9_keeps_85 rfl ?_
    obtain ⟨v42, e43, h⟩ := bindE h
    refine q_getI C fl_RX9_288 rfl e43 dX9_keeps_86 ?_
    refine q_iconst (v := (1 : Int32)) C dX9_keeps_89 (by decide) ?_
    refine q_iadd C dX9_keeps_90 ?_
    obtain ⟨M44, e45, h⟩ := bindE h
    refine q_putI C fp_RX9_288 rfl e45 dX9_keeps_91 ?_
    cases h
    exact q_vret C kf dX9_keeps_94
theorem k_X9_keeps (l : Launch) (hl : l.stackTraces = false) (G : GG) (l0 : Nat) (M : Mem) (x : Mem) (h : F_X9_keeps l0 M = some x) : Ct l G yX9_keeps (.code yX9_keeps cX9_keeps 2 none) 7 140 [.ref l0] M (rs_mV x) (ms_mV x) := by
  refine Ct_of (by decide +kernel) (Nat.le_of_ble_eq_true rfl) fun X e1 e2 e3 C FN hnm => ?_
  subst e1; subst e2
  show wq X 2 0 [(0, .ref l0)] [] M
  exact w_X9_keeps C FN.2.2.2 hl l0 M h FN
/-! X9_refuses -/
set_option maxRecDepth 100000 in
set_option maxHeartbeats 4000000 in
theorem w_X9_refuses {X : CX} {y : Int32 × Mem} (C : CK X cX9_refuses 2 RX9 7 140) (hRO : RO X.2.2.1 X.1.2.2.2.2.1 X.1.2.2.2.2.1.heap) (hl : X.1.2.1.stackTraces = false) (l0 : Nat) (l1 : Int32) (M : Mem) (h : F_X9_refuses l0 l1 M = some y) (kf : FIN X (some .int) (rs_mI y) (ms_mI y)) : wq X 2 0 [(0, .ref l0), (1, .int l1)] [] M := by
  unfold F_X9_refuses at h
  refine q_aload_n 0 C dX9_refuses_0 rfl ?_
  obtain ⟨v1, e2, h⟩ := bindE h
  refine q_getP C fl_RX9_38 rfl e2 dX9_refuses_1 ?_
  refine q_iload_n 1 C dX9_refuses_4 rfl ?_
  refine q_dup2 C dX9_refuses_5 rfl rfl ?_
  obtain ⟨v3, e4, h⟩ := bindE h
  refine q_iaload C e4 dX9_refuses_6 ?_
  refine q_iconst (v := (1 : Int32)) C dX9_refuses_7 (by decide) ?_
  refine q_iadd C dX9_refuses_8 ?_
  obtain ⟨M5, e6, h⟩ := bindE h
  refine q_iastore C e6 dX9_refuses_9 ?_
  refine q_iconst (v := (-1 : Int32)) C dX9_refuses_10 (by decide) ?_
  cases h
  exact q_iret C kf dX9_refuses_11
theorem k_X9_refuses (l : Launch) (hl : l.stackTraces = false) (G : GG) (l0 : Nat) (l1 : Int32) (M : Mem) (x : Int32 × Mem) (h : F_X9_refuses l0 l1 M = some x) : Ct l G yX9_refuses (.code yX9_refuses cX9_refuses 2 (some .int)) 7 140 [.ref l0, .int l1] M (rs_mI x) (ms_mI x) := by
  refine Ct_of (by decide +kernel) (Nat.le_of_ble_eq_true rfl) fun X e1 e2 e3 C FN hnm => ?_
  subst e1; subst e2
  show wq X 2 0 [(0, .ref l0), (1, .int l1)] [] M
  exact w_X9_refuses C FN.2.2.2 hl l0 l1 M h FN
/-! X9_easesOf -/
set_option maxRecDepth 100000 in
set_option maxHeartbeats 4000000 in
theorem w_X9_easesOf {X : CX} {y : Int32 × Mem} (C : CK X cX9_easesOf 4 RX9 10 210) (hRO : RO X.2.2.1 X.1.2.2.2.2.1 X.1.2.2.2.2.1.heap) (hl : X.1.2.1.stackTraces = false) (l0 : Nat) (l1 : Int32) (l2 : Int32) (l3 : Int32) (M : Mem) (h : F_X9_easesOf l0 l1 l2 l3 M = some y) (kf : FIN X (some .int) (rs_mI y) (ms_mI y)) : wq X 4 0 [(0, .ref l0), (1, .int l1), (2, .int l2), (3, .int l3)] [] M := by
  unfold F_X9_easesOf at h
  refine q_aload_n 0 C dX9_easesOf_0 rfl ?_
  obtain ⟨v1, e2, h⟩ := bindE h
  refine q_getI C fl_RX9_9 rfl e2 dX9_easesOf_1 ?_
  refine q_iconst (v := (-1 : Int32)) C dX9_easesOf_4 (by decide) ?_
  refine q_icmp_ne (tgt := 38) C dX9_easesOf_5 (by decide) (fun c3 => ?_) (fun c3 => ?_)
  · have h := ifF c3 h
    refine q_aload_n 0 C dX9_easesOf_38 rfl ?_
    refine q_aload_n 0 C dX9_easesOf_39 rfl ?_
    obtain ⟨v4, e5, h⟩ := bindE h
    refine q_getI C fl_RX9_9 rfl e5 dX9_easesOf_40 ?_
    refine q_iload_n 1 C dX9_easesOf_43 rfl ?_
    refine q_iload_n 2 C dX9_easesOf_44 rfl ?_
    refine q_iload_n 3 C dX9_easesOf_45 rfl ?_
    obtain ⟨e6, h⟩ := ckOE h
    obtain ⟨v9, M8, e7, h⟩ := bd2E h
    refine q_callV (v := some (.int v9)) [.int v4, .int l1, .int l2, .int l3] C hRO lk_RX9_318 vk_X9_asks e6 rfl rfl rfl (Nat.le_of_ble_eq_true rfl) (by decide) (by decide) dX9_easesOf_46 (k_X9_asks X.1.2.1 hl X.2.2.1 l0 v4 l1 l2 l3 M _ e7) ?_
    refine q_iconst (v := (0 : Int32)) C dX9_easesOf_49 (by decide) ?_
    refine q_bipush (v := (30 : Int32)) C dX9_easesOf_50 (by decide) ?_
    obtain ⟨v11, e10, h⟩ := bindE h
    refine q_callS (v := some (.int v11)) [.int v9, .int (0 : Int32), .int (30 : Int32)] C hRO lk_RX9_306 sk_X9_bounded rfl rfl (Nat.le_of_ble_eq_true rfl) (by decide) (by decide) dX9_easesOf_52 (k_X9_bounded X.1.2.1 hl X.2.2.1 v9 (0 : Int32) (30 : Int32) M8 _ e10) ?_
    cases h
    exact q_iret C kf dX9_easesOf_55
  · have h := ifT c3 h
    refine q_aload_n 0 C dX9_easesOf_8 rfl ?_
    obtain ⟨v12, e13, h⟩ := bindE h
    refine q_getP C fl_RX9_16 rfl e13 dX9_easesOf_9 ?_
    refine q_iload_n 3 C dX9_easesOf_12 rfl ?_
    obtain ⟨v14, e15, h⟩ := bindE h
    refine q_iaload C e15 dX9_easesOf_13 ?_
    refine q_aload_n 0 C dX9_easesOf_14 rfl ?_
    refine q_iload_n 1 C dX9_easesOf_15 rfl ?_
    obtain ⟨e16, h⟩ := ckOE h
    obtain ⟨v18, e17, h⟩ := bindE h
    refine q_callV (v := some (.int v18)) [.int l1] C hRO lk_RX9_309 vk_X9_dampIn e16 rfl rfl rfl (Nat.le_of_ble_eq_true rfl) (by decide) (by decide) dX9_easesOf_16 (k_X9_dampIn X.1.2.1 hl X.2.2.1 l0 l1 M _ e17) ?_
    refine q_iadd C dX9_easesOf_19 ?_
    refine q_aload_n 0 C dX9_easesOf_20 rfl ?_
    obtain ⟨v19, e20, h⟩ := bindE h
    refine q_getP C fl_RX9_66 rfl e20 dX9_easesOf_21 ?_
    refine q_iload_n 1 C dX9_easesOf_24 rfl ?_
    refine q_bipush (v := (11 : Int32)) C dX9_easesOf_25 (by decide) ?_
    refine q_iadd C dX9_easesOf_27 ?_
    refine q_iload_n 3 C dX9_easesOf_28 rfl ?_
    refine q_iadd C dX9_easesOf_29 ?_
    obtain ⟨v21, e22, h⟩ := bindE h
    refine q_iaload C e22 dX9_easesOf_30 ?_
    refine q_bipush (v := (10 : Int32)) C dX9_easesOf_31 (by decide) ?_
    refine q_idiv C (by decide) dX9_easesOf_33 ?_
    refine q_iadd C dX9_easesOf_34 ?_
    refine q_goto (tgt := 49) C dX9_easesOf_35 (by decide) ?_
    refine q_iconst (v := (0 : Int32)) C dX9_easesOf_49 (by decide) ?_
    refine q_bipush (v := (30 : Int32)) C dX9_easesOf_50 (by decide) ?_
    obtain ⟨v24, e23, h⟩ := bindE h
    refine q_callS (v := some (.int v24)) [.int ((v14 + v18) + (v21 / (10 : Int32))), .int (0 : Int32), .int (30 : Int32)] C hRO lk_RX9_306 sk_X9_bounded rfl rfl (Nat.le_of_ble_eq_true rfl) (by decide) (by decide) dX9_easesOf_52 (k_X9_bounded X.1.2.1 hl X.2.2.1 ((v14 + v18) + (v21 / (10 : Int32))) (0 : Int32) (30 : Int32) M _ e23) ?_
    cases h
    exact q_iret C kf dX9_easesOf_55
theorem k_X9_easesOf (l : Launch) (hl : l.stackTraces = false) (G : GG) (l0 : Nat) (l1 : Int32) (l2 : Int32) (l3 : Int32) (M : Mem) (x : Int32 × Mem) (h : F_X9_easesOf l0 l1 l2 l3 M = some x) : Ct l G yX9_easesOf (.code yX9_easesOf cX9_easesOf 4 (some .int)) 10 210 [.ref l0, .int l1, .int l2, .int l3] M (rs_mI x) (ms_mI x) := by
  refine Ct_of (by decide +kernel) (Nat.le_of_ble_eq_true rfl) fun X e1 e2 e3 C FN hnm => ?_
  subst e1; subst e2
  show wq X 4 0 [(0, .ref l0), (1, .int l1), (2, .int l2), (3, .int l3)] [] M
  exact w_X9_easesOf C FN.2.2.2 hl l0 l1 l2 l3 M h FN
/-! X9_wouldGo -/
set_option maxRecDepth 100000 in
set_option maxHeartbeats 4000000 in
theorem w_X9_wouldGo {X : CX} {y : Int32 × Mem} (C : CK X cX9_wouldGo 4 RX9 11 233) (hRO : RO X.2.2.1 X.1.2.2.2.2.1 X.1.2.2.2.2.1.heap) (hl : X.1.2.1.stackTraces = false) (l0 : Nat) (l1 : Int32) (l2 : Int32) (l3 : Int32) (M : Mem) (h : F_X9_wouldGo l0 l1 l2 l3 M = some y) (kf : FIN X (some .boolean) (rs_mI y) (ms_mI y)) : wq X 4 0 [(0, .ref l0), (1, .int l1), (2, .int l2), (3, .int l3)] [] M := by
  unfold F_X9_wouldGo at h
  refine q_aload_n 0 C dX9_wouldGo_0 rfl ?_
  refine q_iload_n 1 C dX9_wouldGo_1 rfl ?_
  refine q_iload_n 3 C dX9_wouldGo_2 rfl ?_
  obtain ⟨e1, h⟩ := ckOE h
  obtain ⟨v3, e2, h⟩ := bindE h
  refine q_callV (v := some (.int v3)) [.int l1, .int l3] C hRO lk_RX9_322 vk_X9_isBurst e1 rfl rfl rfl (Nat.le_of_ble_eq_true rfl) (by decide) (by decide) dX9_wouldGo_3 (k_X9_isBurst X.1.2.1 hl X.2.2.1 l0 l1 l3 M _ e2) ?_
  refine q_if_ne (tgt := 30) C dX9_wouldGo_6 (by decide) (fun c4 => ?_) (fun c4 => ?_)
  · have h := ifF c4 h
    refine q_iconst (v := (0 : Int32)) C dX9_wouldGo_30 (by decide) ?_
    cases h
    exact q_zretE (w := (0 : Int32)) (by decide) C kf dX9_wouldGo_31
  · have h := ifT c4 h
    refine q_aload_n 0 C dX9_wouldGo_9 rfl ?_
    refine q_iload_n 1 C dX9_wouldGo_10 rfl ?_
    refine q_iload_n 2 C dX9_wouldGo_11 rfl ?_
    refine q_iload_n 3 C dX9_wouldGo_12 rfl ?_
    obtain ⟨e5, h⟩ := ckOE h
    obtain ⟨v7, e6, h⟩ := bindE h
    refine q_callV (v := some (.int v7)) [.int l1, .int l2, .int l3] C hRO lk_RX9_312 vk_X9_tightOf e5 rfl rfl rfl (Nat.le_of_ble_eq_true rfl) (by decide) (by decide) dX9_wouldGo_13 (k_X9_tightOf X.1.2.1 hl X.2.2.1 l0 l1 l2 l3 M _ e6) ?_
    refine q_aload_n 0 C dX9_wouldGo_16 rfl ?_
    refine q_iload_n 1 C dX9_wouldGo_17 rfl ?_
    refine q_iload_n 2 C dX9_wouldGo_18 rfl ?_
    refine q_iload_n 3 C dX9_wouldGo_19 rfl ?_
    obtain ⟨e8, h⟩ := ckOE h
    obtain ⟨v11, M10, e9, h⟩ := bd2E h
    refine q_callV (v := some (.int v11)) [.int l1, .int l2, .int l3] C hRO lk_RX9_326 vk_X9_easesOf e8 rfl rfl rfl (Nat.le_of_ble_eq_true rfl) (by decide) (by decide) dX9_wouldGo_20 (k_X9_easesOf X.1.2.1 hl X.2.2.1 l0 l1 l2 l3 M _ e9) ?_
    refine q_icmp_gt (tgt := 30) C dX9_wouldGo_23 (by decide) (fun c12 => ?_) (fun c12 => ?_)
    · have h := ifT c12 h
      refine q_iconst (v := (0 : Int32)) C dX9_wouldGo_30 (by decide) ?_
      cases h
      exact q_zretE (w := (0 : Int32)) (by decide) C kf dX9_wouldGo_31
    · have h := ifF c12 h
      refine q_iconst (v := (1 : Int32)) C dX9_wouldGo_26 (by decide) ?_
      refine q_goto (tgt := 31) C dX9_wouldGo_27 (by decide) ?_
      cases h
      exact q_zretE (w := (1 : Int32)) (by decide) C kf dX9_wouldGo_31
theorem k_X9_wouldGo (l : Launch) (hl : l.stackTraces = false) (G : GG) (l0 : Nat) (l1 : Int32) (l2 : Int32) (l3 : Int32) (M : Mem) (x : Int32 × Mem) (h : F_X9_wouldGo l0 l1 l2 l3 M = some x) : Ct l G yX9_wouldGo (.code yX9_wouldGo cX9_wouldGo 4 (some .boolean)) 11 233 [.ref l0, .int l1, .int l2, .int l3] M (rs_mI x) (ms_mI x) := by
  refine Ct_of (by decide +kernel) (Nat.le_of_ble_eq_true rfl) fun X e1 e2 e3 C FN hnm => ?_
  subst e1; subst e2
  show wq X 4 0 [(0, .ref l0), (1, .int l1), (2, .int l2), (3, .int l3)] [] M
  exact w_X9_wouldGo C FN.2.2.2 hl l0 l1 l2 l3 M h FN
/-! X9_change -/
set_option maxRecDepth 100000 in
set_option maxHeartbeats 4000000 in
theorem w_X9_change_j131 {X : CX} {y : Int32 × Mem} (C : CK X cX9_change 6 RX9 12 256) (hRO : RO X.2.2.1 X.1.2.2.2.2.1 X.1.2.2.2.2.1.heap) (hl : X.1.2.1.stackTraces = false) (l0 : Nat) (l1 : Int32) (l4 : Int32) (M : Mem) (h : F_X9_change_j131 l0 l1 l4 M = some y) (kf : FIN X (some .boolean) (rs_mI y) (ms_mI y)) : wq X 6 131 [(0, .ref l0), (1, .int l1), (4, .int l4)] [] M := by
  unfold F_X9_change_j131 at h
  refine q_iload 2 C dX9_change_131 rfl ?_
  refine q_iconst (v := (-1 : Int32)) C dX9_change_133 (by decide) ?_
  refine q_icmp_eq (tgt := 148) C dX9_change_134 (by decide) (fun c26 => ?_) (fun c26 => ?_)
  · have h := ifT c26 h
    refine q_iconst (v := (1 : Int32)) C dX9_change_148 (by decide) ?_
    cases h
    exact q_zretE (w := (1 : Int32)) (by decide) C kf dX9_change_149
  · have h := ifF c26 h
    refine q_aload_n 0 C dX9_change_137 rfl ?_
    obtain ⟨v27, e28, h⟩ := bindE h
    refine q_getP C fl_RX9_66 rfl e28 dX9_change_138 ?_
    refine q_bipush (v := (19 : Int32)) C dX9_change_141 (by decide) ?_
    refine q_iload 2 C dX9_change_143 rfl ?_
    refine q_iadd C dX9_change_145 ?_
    refine q_iload_n 1 C dX9_change_146 rfl ?_
    obtain ⟨M29, e30, h⟩ := bindE h
    refine q_iastore C e30 dX9_change_147 ?_
    refine q_iconst (v := (1 : Int32)) C dX9_change_148 (by decide) ?_
    cases h
    exact q_zretE (w := (1 : Int32)) (by decide) C kf dX9_change_149
set_option maxRecDepth 100000 in
set_option maxHeartbeats 4000000 in
theorem w_X9_change_j91 {X : CX} {y : Int32 × Mem} (C : CK X cX9_change 6 RX9 12 256) (hRO : RO X.2.2.1 X.1.2.2.2.2.1 X.1.2.2.2.2.1.heap) (hl : X.1.2.1.stackTraces = false) (l0 : Nat) (l1 : Int32) (l2 : Int32) (l3 : Int32) (l4 : Int32) (t0 : Int32) (M : Mem) (h : F_X9_change_j91 l0 l1 l2 l3 l4 t0 M = some y) (kf : FIN X (some .boolean) (rs_mI y) (ms_mI y)) : wq X 6 91 [(0, .ref l0), (1, .int l1), (2, .int l2), (3, .int l3), (4, .int l4)] [.int t0] M := by
  unfold F_X9_change_j91 at h
  refine q_istore (i := 5) (lv' := [(5, .int t0), (0, .ref l0), (1, .int l1), (2, .int l2), (3, .int l3), (4, .int l4)]) C dX9_change_91 (by decide) rfl ?_
  refine q_iload 0 C dX9_change_93 rfl ?_
  refine q_if_ne (tgt := 112) C dX9_change_95 (by decide) (fun c20 => ?_) (fun c20 => ?_)
  · have h := ifF c20 h
    refine q_aload_n 1 C dX9_change_112 rfl ?_
    obtain ⟨e21, h⟩ := ckOE h
    obtain ⟨M23, e22, h⟩ := bindE h
    refine q_callV (v := none) [] C hRO lk_RX9_385 vk_X9_keeps e21 rfl rfl rfl (Nat.le_of_ble_eq_true rfl) (by decide) (by decide) dX9_change_113 (k_X9_keeps X.1.2.1 hl X.2.2.1 l0 M _ e22) ?_
    refine q_iload_n 4 C dX9_change_116 rfl ?_
    refine q_iconst (v := (-1 : Int32)) C dX9_change_117 (by decide) ?_
    refine q_icmp_eq (tgt := 131) C dX9_change_118 (by decide) (fun c25 => ?_) (fun c25 => ?_)
    · have h := ifT c25 h
      exact q_sub (lv' := [(0, .ref l0), (1, .int l1), (4, .int l4)]) [1, 2, 5] rfl (w_X9_change_j131 C hRO hl l0 l1 l4 M23 h kf)
    · have h := ifF c25 h
      refine q_aload_n 1 C dX9_change_121 rfl ?_
      obtain ⟨v31, e32, h⟩ := bindE h
      refine q_getP C fl_RX9_66 rfl e32 dX9_change_122 ?_
      refine q_bipush (v := (19 : Int32)) C dX9_change_125 (by decide) ?_
      refine q_iload_n 4 C dX9_change_127 rfl ?_
      refine q_iadd C dX9_change_128 ?_
      refine q_iload_n 3 C dX9_change_129 rfl ?_
      obtain ⟨M33, e34, h⟩ := bindE h
      refine q_iastore C e34 dX9_change_130 ?_
      exact q_sub (lv' := [(0, .ref l0), (1, .int l1), (4, .int l4)]) [1, 2, 5] rfl (w_X9_change_j131 C hRO hl l0 l1 l4 M33 h kf)
  · have h := ifT c20 h
    refine q_aload_n 1 C dX9_change_98 rfl ?_
    refine q_iconst (v := (1 : Int32)) C dX9_change_99 (by decide) ?_
    obtain ⟨e35, h⟩ := ckOE h
    obtain ⟨v38, M37, e36, h⟩ := bd2E h
    refine q_callV (v := some (.int v38)) [.int (1 : Int32)] C hRO lk_RX9_382 vk_X9_refuses e35 rfl rfl rfl (Nat.le_of_ble_eq_true rfl) (by decide) (by decide) dX9_change_100 (k_X9_refuses X.1.2.1 hl X.2.2.1 l0 (1 : Int32) M _ e36) ?_
    refine q_if_le (tgt := 110) C dX9_change_103 (by decide) (fun c39 => ?_) (fun c39 => ?_)
    · have h := ifT c39 h
      refine q_iconst (v := (0 : Int32)) C dX9_change_110 (by decide) ?_
      cases h
      exact q_zretE (w := (0 : Int32)) (by decide) C kf dX9_change_111
    · have h := ifF c39 h
      refine q_iconst (v := (1 : Int32)) C dX9_change_106 (by decide) ?_
      refine q_goto (tgt := 111) C dX9_change_107 (by decide) ?_
      cases h
      exact q_zretE (w := (1 : Int32)) (by decide) C kf dX9_change_111
set_option maxRecDepth 100000 in
set_option maxHeartbeats 4000000 in
theorem w_X9_change_j90 {X : CX} {y : Int32 × Mem} (C : CK X cX9_change 6 RX9 12 256) (hRO : RO X.2.2.1 X.1.2.2.2.2.1 X.1.2.2.2.2.1.heap) (hl : X.1.2.1.stackTraces = false) (l0 : Nat) (l1 : Int32) (l2 : Int32) (l3 : Int32) (l4 : Int32) (M : Mem) (h : F_X9_change_j90 l0 l1 l2 l3 l4 M = some y) (kf : FIN X (some .boolean) (rs_mI y) (ms_mI y)) : wq X 6 90 [(0, .ref l0), (1, .int l1), (2, .int l2), (3, .int l3), (4, .int l4)] [] M := by
  unfold F_X9_change_j90 at h
  refine q_iconst (v := (0 : Int32)) C dX9_change_90 (by decide) ?_
  exact q_sub (lv' := [(0, .ref l0), (1, .int l1), (2, .int l2), (3, .int l3), (4, .int l4)]) [0, 1, 2, 3, 4] rfl (w_X9_change_j91 C hRO hl l0 l1 l2 l3 l4 (0 : Int32) M h kf)
set_option maxRecDepth 100000 in
set_option maxHeartbeats 4000000 in
theorem w_X9_change_j86 {X : CX} {y : Int32 × Mem} (C : CK X cX9_change 6 RX9 12 256) (hRO : RO X.2.2.1 X.1.2.2.2.2.1 X.1.2.2.2.2.1.heap) (hl : X.1.2.1.stackTraces = false) (l0 : Nat) (l1 : Int32) (l2 : Int32) (l3 : Int32) (l4 : Int32) (M : Mem) (h : F_X9_change_j86 l0 l1 l2 l3 l4 M = some y) (kf : FIN X (some .boolean) (rs_mI y) (ms_mI y)) : wq X 6 86 [(0, .ref l0), (1, .int l1), (2, .int l2), (3, .int l3), (4, .int l4)] [] M := by
  unfold F_X9_change_j86 at h
  refine q_iconst (v := (1 : Int32)) C dX9_change_86 (by decide) ?_
  refine q_goto (tgt := 91) C dX9_change_87 (by decide) ?_
  exact q_sub (lv' := [(0, .ref l0), (1, .int l1), (2, .int l2), (3, .int l3), (4, .int l4)]) [0, 1, 2, 3, 4] rfl (w_X9_change_j91 C hRO hl l0 l1 l2 l3 l4 (1 : Int32) M h kf)
set_option maxRecDepth 100000 in
set_option maxHeartbeats 4000000 in
theorem w_X9_change_j71 {X : CX} {y : Int32 × Mem} (C : CK X cX9_change 6 RX9 12 256) (hRO : RO X.2.2.1 X.1.2.2.2.2.1 X.1.2.2.2.2.1.heap) (hl : X.1.2.1.stackTraces = false) (l0 : Nat) (l1 : Int32) (l2 : Int32) (l3 : Int32) (l4 : Int32) (M : Mem) (h : F_X9_change_j71 l0 l1 l2 l3 l4 M = some y) (kf : FIN X (some .boolean) (rs_mI y) (ms_mI y)) : wq X 6 71 [(0, .ref l0), (1, .int l1), (2, .int l2), (3, .int l3), (4, .int l4)] [] M := by
  unfold F_X9_change_j71 at h
  refine q_iload_n 3 C dX9_change_71 rfl ?_
  refine q_iconst (v := (-1 : Int32)) C dX9_change_72 (by decide) ?_
  refine q_icmp_eq (tgt := 86) C dX9_change_73 (by decide) (fun c42 => ?_) (fun c42 => ?_)
  · have h := ifT c42 h
    exact q_sub (lv' := [(0, .ref l0), (1, .int l1), (2, .int l2), (3, .int l3), (4, .int l4)]) [0, 1, 2, 3, 4] rfl (w_X9_change_j86 C hRO hl l0 l1 l2 l3 l4 M h kf)
  · have h := ifF c42 h
    refine q_aload_n 0 C dX9_change_76 rfl ?_
    refine q_iconst (v := (0 : Int32)) C dX9_change_77 (by decide) ?_
    refine q_iload_n 2 C dX9_change_78 rfl ?_
    refine q_iload_n 3 C dX9_change_79 rfl ?_
    obtain ⟨e43, h⟩ := ckOE h
    obtain ⟨v46, M45, e44, h⟩ := bd2E h
    refine q_callV (v := some (.int v46)) [.int (0 : Int32), .int l2, .int l3] C hRO lk_RX9_388 vk_X9_wouldGo e43 rfl rfl rfl (Nat.le_of_ble_eq_true rfl) (by decide) (by decide) dX9_change_80 (k_X9_wouldGo X.1.2.1 hl X.2.2.1 l0 (0 : Int32) l2 l3 M _ e44) ?_
    refine q_if_eq (tgt := 90) C dX9_change_83 (by decide) (fun c47 => ?_) (fun c47 => ?_)
    · have h := ifT c47 h
      exact q_sub (lv' := [(0, .ref l0), (1, .int l1), (2, .int l2), (3, .int l3), (4, .int l4)]) [0, 1, 2, 3, 4] rfl (w_X9_change_j90 C hRO hl l0 l1 l2 l3 l4 M45 h kf)
    · have h := ifF c47 h
      exact q_sub (lv' := [(0, .ref l0), (1, .int l1), (2, .int l2), (3, .int l3), (4, .int l4)]) [0, 1, 2, 3, 4] rfl (w_X9_change_j86 C hRO hl l0 l1 l2 l3 l4 M45 h kf)
set_option maxRecDepth 100000 in
set_option maxHeartbeats 4000000 in
theorem w_X9_change_j54 {X : CX} {y : Int32 × Mem} (C : CK X cX9_change 6 RX9 12 256) (hRO : RO X.2.2.1 X.1.2.2.2.2.1 X.1.2.2.2.2.1.heap) (hl : X.1.2.1.stackTraces = false) (l0 : Nat) (l1 : Int32) (l2 : Int32) (l3 : Int32) (l4 : Int32) (M : Mem) (h : F_X9_change_j54 l0 l1 l2 l3 l4 M = some y) (kf : FIN X (some .boolean) (rs_mI y) (ms_mI y)) : wq X 6 54 [(0, .ref l0), (1, .int l1), (2, .int l2), (3, .int l3), (4, .int l4)] [] M := by
  unfold F_X9_change_j54 at h
  refine q_iload 4 C dX9_change_54 rfl ?_
  refine q_iconst (v := (-1 : Int32)) C dX9_change_56 (by decide) ?_
  refine q_icmp_eq (tgt := 71) C dX9_change_57 (by decide) (fun c41 => ?_) (fun c41 => ?_)
  · have h := ifT c41 h
    exact q_sub (lv' := [(0, .ref l0), (1, .int l1), (2, .int l2), (3, .int l3), (4, .int l4)]) [0, 1, 2, 3, 4] rfl (w_X9_change_j71 C hRO hl l0 l1 l2 l3 l4 M h kf)
  · have h := ifF c41 h
    refine q_aload_n 0 C dX9_change_60 rfl ?_
    refine q_iconst (v := (0 : Int32)) C dX9_change_61 (by decide) ?_
    refine q_iload_n 1 C dX9_change_62 rfl ?_
    refine q_iload 4 C dX9_change_63 rfl ?_
    obtain ⟨e48, h⟩ := ckOE h
    obtain ⟨v51, M50, e49, h⟩ := bd2E h
    refine q_callV (v := some (.int v51)) [.int (0 : Int32), .int l1, .int l4] C hRO lk_RX9_388 vk_X9_wouldGo e48 rfl rfl rfl (Nat.le_of_ble_eq_true rfl) (by decide) (by decide) dX9_change_65 (k_X9_wouldGo X.1.2.1 hl X.2.2.1 l0 (0 : Int32) l1 l4 M _ e49) ?_
    refine q_if_eq (tgt := 90) C dX9_change_68 (by decide) (fun c52 => ?_) (fun c52 => ?_)
    · have h := ifT c52 h
      exact q_sub (lv' := [(0, .ref l0), (1, .int l1), (2, .int l2), (3, .int l3), (4, .int l4)]) [0, 1, 2, 3, 4] rfl (w_X9_change_j90 C hRO hl l0 l1 l2 l3 l4 M50 h kf)
    · have h := ifF c52 h
      exact q_sub (lv' := [(0, .ref l0), (1, .int l1), (2, .int l2), (3, .int l3), (4, .int l4)]) [0, 1, 2, 3, 4] rfl (w_X9_change_j71 C hRO hl l0 l1 l2 l3 l4 M50 h kf)
set_option maxRecDepth 100000 in
set_option maxHeartbeats 4000000 in
theorem w_X9_change {X : CX} {y : Int32 × Mem} (C : CK X cX9_change 6 RX9 12 256) (hRO : RO X.2.2.1 X.1.2.2.2.2.1 X.1.2.2.2.2.1.heap) (hl : X.1.2.1.stackTraces = false) (l0 : Nat) (l1 : Int32) (l2 : Int32) (M : Mem) (h : F_X9_change l0 l1 l2 M = some y) (kf : FIN X (some .boolean) (rs_mI y) (ms_mI y)) : wq X 6 0 [(0, .ref l0), (1, .int l1), (2, .int l2)] [] M := by
  unfold F_X9_change at h
  refine q_aload_n 0 C dX9_change_0 rfl ?_
  refine q_iconst (v := (0 : Int32)) C dX9_change_1 (by decide) ?_
  obtain ⟨M1, e2, h⟩ := bindE h
  refine q_putI C fp_RX9_111 rfl e2 dX9_change_2 ?_
  refine q_aload_n 0 C dX9_change_5 rfl ?_
  refine q_iload_n 1 C dX9_change_6 rfl ?_
  obtain ⟨e3, h⟩ := ckOE h
  obtain ⟨v6, M5, e4, h⟩ := bd2E h
  refine q_callV (v := some (.int v6)) [.int l1] C hRO lk_RX9_379 vk_X9_isPerson e3 rfl rfl rfl (Nat.le_of_ble_eq_true rfl) (by decide) (by decide) dX9_change_7 (k_X9_isPerson X.1.2.1 hl X.2.2.1 l0 l1 M1 _ e4) ?_
  refine q_if_eq (tgt := 21) C dX9_change_10 (by decide) (fun c7 => ?_) (fun c7 => ?_)
  · have h := ifT c7 h
    refine q_iconst (v := (0 : Int32)) C dX9_change_21 (by decide) ?_
    cases h
    exact q_zretE (w := (0 : Int32)) (by decide) C kf dX9_change_22
  · have h := ifF c7 h
    refine q_aload_n 0 C dX9_change_13 rfl ?_
    refine q_iload_n 2 C dX9_change_14 rfl ?_
    obtain ⟨e8, h⟩ := ckOE h
    obtain ⟨v11, M10, e9, h⟩ := bd2E h
    refine q_callV (v := some (.int v11)) [.int l2] C hRO lk_RX9_379 vk_X9_isPerson e8 rfl rfl rfl (Nat.le_of_ble_eq_true rfl) (by decide) (by decide) dX9_change_15 (k_X9_isPerson X.1.2.1 hl X.2.2.1 l0 l2 M5 _ e9) ?_
    refine q_if_ne (tgt := 23) C dX9_change_18 (by decide) (fun c12 => ?_) (fun c12 => ?_)
    · have h := ifF c12 h
      refine q_aload_n 0 C dX9_change_23 rfl ?_
      refine q_iconst (v := (0 : Int32)) C dX9_change_24 (by decide) ?_
      refine q_iload_n 1 C dX9_change_25 rfl ?_
      obtain ⟨e13, h⟩ := ckOE h
      obtain ⟨v15, e14, h⟩ := bindE h
      refine q_callV (v := some (.int v15)) [.int (0 : Int32), .int l1] C hRO lk_RX9_339 vk_X9_houseOf e13 rfl rfl rfl (Nat.le_of_ble_eq_true rfl) (by decide) (by decide) dX9_change_26 (k_X9_houseOf X.1.2.1 hl X.2.2.1 l0 (0 : Int32) l1 M10 _ e14) ?_
      refine q_istore_n (i := 3) (lv' := [(3, .int v15), (0, .ref l0), (1, .int l1), (2, .int l2)]) C dX9_change_29 rfl (by decide) rfl ?_
      refine q_aload_n 1 C dX9_change_30 rfl ?_
      refine q_iconst (v := (0 : Int32)) C dX9_change_31 (by decide) ?_
      refine q_iload_n 3 C dX9_change_32 rfl ?_
      obtain ⟨e16, h⟩ := ckOE h
      obtain ⟨v18, e17, h⟩ := bindE h
      refine q_callV (v := some (.int v18)) [.int (0 : Int32), .int l2] C hRO lk_RX9_339 vk_X9_houseOf e16 rfl rfl rfl (Nat.le_of_ble_eq_true rfl) (by decide) (by decide) dX9_change_33 (k_X9_houseOf X.1.2.1 hl X.2.2.1 l0 (0 : Int32) l2 M10 _ e17) ?_
      refine q_istore (i := 4) (lv' := [(4, .int v18), (3, .int v15), (0, .ref l0), (1, .int l1), (2, .int l2)]) C dX9_change_36 (by decide) rfl ?_
      refine q_iload_n 3 C dX9_change_38 rfl ?_
      refine q_iload_n 4 C dX9_change_39 rfl ?_
      refine q_icmp_eq (tgt := 90) C dX9_change_40 (by decide) (fun c19 => ?_) (fun c19 => ?_)
      · have h := ifT c19 h
        exact q_sub (lv' := [(0, .ref l0), (1, .int l1), (2, .int l2), (3, .int v15), (4, .int v18)]) [2, 3, 4, 1, 0] rfl (w_X9_change_j90 C hRO hl l0 l1 l2 v15 v18 M10 h kf)
      · have h := ifF c19 h
        refine q_iload_n 1 C dX9_change_43 rfl ?_
        refine q_iconst (v := (-1 : Int32)) C dX9_change_44 (by decide) ?_
        refine q_icmp_ne (tgt := 54) C dX9_change_45 (by decide) (fun c40 => ?_) (fun c40 => ?_)
        · have h := ifF c40 h
          exact q_sub (lv' := [(0, .ref l0), (1, .int l1), (2, .int l2), (3, .int v15), (4, .int v18)]) [2, 3, 4, 1, 0] rfl (w_X9_change_j54 C hRO hl l0 l1 l2 v15 v18 M10 h kf)
        · have h := ifT c40 h
          refine q_iload 0 C dX9_change_48 rfl ?_
          refine q_iconst (v := (-1 : Int32)) C dX9_change_50 (by decide) ?_
          refine q_icmp_eq (tgt := 90) C dX9_change_51 (by decide) (fun c53 => ?_) (fun c53 => ?_)
          · have h := ifT c53 h
            exact q_sub (lv' := [(0, .ref l0), (1, .int l1), (2, .int l2), (3, .int v15), (4, .int v18)]) [2, 3, 4, 1, 0] rfl (w_X9_change_j90 C hRO hl l0 l1 l2 v15 v18 M10 h kf)
          · have h := ifF c53 h
            exact q_sub (lv' := [(0, .ref l0), (1, .int l1), (2, .int l2), (3, .int v15), (4, .int v18)]) [2, 3, 4, 1, 0] rfl (w_X9_change_j54 C hRO hl l0 l1 l2 v15 v18 M10 h kf)
    · have h := ifT c12 h
      refine q_iconst (v := (0 : Int32)) C dX9_change_21 (by decide) ?_
      cases h
      exact q_zretE (w := (0 : Int32)) (by decide) C kf dX9_change_22
theorem k_X9_change (l : Launch) (hl : l.stackTraces = false) (G : GG) (l0 : Nat) (l1 : Int32) (l2 : Int32) (M : Mem) (x : Int32 × Mem) (h : F_X9_change l0 l1 l2 M = some x) : Ct l G yX9_change (.code yX9_change cX9_change 6 (some .boolean)) 12 256 [.ref l0, .int l1, .int l2] M (rs_mI x) (ms_mI x) := by
  refine Ct_of (by decide +kernel) (Nat.le_of_ble_eq_true rfl) fun X e1 e2 e3 C FN hnm => ?_
  subst e1; subst e2
  show wq X 6 0 [(0, .ref l0), (1, .int l1), (2, .int l2)] [] M
  exact w_X9_change C FN.2.2.2 hl l0 l1 l2 M h FN
/-! X9_isOpen -/
set_option maxRecDepth 100000 in
set_option maxHeartbeats 4000000 in
theorem w_X9_isOpen {X : CX} {y : Int32} (C : CK X cX9_isOpen 1 RX9 7 140) (hRO : RO X.2.2.1 X.1.2.2.2.2.1 X.1.2.2.2.2.1.heap) (hl : X.1.2.1.stackTraces = false) (l0 : Int32) (M : Mem) (h : F_X9_isOpen l0 M = some y) (kf : FIN X (some .boolean) (rs_pI y) M) : wq X 1 0 [(0, .int l0)] [] M := by
  unfold F_X9_isOpen at h
  refine q_iload_n 0 C dX9_isOpen_0 rfl ?_
  refine q_bipush (v := (14 : Int32)) C dX9_isOpen_1 (by decide) ?_
  refine q_icmp_lt (tgt := 10) C dX9_isOpen_3 (by decide) (fun c1 => ?_) (fun c1 => ?_)
  · have h := ifT c1 h
    refine q_iconst (v := (0 : Int32)) C dX9_isOpen_10 (by decide) ?_
    cases h
    exact q_zretE (w := (0 : Int32)) (by decide) C kf dX9_isOpen_11
  · have h := ifF c1 h
    refine q_iconst (v := (1 : Int32)) C dX9_isOpen_6 (by decide) ?_
    refine q_goto (tgt := 11) C dX9_isOpen_7 (by decide) ?_
    cases h
    exact q_zretE (w := (1 : Int32)) (by decide) C kf dX9_isOpen_11
theorem k_X9_isOpen (l : Launch) (hl : l.stackTraces = false) (G : GG) (l0 : Int32) (M : Mem) (x : Int32) (h : F_X9_isOpen l0 M = some x) : Ct l G yX9_isOpen (.code yX9_isOpen cX9_isOpen 1 (some .boolean)) 7 140 [.int l0] M (rs_pI x) M := by
  refine Ct_of (by decide +kernel) (Nat.le_of_ble_eq_true rfl) fun X e1 e2 e3 C FN hnm => ?_
  subst e1; subst e2
  show wq X 1 0 [(0, .int l0)] [] M
  exact w_X9_isOpen C FN.2.2.2 hl l0 M h FN
/-! X9_puts -/
set_option maxRecDepth 100000 in
set_option maxHeartbeats 4000000 in
theorem w_X9_puts {X : CX} {y : Mem} (C : CK X cX9_puts 2 RX9 7 140) (hRO : RO X.2.2.1 X.1.2.2.2.2.1 X.1.2.2.2.2.1.heap) (hl : X.1.2.1.stackTraces = false) (l0 : Nat) (l1 : Int32) (M : Mem) (h : F_X9_puts l0 l1 M = some y) (kf : FIN X none (rs_mV y) (ms_mV y)) : wq X 2 0 [(0, .ref l0), (1, .int l1)] [] M := by
  unfold F_X9_puts at h
  refine q_aload_n 0 C dX9_puts_0 rfl ?_
  obtain ⟨v1, e2, h⟩ := bindE h
  refine q_getP C fl_RX9_56 rfl e2 dX9_puts_1 ?_
  refine q_aload_n 0 C dX9_puts_4 rfl ?_
  obtain ⟨v3, e4, h⟩ := bindE h
  refine q_getI C fl_RX9_180 rfl e4 dX9_puts_5 ?_
  refine q_iload_n 1 C dX9_puts_8 rfl ?_
  obtain ⟨M5, e6, h⟩ := bindE h
  refine q_iastore C e6 dX9_puts_9 ?_
  refine q_aload_n 0 C dX9_puts_10 rfl ?_
  refine q_dup C dX9_puts_11 rfl ?_
  obtain ⟨v7, e8, h⟩ := bindE h
  refine q_getI C fl_RX9_180 rfl e8 dX9_puts_12 ?_
  refine q_iconst (v := (1 : Int32)) C dX9_puts_15 (by decide) ?_
  refine q_iadd C dX9_puts_16 ?_
  obtain ⟨M9, e10, h⟩ := bindE h
  refine q_putI C fp_RX9_180 rfl e10 dX9_puts_17 ?_
  cases h
  exact q_vret C kf dX9_puts_20
theorem k_X9_puts (l : Launch) (hl : l.stackTraces = false) (G : GG) (l0 : Nat) (l1 : Int32) (M : Mem) (x : Mem) (h : F_X9_puts l0 l1 M = some x) : Ct l G yX9_puts (.code yX9_puts cX9_puts 2 none) 7 140 [.ref l0, .int l1] M (rs_mV x) (ms_mV x) := by
  refine Ct_of (by decide +kernel) (Nat.le_of_ble_eq_true rfl) fun X e1 e2 e3 C FN hnm => ?_
  subst e1; subst e2
  show wq X 2 0 [(0, .ref l0), (1, .int l1)] [] M
  exact w_X9_puts C FN.2.2.2 hl l0 l1 M h FN
/-! X9_strength -/
set_option maxRecDepth 100000 in
set_option maxHeartbeats 4000000 in
theorem w_X9_strength {X : CX} {y : Int32} (C : CK X cX9_strength 1 RX9 7 140) (hRO : RO X.2.2.1 X.1.2.2.2.2.1 X.1.2.2.2.2.1.heap) (hl : X.1.2.1.stackTraces = false) (l0 : Int32) (M : Mem) (h : F_X9_strength l0 M = some y) (kf : FIN X (some .int) (rs_pI y) M) : wq X 1 0 [(0, .int l0)] [] M := by
  unfold F_X9_strength at h
  refine q_iload_n 0 C dX9_strength_0 rfl ?_
  refine q_iconst (v := (5 : Int32)) C dX9_strength_1 (by decide) ?_
  refine q_icmp_ne (tgt := 9) C dX9_strength_2 (by decide) (fun c1 => ?_) (fun c1 => ?_)
  · have h := ifF c1 h
    refine q_iload_n 0 C dX9_strength_9 rfl ?_
    refine q_iconst (v := (4 : Int32)) C dX9_strength_10 (by decide) ?_
    refine q_icmp_ne (tgt := 18) C dX9_strength_11 (by decide) (fun c2 => ?_) (fun c2 => ?_)
    · have h := ifF c2 h
      refine q_iload_n 0 C dX9_strength_18 rfl ?_
      refine q_iconst (v := (3 : Int32)) C dX9_strength_19 (by decide) ?_
      refine q_icmp_ne (tgt := 27) C dX9_strength_20 (by decide) (fun c3 => ?_) (fun c3 => ?_)
      · have h := ifF c3 h
        refine q_iload_n 0 C dX9_strength_27 rfl ?_
        refine q_bipush (v := (6 : Int32)) C dX9_strength_28 (by decide) ?_
        refine q_icmp_eq (tgt := 39) C dX9_strength_30 (by decide) (fun c4 => ?_) (fun c4 => ?_)
        · have h := ifT c4 h
          refine q_iconst (v := (4 : Int32)) C dX9_strength_39 (by decide) ?_
          refine q_goto (tgt := 61) C dX9_strength_40 (by decide) ?_
          cases h
          exact q_iret C kf dX9_strength_61
        · have h := ifF c4 h
          refine q_iload_n 0 C dX9_strength_33 rfl ?_
          refine q_bipush (v := (7 : Int32)) C dX9_strength_34 (by decide) ?_
          refine q_icmp_ne (tgt := 43) C dX9_strength_36 (by decide) (fun c5 => ?_) (fun c5 => ?_)
          · have h := ifF c5 h
            refine q_iload_n 0 C dX9_strength_43 rfl ?_
            refine q_bipush (v := (8 : Int32)) C dX9_strength_44 (by decide) ?_
            refine q_icmp_eq (tgt := 55) C dX9_strength_46 (by decide) (fun c6 => ?_) (fun c6 => ?_)
            · have h := ifT c6 h
              refine q_iconst (v := (5 : Int32)) C dX9_strength_55 (by decide) ?_
              refine q_goto (tgt := 61) C dX9_strength_56 (by decide) ?_
              cases h
              exact q_iret C kf dX9_strength_61
            · have h := ifF c6 h
              refine q_iload_n 0 C dX9_strength_49 rfl ?_
              refine q_bipush (v := (9 : Int32)) C dX9_strength_50 (by decide) ?_
              refine q_icmp_ne (tgt := 59) C dX9_strength_52 (by decide) (fun c7 => ?_) (fun c7 => ?_)
              · have h := ifF c7 h
                refine q_bipush (v := (6 : Int32)) C dX9_strength_59 (by decide) ?_
                cases h
                exact q_iret C kf dX9_strength_61
              · have h := ifT c7 h
                refine q_iconst (v := (5 : Int32)) C dX9_strength_55 (by decide) ?_
                refine q_goto (tgt := 61) C dX9_strength_56 (by decide) ?_
                cases h
                exact q_iret C kf dX9_strength_61
          · have h := ifT c5 h
            refine q_iconst (v := (4 : Int32)) C dX9_strength_39 (by decide) ?_
            refine q_goto (tgt := 61) C dX9_strength_40 (by decide) ?_
            cases h
            exact q_iret C kf dX9_strength_61
      · have h := ifT c3 h
        refine q_iconst (v := (3 : Int32)) C dX9_strength_23 (by decide) ?_
        refine q_goto (tgt := 61) C dX9_strength_24 (by decide) ?_
        cases h
        exact q_iret C kf dX9_strength_61
    · have h := ifT c2 h
      refine q_iconst (v := (2 : Int32)) C dX9_strength_14 (by decide) ?_
      refine q_goto (tgt := 61) C dX9_strength_15 (by decide) ?_
      cases h
      exact q_iret C kf dX9_strength_61
  · have h := ifT c1 h
    refine q_iconst (v := (1 : Int32)) C dX9_strength_5 (by decide) ?_
    refine q_goto (tgt := 61) C dX9_strength_6 (by decide) ?_
    cases h
    exact q_iret C kf dX9_strength_61
theorem k_X9_strength (l : Launch) (hl : l.stackTraces = false) (G : GG) (l0 : Int32) (M : Mem) (x : Int32) (h : F_X9_strength l0 M = some x) : Ct l G yX9_strength (.code yX9_strength cX9_strength 1 (some .int)) 7 140 [.int l0] M (rs_pI x) M := by
  refine Ct_of (by decide +kernel) (Nat.le_of_ble_eq_true rfl) fun X e1 e2 e3 C FN hnm => ?_
  subst e1; subst e2
  show wq X 1 0 [(0, .int l0)] [] M
  exact w_X9_strength C FN.2.2.2 hl l0 M h FN
