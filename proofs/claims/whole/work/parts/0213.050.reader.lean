/-! X3_init -/
set_option maxRecDepth 100000 in
set_option maxHeartbeats 4000000 in
theorem w_X3_init {X : CX} {y : Mem} (C : CK X cX3_init 1 RX3 7 140) (hRO : RO X.2.2.1 X.1.2.2.2.2.1 X.1.2.2.2.2.1.heap) (hl : X.1.2.1.stackTraces = false) (hnm : X.2.1.2.2.1.name = "<init>") (l0 : Nat) (M : Mem) (h : F_X3_init l0 M = some y) (kf : FIN X none (rs_mV y) (ms_mV y)) : wq X 1 0 [(0, .ref l0)] [] M := by
  unfold F_X3_init at h
  refine q_aload_n 0 C dX3_init_0 rfl ?_
  refine q_objInit C ml_RX3_3 oi_1 oi_2 (by decide) (Nat.le_of_ble_eq_true rfl) dX3_init_1 ?_
  refine q_aload_n 0 C dX3_init_4 rfl ?_
  refine q_sipush (v := (700 : Int32)) C dX3_init_5 (by decide) ?_
  obtain ⟨M1, e2, h⟩ := bindE h
  refine q_newB C ar_byte e2 dX3_init_8 ?_
  obtain ⟨M3, e4, h⟩ := bindE h
  refine q_putF hnm rfl rfl C fp_RX3_9 rfl e4 dX3_init_10 ?_
  refine q_aload_n 0 C dX3_init_13 rfl ?_
  refine q_iconst (v := (0 : Int32)) C dX3_init_14 (by decide) ?_
  obtain ⟨M5, e6, h⟩ := bindE h
  refine q_putI C fp_RX3_15 rfl e6 dX3_init_15 ?_
  refine q_aload_n 0 C dX3_init_18 rfl ?_
  refine q_iconst (v := (0 : Int32)) C dX3_init_19 (by decide) ?_
  obtain ⟨M7, e8, h⟩ := bindE h
  refine q_putI C fp_RX3_19 rfl e8 dX3_init_20 ?_
  refine q_aload_n 0 C dX3_init_23 rfl ?_
  refine q_iconst (v := (0 : Int32)) C dX3_init_24 (by decide) ?_
  obtain ⟨M9, e10, h⟩ := bindE h
  refine q_putI C fp_RX3_22 rfl e10 dX3_init_25 ?_
  refine q_aload_n 0 C dX3_init_28 rfl ?_
  refine q_iconst (v := (-1 : Int32)) C dX3_init_29 (by decide) ?_
  obtain ⟨M11, e12, h⟩ := bindE h
  refine q_putI C fp_RX3_25 rfl e12 dX3_init_30 ?_
  refine q_aload_n 0 C dX3_init_33 rfl ?_
  refine q_iconst (v := (0 : Int32)) C dX3_init_34 (by decide) ?_
  obtain ⟨M13, e14, h⟩ := bindE h
  refine q_putI C fp_RX3_28 rfl e14 dX3_init_35 ?_
  refine q_aload_n 0 C dX3_init_38 rfl ?_
  refine q_iconst (v := (0 : Int32)) C dX3_init_39 (by decide) ?_
  obtain ⟨M15, e16, h⟩ := bindE h
  refine q_putI C fp_RX3_31 rfl e16 dX3_init_40 ?_
  refine q_aload_n 0 C dX3_init_43 rfl ?_
  refine q_iconst (v := (0 : Int32)) C dX3_init_44 (by decide) ?_
  obtain ⟨M17, e18, h⟩ := bindE h
  refine q_putI C fp_RX3_34 rfl e18 dX3_init_45 ?_
  refine q_aload_n 0 C dX3_init_48 rfl ?_
  refine q_iconst (v := (0 : Int32)) C dX3_init_49 (by decide) ?_
  obtain ⟨M19, e20, h⟩ := bindE h
  refine q_putI C fp_RX3_37 rfl e20 dX3_init_50 ?_
  refine q_aload_n 0 C dX3_init_53 rfl ?_
  refine q_sipush (v := (700 : Int32)) C dX3_init_54 (by decide) ?_
  obtain ⟨M21, e22, h⟩ := bindE h
  refine q_newI C ar_int e22 dX3_init_57 ?_
  obtain ⟨M23, e24, h⟩ := bindE h
  refine q_putF hnm rfl rfl C fp_RX3_40 rfl e24 dX3_init_59 ?_
  refine q_aload_n 0 C dX3_init_62 rfl ?_
  refine q_iconst (v := (0 : Int32)) C dX3_init_63 (by decide) ?_
  obtain ⟨M25, e26, h⟩ := bindE h
  refine q_putI C fp_RX3_44 rfl e26 dX3_init_64 ?_
  refine q_aload_n 0 C dX3_init_67 rfl ?_
  refine q_iconst (v := (0 : Int32)) C dX3_init_68 (by decide) ?_
  obtain ⟨M27, e28, h⟩ := bindE h
  refine q_putZ C fp_RX3_47 rfl e28 dX3_init_69 ?_
  cases h
  exact q_vret C kf dX3_init_72
theorem k_X3_init (l : Launch) (hl : l.stackTraces = false) (G : GG) (l0 : Nat) (M : Mem) (x : Mem) (h : F_X3_init l0 M = some x) : Ct l G yX3_init (.code yX3_init cX3_init 1 none) 7 140 [.ref l0] M (rs_mV x) (ms_mV x) := by
  refine Ct_of (by decide +kernel) (Nat.le_of_ble_eq_true rfl) fun X e1 e2 e3 C FN hnm => ?_
  subst e1; subst e2
  show wq X 1 0 [(0, .ref l0)] [] M
  exact w_X3_init C FN.2.2.2 hl hnm l0 M h FN
/-! X3_taped -/
set_option maxRecDepth 100000 in
set_option maxHeartbeats 4000000 in
theorem w_X3_taped {X : CX} {y : Int32} (C : CK X cX3_taped 1 RX3 7 140) (hRO : RO X.2.2.1 X.1.2.2.2.2.1 X.1.2.2.2.2.1.heap) (hl : X.1.2.1.stackTraces = false) (l0 : Nat) (M : Mem) (h : F_X3_taped l0 M = some y) (kf : FIN X (some .int) (rs_pI y) M) : wq X 1 0 [(0, .ref l0)] [] M := by
  unfold F_X3_taped at h
  refine q_aload_n 0 C dX3_taped_0 rfl ?_
  obtain ⟨v1, e2, h⟩ := bindE h
  refine q_getI C fl_RX3_15 rfl e2 dX3_taped_1 ?_
  cases h
  exact q_iret C kf dX3_taped_4
theorem k_X3_taped (l : Launch) (hl : l.stackTraces = false) (G : GG) (l0 : Nat) (M : Mem) (x : Int32) (h : F_X3_taped l0 M = some x) : Ct l G yX3_taped (.code yX3_taped cX3_taped 1 (some .int)) 7 140 [.ref l0] M (rs_pI x) M := by
  refine Ct_of (by decide +kernel) (Nat.le_of_ble_eq_true rfl) fun X e1 e2 e3 C FN hnm => ?_
  subst e1; subst e2
  show wq X 1 0 [(0, .ref l0)] [] M
  exact w_X3_taped C FN.2.2.2 hl l0 M h FN
/-! X3_append -/
set_option maxRecDepth 100000 in
set_option maxHeartbeats 4000000 in
theorem w_X3_append_s3 {X : CX} {y : (Int32 × Mem) ⊕ (Mem)} (C : CK X cX3_append 3 RX3 7 140) (hRO : RO X.2.2.1 X.1.2.2.2.2.1 X.1.2.2.2.2.1.heap) (hl : X.1.2.1.stackTraces = false) (l0 : Nat) (l1 : Int32) (l2 : Int32) (M : Mem) (h : F_X3_append_s3 l0 l1 l2 M = some y) (kc : ∀ s' : Int32 × Mem, y = .inl s' → wq X 3 3 [(0, .ref l0), (1, .int l1), (2, .int (s'.1))] [] s'.2) (kx : ∀ e' : Mem, y = (.inr e') → wq X 3 46 [] [] e') : wq X 3 3 [(0, .ref l0), (1, .int l1), (2, .int l2)] [] M := by
  unfold F_X3_append_s3 at h
  refine q_iload_n 2 C dX3_append_3 rfl ?_
  refine q_if_lt (tgt := 46) C dX3_append_4 (by decide) (fun c1 => ?_) (fun c1 => ?_)
  · have h := ifT c1 h
    exact q_sub (lv' := []) [] rfl (kx M (someI h))
  · have h := ifF c1 h
    refine q_aload_n 0 C dX3_append_7 rfl ?_
    obtain ⟨v2, e3, h⟩ := bindE h
    refine q_getI C fl_RX3_15 rfl e3 dX3_append_8 ?_
    refine q_sipush (v := (700 : Int32)) C dX3_append_11 (by decide) ?_
    refine q_icmp_ge (tgt := 46) C dX3_append_14 (by decide) (fun c4 => ?_) (fun c4 => ?_)
    · have h := ifT c4 h
      exact q_sub (lv' := []) [] rfl (kx M (someI h))
    · have h := ifF c4 h
      refine q_aload_n 0 C dX3_append_17 rfl ?_
      obtain ⟨v5, e6, h⟩ := bindE h
      refine q_getP C fl_RX3_9 rfl e6 dX3_append_18 ?_
      refine q_aload_n 0 C dX3_append_21 rfl ?_
      obtain ⟨v7, e8, h⟩ := bindE h
      refine q_getI C fl_RX3_15 rfl e8 dX3_append_22 ?_
      refine q_iload_n 1 C dX3_append_25 rfl ?_
      refine q_iload_n 2 C dX3_append_26 rfl ?_
      refine q_iushr C dX3_append_27 ?_
      refine q_i2b C dX3_append_28 ?_
      obtain ⟨M9, e10, h⟩ := bindE h
      refine q_bastore C e10 dX3_append_29 ?_
      refine q_aload_n 0 C dX3_append_30 rfl ?_
      refine q_dup C dX3_append_31 rfl ?_
      obtain ⟨v11, e12, h⟩ := bindE h
      refine q_getI C fl_RX3_15 rfl e12 dX3_append_32 ?_
      refine q_iconst (v := (1 : Int32)) C dX3_append_35 (by decide) ?_
      refine q_iadd C dX3_append_36 ?_
      obtain ⟨M13, e14, h⟩ := bindE h
      refine q_putI C fp_RX3_15 rfl e14 dX3_append_37 ?_
      refine q_iinc 2 (v := (l2 + (-8 : Int32))) (lv' := [(2, .int (l2 + (-8 : Int32))), (0, .ref l0), (1, .int l1)]) C dX3_append_40 rfl rfl (by decide) rfl ?_
      refine q_goto (tgt := 3) C dX3_append_43 (by decide) ?_
      exact q_sub (lv' := [(0, .ref l0), (1, .int l1), (2, .int (l2 + (-8 : Int32)))]) [1, 2, 0] rfl (kc ((l2 + (-8 : Int32)), M13) (someI h))
theorem w_X3_append_l3 {X : CX} {r : Mem} (C : CK X cX3_append 3 RX3 7 140) (hRO : RO X.2.2.1 X.1.2.2.2.2.1 X.1.2.2.2.2.1.heap) (hl : X.1.2.1.stackTraces = false) (l0 : Nat) (l1 : Int32) (l2 : Int32) (M : Mem) (h : loop (fun s => F_X3_append_s3 l0 l1 s.1 s.2) (l2, M) = some r) (kx : ∀ e' : Mem, r = e' → wq X 3 46 [] [] e') : wq X 3 3 [(0, .ref l0), (1, .int l1), (2, .int l2)] [] M :=
  loop_ind (P := fun s => wq X 3 3 [(0, .ref l0), (1, .int l1), (2, .int s.1)] [] s.2) h (fun s y hy kc kr => w_X3_append_s3 C hRO hl l0 l1 s.1 s.2 hy kc (fun e' he => kx e' (kr _ he).symm))
set_option maxRecDepth 100000 in
set_option maxHeartbeats 4000000 in
theorem w_X3_append {X : CX} {y : Mem} (C : CK X cX3_append 3 RX3 7 140) (hRO : RO X.2.2.1 X.1.2.2.2.2.1 X.1.2.2.2.2.1.heap) (hl : X.1.2.1.stackTraces = false) (l0 : Nat) (l1 : Int32) (M : Mem) (h : F_X3_append l0 l1 M = some y) (kf : FIN X none (rs_mV y) (ms_mV y)) : wq X 3 0 [(0, .ref l0), (1, .int l1)] [] M := by
  unfold F_X3_append at h
  refine q_bipush (v := (24 : Int32)) C dX3_append_0 (by decide) ?_
  refine q_istore_n (i := 2) (lv' := [(2, .int (24 : Int32)), (0, .ref l0), (1, .int l1)]) C dX3_append_2 rfl (by decide) rfl ?_
  obtain ⟨M17, e16, h⟩ := bindE h
  refine q_sub (lv' := [(0, .ref l0), (1, .int l1), (2, .int (24 : Int32))]) [1, 2, 0] rfl (w_X3_append_l3 C hRO hl l0 l1 (24 : Int32) M e16 (fun r15 he => ?_))
  subst he
  show wq X 3 46 [] [] M17
  cases h
  exact q_vret C kf dX3_append_46
theorem k_X3_append (l : Launch) (hl : l.stackTraces = false) (G : GG) (l0 : Nat) (l1 : Int32) (M : Mem) (x : Mem) (h : F_X3_append l0 l1 M = some x) : Ct l G yX3_append (.code yX3_append cX3_append 3 none) 7 140 [.ref l0, .int l1] M (rs_mV x) (ms_mV x) := by
  refine Ct_of (by decide +kernel) (Nat.le_of_ble_eq_true rfl) fun X e1 e2 e3 C FN hnm => ?_
  subst e1; subst e2
  show wq X 3 0 [(0, .ref l0), (1, .int l1)] [] M
  exact w_X3_append C FN.2.2.2 hl l0 l1 M h FN
/-! X3_place -/
set_option maxRecDepth 100000 in
set_option maxHeartbeats 4000000 in
theorem w_X3_place {X : CX} {y : Int32} (C : CK X cX3_place 1 RX3 7 140) (hRO : RO X.2.2.1 X.1.2.2.2.2.1 X.1.2.2.2.2.1.heap) (hl : X.1.2.1.stackTraces = false) (l0 : Nat) (M : Mem) (h : F_X3_place l0 M = some y) (kf : FIN X (some .int) (rs_pI y) M) : wq X 1 0 [(0, .ref l0)] [] M := by
  unfold F_X3_place at h
  refine q_aload_n 0 C dX3_place_0 rfl ?_
  obtain ⟨v1, e2, h⟩ := bindE h
  refine q_getI C fl_RX3_25 rfl e2 dX3_place_1 ?_
  cases h
  exact q_iret C kf dX3_place_4
theorem k_X3_place (l : Launch) (hl : l.stackTraces = false) (G : GG) (l0 : Nat) (M : Mem) (x : Int32) (h : F_X3_place l0 M = some x) : Ct l G yX3_place (.code yX3_place cX3_place 1 (some .int)) 7 140 [.ref l0] M (rs_pI x) M := by
  refine Ct_of (by decide +kernel) (Nat.le_of_ble_eq_true rfl) fun X e1 e2 e3 C FN hnm => ?_
  subst e1; subst e2
  show wq X 1 0 [(0, .ref l0)] [] M
  exact w_X3_place C FN.2.2.2 hl l0 M h FN
/-! X3_kindAt -/
set_option maxRecDepth 100000 in
set_option maxHeartbeats 4000000 in
theorem w_X3_kindAt_j49 {X : CX} {y : Int32} (C : CK X cX3_kindAt 3 RX3 7 140) (hRO : RO X.2.2.1 X.1.2.2.2.2.1 X.1.2.2.2.2.1.heap) (hl : X.1.2.1.stackTraces = false) (l2 : Int32) (M : Mem) (h : F_X3_kindAt_j49 l2 M = some y) (kf : FIN X (some .int) (rs_pI y) M) : wq X 3 49 [(2, .int l2)] [] M := by
  unfold F_X3_kindAt_j49 at h
  refine q_iload_n 0 C dX3_kindAt_49 rfl ?_
  refine q_bipush (v := (48 : Int32)) C dX3_kindAt_50 (by decide) ?_
  refine q_icmp_lt (tgt := 65) C dX3_kindAt_52 (by decide) (fun c12 => ?_) (fun c12 => ?_)
  · have h := ifT c12 h
    refine q_iconst (v := (4 : Int32)) C dX3_kindAt_65 (by decide) ?_
    cases h
    exact q_iret C kf dX3_kindAt_66
  · have h := ifF c12 h
    refine q_iload_n 0 C dX3_kindAt_55 rfl ?_
    refine q_bipush (v := (57 : Int32)) C dX3_kindAt_56 (by decide) ?_
    refine q_icmp_gt (tgt := 65) C dX3_kindAt_58 (by decide) (fun c13 => ?_) (fun c13 => ?_)
    · have h := ifT c13 h
      refine q_iconst (v := (4 : Int32)) C dX3_kindAt_65 (by decide) ?_
      cases h
      exact q_iret C kf dX3_kindAt_66
    · have h := ifF c13 h
      refine q_iconst (v := (3 : Int32)) C dX3_kindAt_61 (by decide) ?_
      refine q_goto (tgt := 66) C dX3_kindAt_62 (by decide) ?_
      cases h
      exact q_iret C kf dX3_kindAt_66
set_option maxRecDepth 100000 in
set_option maxHeartbeats 4000000 in
theorem w_X3_kindAt {X : CX} {y : Int32} (C : CK X cX3_kindAt 3 RX3 7 140) (hRO : RO X.2.2.1 X.1.2.2.2.2.1 X.1.2.2.2.2.1.heap) (hl : X.1.2.1.stackTraces = false) (l0 : Nat) (l1 : Int32) (M : Mem) (h : F_X3_kindAt l0 l1 M = some y) (kf : FIN X (some .int) (rs_pI y) M) : wq X 3 0 [(0, .ref l0), (1, .int l1)] [] M := by
  unfold F_X3_kindAt at h
  refine q_iload_n 1 C dX3_kindAt_0 rfl ?_
  refine q_if_lt (tgt := 12) C dX3_kindAt_1 (by decide) (fun c1 => ?_) (fun c1 => ?_)
  · have h := ifT c1 h
    refine q_iconst (v := (0 : Int32)) C dX3_kindAt_12 (by decide) ?_
    cases h
    exact q_iret C kf dX3_kindAt_13
  · have h := ifF c1 h
    refine q_iload_n 1 C dX3_kindAt_4 rfl ?_
    refine q_aload_n 0 C dX3_kindAt_5 rfl ?_
    obtain ⟨v2, e3, h⟩ := bindE h
    refine q_getI C fl_RX3_19 rfl e3 dX3_kindAt_6 ?_
    refine q_icmp_lt (tgt := 14) C dX3_kindAt_9 (by decide) (fun c4 => ?_) (fun c4 => ?_)
    · have h := ifT c4 h
      refine q_aload_n 0 C dX3_kindAt_14 rfl ?_
      obtain ⟨v5, e6, h⟩ := bindE h
      refine q_getP C fl_RX3_9 rfl e6 dX3_kindAt_15 ?_
      refine q_iload_n 1 C dX3_kindAt_18 rfl ?_
      obtain ⟨v7, e8, h⟩ := bindE h
      refine q_baload C e8 dX3_kindAt_19 ?_
      refine q_istore_n (i := 2) (lv' := [(2, .int v7), (0, .ref l0), (1, .int l1)]) C dX3_kindAt_20 rfl (by decide) rfl ?_
      refine q_iload_n 0 C dX3_kindAt_21 rfl ?_
      refine q_bipush (v := (32 : Int32)) C dX3_kindAt_22 (by decide) ?_
      refine q_icmp_eq (tgt := 33) C dX3_kindAt_24 (by decide) (fun c9 => ?_) (fun c9 => ?_)
      · have h := ifT c9 h
        refine q_iconst (v := (1 : Int32)) C dX3_kindAt_33 (by decide) ?_
        cases h
        exact q_iret C kf dX3_kindAt_34
      · have h := ifF c9 h
        refine q_iload_n 0 C dX3_kindAt_27 rfl ?_
        refine q_bipush (v := (10 : Int32)) C dX3_kindAt_28 (by decide) ?_
        refine q_icmp_ne (tgt := 35) C dX3_kindAt_30 (by decide) (fun c10 => ?_) (fun c10 => ?_)
        · have h := ifF c10 h
          refine q_iload_n 0 C dX3_kindAt_35 rfl ?_
          refine q_bipush (v := (97 : Int32)) C dX3_kindAt_36 (by decide) ?_
          refine q_icmp_lt (tgt := 49) C dX3_kindAt_38 (by decide) (fun c11 => ?_) (fun c11 => ?_)
          · have h := ifT c11 h
            exact q_sub (lv' := [(2, .int v7)]) [0] rfl (w_X3_kindAt_j49 C hRO hl v7 M h kf)
          · have h := ifF c11 h
            refine q_iload_n 0 C dX3_kindAt_41 rfl ?_
            refine q_bipush (v := (122 : Int32)) C dX3_kindAt_42 (by decide) ?_
            refine q_icmp_gt (tgt := 49) C dX3_kindAt_44 (by decide) (fun c14 => ?_) (fun c14 => ?_)
            · have h := ifT c14 h
              exact q_sub (lv' := [(2, .int v7)]) [0] rfl (w_X3_kindAt_j49 C hRO hl v7 M h kf)
            · have h := ifF c14 h
              refine q_iconst (v := (2 : Int32)) C dX3_kindAt_47 (by decide) ?_
              cases h
              exact q_iret C kf dX3_kindAt_48
        · have h := ifT c10 h
          refine q_iconst (v := (1 : Int32)) C dX3_kindAt_33 (by decide) ?_
          cases h
          exact q_iret C kf dX3_kindAt_34
    · have h := ifF c4 h
      refine q_iconst (v := (0 : Int32)) C dX3_kindAt_12 (by decide) ?_
      cases h
      exact q_iret C kf dX3_kindAt_13
theorem k_X3_kindAt (l : Launch) (hl : l.stackTraces = false) (G : GG) (l0 : Nat) (l1 : Int32) (M : Mem) (x : Int32) (h : F_X3_kindAt l0 l1 M = some x) : Ct l G yX3_kindAt (.code yX3_kindAt cX3_kindAt 3 (some .int)) 7 140 [.ref l0, .int l1] M (rs_pI x) M := by
  refine Ct_of (by decide +kernel) (Nat.le_of_ble_eq_true rfl) fun X e1 e2 e3 C FN hnm => ?_
  subst e1; subst e2
  show wq X 3 0 [(0, .ref l0), (1, .int l1)] [] M
  exact w_X3_kindAt C FN.2.2.2 hl l0 l1 M h FN
/-! X3_advance -/
set_option maxRecDepth 100000 in
set_option maxHeartbeats 4000000 in
theorem w_X3_advance_s8 {X : CX} {y : (Mem) ⊕ (Mem)} (C : CK X cX3_advance 2 RX3 8 162) (hRO : RO X.2.2.1 X.1.2.2.2.2.1 X.1.2.2.2.2.1.heap) (hl : X.1.2.1.stackTraces = false) (l0 : Nat)  (M : Mem) (h : F_X3_advance_s8 l0  M = some y) (kc : ∀ s' : Mem, y = .inl s' → wq X 2 8 [(0, .ref l0)] [] s') (kx : ∀ e' : Mem, y = (.inr e') → wq X 2 44 [(0, .ref l0)] [] e') : wq X 2 8 [(0, .ref l0)] [] M := by
  unfold F_X3_advance_s8 at h
  refine q_aload_n 0 C dX3_advance_8 rfl ?_
  obtain ⟨v5, e6, h⟩ := bindE h
  refine q_getI C fl_RX3_31 rfl e6 dX3_advance_9 ?_
  refine q_aload_n 0 C dX3_advance_12 rfl ?_
  obtain ⟨v7, e8, h⟩ := bindE h
  refine q_getI C fl_RX3_19 rfl e8 dX3_advance_13 ?_
  refine q_icmp_ge (tgt := 44) C dX3_advance_16 (by decide) (fun c9 => ?_) (fun c9 => ?_)
  · have h := ifT c9 h
    exact q_sub (lv' := [(0, .ref l0)]) [0] rfl (kx M (someI h))
  · have h := ifF c9 h
    refine q_aload_n 0 C dX3_advance_19 rfl ?_
    refine q_aload_n 0 C dX3_advance_20 rfl ?_
    obtain ⟨v10, e11, h⟩ := bindE h
    refine q_getI C fl_RX3_31 rfl e11 dX3_advance_21 ?_
    obtain ⟨e12, h⟩ := ckOE h
    obtain ⟨v14, e13, h⟩ := bindE h
    refine q_callV (v := some (.int v14)) [.int v10] C hRO lk_RX3_73 vk_X3_kindAt e12 rfl rfl rfl (Nat.le_of_ble_eq_true rfl) (by decide) (by decide) dX3_advance_24 (k_X3_kindAt X.1.2.1 hl X.2.2.1 l0 v10 M _ e13) ?_
    refine q_iconst (v := (1 : Int32)) C dX3_advance_27 (by decide) ?_
    refine q_icmp_ne (tgt := 44) C dX3_advance_28 (by decide) (fun c15 => ?_) (fun c15 => ?_)
    · have h := ifF c15 h
      exact q_sub (lv' := [(0, .ref l0)]) [0] rfl (kx M (someI h))
    · have h := ifT c15 h
      refine q_aload_n 0 C dX3_advance_31 rfl ?_
      refine q_dup C dX3_advance_32 rfl ?_
      obtain ⟨v16, e17, h⟩ := bindE h
      refine q_getI C fl_RX3_31 rfl e17 dX3_advance_33 ?_
      refine q_iconst (v := (1 : Int32)) C dX3_advance_36 (by decide) ?_
      refine q_iadd C dX3_advance_37 ?_
      obtain ⟨M18, e19, h⟩ := bindE h
      refine q_putI C fp_RX3_31 rfl e19 dX3_advance_38 ?_
      refine q_goto (tgt := 8) C dX3_advance_41 (by decide) ?_
      exact q_sub (lv' := [(0, .ref l0)]) [0] rfl (kc M18 (someI h))
theorem w_X3_advance_l8 {X : CX} {r : Mem} (C : CK X cX3_advance 2 RX3 8 162) (hRO : RO X.2.2.1 X.1.2.2.2.2.1 X.1.2.2.2.2.1.heap) (hl : X.1.2.1.stackTraces = false) (l0 : Nat)  (M : Mem) (h : loop (fun s => F_X3_advance_s8 l0 s) M = some r) (kx : ∀ e' : Mem, r = e' → wq X 2 44 [(0, .ref l0)] [] e') : wq X 2 8 [(0, .ref l0)] [] M :=
  loop_ind (P := fun s => wq X 2 8 [(0, .ref l0)] [] s) h (fun s y hy kc kr => w_X3_advance_s8 C hRO hl l0 s hy kc (fun e' he => kx e' (kr _ he).symm))
set_option maxRecDepth 100000 in
set_option maxHeartbeats 4000000 in
theorem w_X3_advance_s80 {X : CX} {y : (Mem) ⊕ (Mem)} (C : CK X cX3_advance 2 RX3 8 162) (hRO : RO X.2.2.1 X.1.2.2.2.2.1 X.1.2.2.2.2.1.heap) (hl : X.1.2.1.stackTraces = false) (l0 : Nat)  (M : Mem) (h : F_X3_advance_s80 l0  M = some y) (kc : ∀ s' : Mem, y = .inl s' → wq X 2 80 [(0, .ref l0)] [] s') (kx : ∀ e' : Mem, y = (.inr e') → wq X 2 127 [(0, .ref l0)] [] e') : wq X 2 80 [(0, .ref l0)] [] M := by
  unfold F_X3_advance_s80 at h
  refine q_aload_n 0 C dX3_advance_80 rfl ?_
  obtain ⟨v37, e38, h⟩ := bindE h
  refine q_getI C fl_RX3_34 rfl e38 dX3_advance_81 ?_
  refine q_aload_n 0 C dX3_advance_84 rfl ?_
  obtain ⟨v39, e40, h⟩ := bindE h
  refine q_getI C fl_RX3_19 rfl e40 dX3_advance_85 ?_
  refine q_icmp_ge (tgt := 127) C dX3_advance_88 (by decide) (fun c41 => ?_) (fun c41 => ?_)
  · have h := ifT c41 h
    exact q_sub (lv' := [(0, .ref l0)]) [0] rfl (kx M (someI h))
  · have h := ifF c41 h
    refine q_aload_n 0 C dX3_advance_91 rfl ?_
    refine q_aload_n 0 C dX3_advance_92 rfl ?_
    obtain ⟨v42, e43, h⟩ := bindE h
    refine q_getI C fl_RX3_34 rfl e43 dX3_advance_93 ?_
    obtain ⟨e44, h⟩ := ckOE h
    obtain ⟨v46, e45, h⟩ := bindE h
    refine q_callV (v := some (.int v46)) [.int v42] C hRO lk_RX3_73 vk_X3_kindAt e44 rfl rfl rfl (Nat.le_of_ble_eq_true rfl) (by decide) (by decide) dX3_advance_96 (k_X3_kindAt X.1.2.1 hl X.2.2.1 l0 v42 M _ e45) ?_
    refine q_aload_n 0 C dX3_advance_99 rfl ?_
    obtain ⟨v47, e48, h⟩ := bindE h
    refine q_getI C fl_RX3_28 rfl e48 dX3_advance_100 ?_
    refine q_icmp_ne (tgt := 127) C dX3_advance_103 (by decide) (fun c49 => ?_) (fun c49 => ?_)
    · have h := ifF c49 h
      exact q_sub (lv' := [(0, .ref l0)]) [0] rfl (kx M (someI h))
    · have h := ifT c49 h
      refine q_aload_n 0 C dX3_advance_106 rfl ?_
      obtain ⟨v50, e51, h⟩ := bindE h
      refine q_getI C fl_RX3_28 rfl e51 dX3_advance_107 ?_
      refine q_iconst (v := (4 : Int32)) C dX3_advance_110 (by decide) ?_
      refine q_icmp_eq (tgt := 127) C dX3_advance_111 (by decide) (fun c52 => ?_) (fun c52 => ?_)
      · have h := ifT c52 h
        exact q_sub (lv' := [(0, .ref l0)]) [0] rfl (kx M (someI h))
      · have h := ifF c52 h
        refine q_aload_n 0 C dX3_advance_114 rfl ?_
        refine q_dup C dX3_advance_115 rfl ?_
        obtain ⟨v53, e54, h⟩ := bindE h
        refine q_getI C fl_RX3_34 rfl e54 dX3_advance_116 ?_
        refine q_iconst (v := (1 : Int32)) C dX3_advance_119 (by decide) ?_
        refine q_iadd C dX3_advance_120 ?_
        obtain ⟨M55, e56, h⟩ := bindE h
        refine q_putI C fp_RX3_34 rfl e56 dX3_advance_121 ?_
        refine q_goto (tgt := 80) C dX3_advance_124 (by decide) ?_
        exact q_sub (lv' := [(0, .ref l0)]) [0] rfl (kc M55 (someI h))
theorem w_X3_advance_l80 {X : CX} {r : Mem} (C : CK X cX3_advance 2 RX3 8 162) (hRO : RO X.2.2.1 X.1.2.2.2.2.1 X.1.2.2.2.2.1.heap) (hl : X.1.2.1.stackTraces = false) (l0 : Nat)  (M : Mem) (h : loop (fun s => F_X3_advance_s80 l0 s) M = some r) (kx : ∀ e' : Mem, r = e' → wq X 2 127 [(0, .ref l0)] [] e') : wq X 2 80 [(0, .ref l0)] [] M :=
  loop_ind (P := fun s => wq X 2 80 [(0, .ref l0)] [] s) h (fun s y hy kc kr => w_X3_advance_s80 C hRO hl l0 s hy kc (fun e' he => kx e' (kr _ he).symm))
set_option maxRecDepth 100000 in
set_option maxHeartbeats 4000000 in
theorem w_X3_advance_s154 {X : CX} {y : (Int32 × Mem) ⊕ (Mem)} (C : CK X cX3_advance 2 RX3 8 162) (hRO : RO X.2.2.1 X.1.2.2.2.2.1 X.1.2.2.2.2.1.heap) (hl : X.1.2.1.stackTraces = false) (l0 : Nat) (l1 : Int32) (M : Mem) (h : F_X3_advance_s154 l0 l1 M = some y) (kc : ∀ s' : Int32 × Mem, y = .inl s' → wq X 2 154 [(0, .ref l0), (1, .int (s'.1))] [] s'.2) (kx : ∀ e' : Mem, y = (.inr e') → wq X 2 205 [] [] e') : wq X 2 154 [(0, .ref l0), (1, .int l1)] [] M := by
  unfold F_X3_advance_s154 at h
  refine q_iload_n 1 C dX3_advance_154 rfl ?_
  refine q_aload_n 0 C dX3_advance_155 rfl ?_
  obtain ⟨v69, e70, h⟩ := bindE h
  refine q_getI C fl_RX3_34 rfl e70 dX3_advance_156 ?_
  refine q_icmp_ge (tgt := 205) C dX3_advance_159 (by decide) (fun c71 => ?_) (fun c71 => ?_)
  · have h := ifT c71 h
    exact q_sub (lv' := []) [] rfl (kx M (someI h))
  · have h := ifF c71 h
    refine q_aload_n 0 C dX3_advance_162 rfl ?_
    obtain ⟨v72, e73, h⟩ := bindE h
    refine q_getI C fl_RX3_28 rfl e73 dX3_advance_163 ?_
    refine q_iconst (v := (3 : Int32)) C dX3_advance_166 (by decide) ?_
    refine q_icmp_ne (tgt := 205) C dX3_advance_167 (by decide) (fun c74 => ?_) (fun c74 => ?_)
    · have h := ifF c74 h
      exact q_sub (lv' := []) [] rfl (kx M (someI h))
    · have h := ifT c74 h
      refine q_aload_n 0 C dX3_advance_170 rfl ?_
      obtain ⟨v75, e76, h⟩ := bindE h
      refine q_getI C fl_RX3_37 rfl e76 dX3_advance_171 ?_
      refine q_iconst (v := (-1 : Int32)) C dX3_advance_174 (by decide) ?_
      refine q_icmp_eq (tgt := 205) C dX3_advance_175 (by decide) (fun c77 => ?_) (fun c77 => ?_)
      · have h := ifT c77 h
        exact q_sub (lv' := []) [] rfl (kx M (someI h))
      · have h := ifF c77 h
        refine q_aload_n 0 C dX3_advance_178 rfl ?_
        refine q_aload_n 0 C dX3_advance_179 rfl ?_
        obtain ⟨v78, e79, h⟩ := bindE h
        refine q_getI C fl_RX3_37 rfl e79 dX3_advance_180 ?_
        refine q_bipush (v := (10 : Int32)) C dX3_advance_183 (by decide) ?_
        refine q_imul C dX3_advance_185 ?_
        refine q_aload_n 0 C dX3_advance_186 rfl ?_
        obtain ⟨v80, e81, h⟩ := bindE h
        refine q_getP C fl_RX3_9 rfl e81 dX3_advance_187 ?_
        refine q_iload_n 1 C dX3_advance_190 rfl ?_
        obtain ⟨v82, e83, h⟩ := bindE h
        refine q_baload C e83 dX3_advance_191 ?_
        refine q_iadd C dX3_advance_192 ?_
        refine q_bipush (v := (48 : Int32)) C dX3_advance_193 (by decide) ?_
        refine q_isub C dX3_advance_195 ?_
        obtain ⟨M84, e85, h⟩ := bindE h
        refine q_putI C fp_RX3_37 rfl e85 dX3_advance_196 ?_
        refine q_iinc 1 (v := (l1 + (1 : Int32))) (lv' := [(1, .int (l1 + (1 : Int32))), (0, .ref l0)]) C dX3_advance_199 rfl rfl (by decide) rfl ?_
        refine q_goto (tgt := 154) C dX3_advance_202 (by decide) ?_
        exact q_sub (lv' := [(0, .ref l0), (1, .int (l1 + (1 : Int32)))]) [1, 0] rfl (kc ((l1 + (1 : Int32)), M84) (someI h))
theorem w_X3_advance_l154 {X : CX} {r : Mem} (C : CK X cX3_advance 2 RX3 8 162) (hRO : RO X.2.2.1 X.1.2.2.2.2.1 X.1.2.2.2.2.1.heap) (hl : X.1.2.1.stackTraces = false) (l0 : Nat) (l1 : Int32) (M : Mem) (h : loop (fun s => F_X3_advance_s154 l0 s.1 s.2) (l1, M) = some r) (kx : ∀ e' : Mem, r = e' → wq X 2 205 [] [] e') : wq X 2 154 [(0, .ref l0), (1, .int l1)] [] M :=
  loop_ind (P := fun s => wq X 2 154 [(0, .ref l0), (1, .int s.1)] [] s.2) h (fun s y hy kc kr => w_X3_advance_s154 C hRO hl l0 s.1 s.2 hy kc (fun e' he => kx e' (kr _ he).symm))
set_option maxRecDepth 100000 in
set_option maxHeartbeats 4000000 in
theorem w_X3_advance_j127 {X : CX} {y : Mem} (C : CK X cX3_advance 2 RX3 8 162) (hRO : RO X.2.2.1 X.1.2.2.2.2.1 X.1.2.2.2.2.1.heap) (hl : X.1.2.1.stackTraces = false) (l0 : Nat) (M : Mem) (h : F_X3_advance_j127 l0 M = some y) (kf : FIN X none (rs_mV y) (ms_mV y)) : wq X 2 127 [(0, .ref l0)] [] M := by
  unfold F_X3_advance_j127 at h
  refine q_aload_n 0 C dX3_advance_127 rfl ?_
  refine q_aload_n 0 C dX3_advance_128 rfl ?_
  obtain ⟨v60, e61, h⟩ := bindE h
  refine q_getI C fl_RX3_34 rfl e61 dX3_advance_129 ?_
  refine q_aload_n 0 C dX3_advance_132 rfl ?_
  obtain ⟨v62, e63, h⟩ := bindE h
  refine q_getI C fl_RX3_31 rfl e63 dX3_advance_133 ?_
  refine q_isub C dX3_advance_136 ?_
  refine q_iconst (v := (4 : Int32)) C dX3_advance_137 (by decide) ?_
  refine q_icmp_le (tgt := 145) C dX3_advance_138 (by decide) (fun c64 => ?_) (fun c64 => ?_)
  · have h := ifT c64 h
    refine q_iconst (v := (0 : Int32)) C dX3_advance_145 (by decide) ?_
    obtain ⟨M65, e66, h⟩ := bindE h
    refine q_putI C fp_RX3_37 rfl e66 dX3_advance_146 ?_
    refine q_aload_n 0 C dX3_advance_149 rfl ?_
    obtain ⟨v67, e68, h⟩ := bindE h
    refine q_getI C fl_RX3_31 rfl e68 dX3_advance_150 ?_
    refine q_istore_n (i := 1) (lv' := [(1, .int v67), (0, .ref l0)]) C dX3_advance_153 rfl (by decide) rfl ?_
    obtain ⟨M88, e87, h⟩ := bindE h
    refine q_sub (lv' := [(0, .ref l0), (1, .int v67)]) [1, 0] rfl (w_X3_advance_l154 C hRO hl l0 v67 M65 e87 (fun r86 he => ?_))
    subst he
    show wq X 2 205 [] [] M88
    cases h
    exact q_vret C kf dX3_advance_205
  · have h := ifF c64 h
    refine q_iconst (v := (-1 : Int32)) C dX3_advance_141 (by decide) ?_
    refine q_goto (tgt := 146) C dX3_advance_142 (by decide) ?_
    obtain ⟨M90, e91, h⟩ := bindE h
    refine q_putI C fp_RX3_37 rfl e91 dX3_advance_146 ?_
    refine q_aload_n 0 C dX3_advance_149 rfl ?_
    obtain ⟨v92, e93, h⟩ := bindE h
    refine q_getI C fl_RX3_31 rfl e93 dX3_advance_150 ?_
    refine q_istore_n (i := 1) (lv' := [(1, .int v92), (0, .ref l0)]) C dX3_advance_153 rfl (by decide) rfl ?_
    obtain ⟨M96, e95, h⟩ := bindE h
    refine q_sub (lv' := [(0, .ref l0), (1, .int v92)]) [1, 0] rfl (w_X3_advance_l154 C hRO hl l0 v92 M90 e95 (fun r94 he => ?_))
    subst he
    show wq X 2 205 [] [] M96
    cases h
    exact q_vret C kf dX3_advance_205
set_option maxRecDepth 100000 in
set_option maxHeartbeats 4000000 in
theorem w_X3_advance_j44 {X : CX} {y : Mem} (C : CK X cX3_advance 2 RX3 8 162) (hRO : RO X.2.2.1 X.1.2.2.2.2.1 X.1.2.2.2.2.1.heap) (hl : X.1.2.1.stackTraces = false) (l0 : Nat) (M : Mem) (h : F_X3_advance_j44 l0 M = some y) (kf : FIN X none (rs_mV y) (ms_mV y)) : wq X 2 44 [(0, .ref l0)] [] M := by
  unfold F_X3_advance_j44 at h
  refine q_aload_n 0 C dX3_advance_44 rfl ?_
  refine q_aload_n 0 C dX3_advance_45 rfl ?_
  refine q_aload_n 0 C dX3_advance_46 rfl ?_
  obtain ⟨v23, e24, h⟩ := bindE h
  refine q_getI C fl_RX3_31 rfl e24 dX3_advance_47 ?_
  obtain ⟨e25, h⟩ := ckOE h
  obtain ⟨v27, e26, h⟩ := bindE h
  refine q_callV (v := some (.int v27)) [.int v23] C hRO lk_RX3_73 vk_X3_kindAt e25 rfl rfl rfl (Nat.le_of_ble_eq_true rfl) (by decide) (by decide) dX3_advance_50 (k_X3_kindAt X.1.2.1 hl X.2.2.1 l0 v23 M _ e26) ?_
  obtain ⟨M28, e29, h⟩ := bindE h
  refine q_putI C fp_RX3_28 rfl e29 dX3_advance_53 ?_
  refine q_aload_n 0 C dX3_advance_56 rfl ?_
  refine q_aload_n 0 C dX3_advance_57 rfl ?_
  obtain ⟨v30, e31, h⟩ := bindE h
  refine q_getI C fl_RX3_28 rfl e31 dX3_advance_58 ?_
  refine q_if_ne (tgt := 71) C dX3_advance_61 (by decide) (fun c32 => ?_) (fun c32 => ?_)
  · have h := ifF c32 h
    refine q_aload_n 0 C dX3_advance_71 rfl ?_
    obtain ⟨v33, e34, h⟩ := bindE h
    refine q_getI C fl_RX3_31 rfl e34 dX3_advance_72 ?_
    refine q_iconst (v := (1 : Int32)) C dX3_advance_75 (by decide) ?_
    refine q_iadd C dX3_advance_76 ?_
    obtain ⟨M35, e36, h⟩ := bindE h
    refine q_putI C fp_RX3_34 rfl e36 dX3_advance_77 ?_
    obtain ⟨M59, e58, h⟩ := bindE h
    refine q_sub (lv' := [(0, .ref l0)]) [0] rfl (w_X3_advance_l80 C hRO hl l0 M35 e58 (fun r57 he => ?_))
    subst he
    show wq X 2 127 [(0, .ref l0)] [] M59
    exact q_sub (lv' := [(0, .ref l0)]) [0] rfl (w_X3_advance_j127 C hRO hl l0 M59 h kf)
  · have h := ifT c32 h
    refine q_aload_n 0 C dX3_advance_64 rfl ?_
    obtain ⟨v99, e100, h⟩ := bindE h
    refine q_getI C fl_RX3_31 rfl e100 dX3_advance_65 ?_
    refine q_goto (tgt := 77) C dX3_advance_68 (by decide) ?_
    obtain ⟨M101, e102, h⟩ := bindE h
    refine q_putI C fp_RX3_34 rfl e102 dX3_advance_77 ?_
    obtain ⟨M105, e104, h⟩ := bindE h
    refine q_sub (lv' := [(0, .ref l0)]) [0] rfl (w_X3_advance_l80 C hRO hl l0 M101 e104 (fun r103 he => ?_))
    subst he
    show wq X 2 127 [(0, .ref l0)] [] M105
    exact q_sub (lv' := [(0, .ref l0)]) [0] rfl (w_X3_advance_j127 C hRO hl l0 M105 h kf)
set_option maxRecDepth 100000 in
set_option maxHeartbeats 4000000 in
theorem w_X3_advance {X : CX} {y : Mem} (C : CK X cX3_advance 2 RX3 8 162) (hRO : RO X.2.2.1 X.1.2.2.2.2.1 X.1.2.2.2.2.1.heap) (hl : X.1.2.1.stackTraces = false) (l0 : Nat) (M : Mem) (h : F_X3_advance l0 M = some y) (kf : FIN X none (rs_mV y) (ms_mV y)) : wq X 2 0 [(0, .ref l0)] [] M := by
  unfold F_X3_advance at h
  refine q_aload_n 0 C dX3_advance_0 rfl ?_
  refine q_aload_n 0 C dX3_advance_1 rfl ?_
  obtain ⟨v1, e2, h⟩ := bindE h
  refine q_getI C fl_RX3_34 rfl e2 dX3_advance_2 ?_
  obtain ⟨M3, e4, h⟩ := bindE h
  refine q_putI C fp_RX3_31 rfl e4 dX3_advance_5 ?_
  obtain ⟨M22, e21, h⟩ := bindE h
  refine q_sub (lv' := [(0, .ref l0)]) [0] rfl (w_X3_advance_l8 C hRO hl l0 M3 e21 (fun r20 he => ?_))
  subst he
  show wq X 2 44 [(0, .ref l0)] [] M22
  exact q_sub (lv' := [(0, .ref l0)]) [0] rfl (w_X3_advance_j44 C hRO hl l0 M22 h kf)
theorem k_X3_advance (l : Launch) (hl : l.stackTraces = false) (G : GG) (l0 : Nat) (M : Mem) (x : Mem) (h : F_X3_advance l0 M = some x) : Ct l G yX3_advance (.code yX3_advance cX3_advance 2 none) 8 162 [.ref l0] M (rs_mV x) (ms_mV x) := by
  refine Ct_of (by decide +kernel) (Nat.le_of_ble_eq_true rfl) fun X e1 e2 e3 C FN hnm => ?_
  subst e1; subst e2
  show wq X 2 0 [(0, .ref l0)] [] M
  exact w_X3_advance C FN.2.2.2 hl l0 M h FN
/-! X3_fail -/
set_option maxRecDepth 100000 in
set_option maxHeartbeats 4000000 in
theorem w_X3_fail {X : CX} {y : Mem} (C : CK X cX3_fail 2 RX3 7 140) (hRO : RO X.2.2.1 X.1.2.2.2.2.1 X.1.2.2.2.2.1.heap) (hl : X.1.2.1.stackTraces = false) (l0 : Nat) (l1 : Int32) (M : Mem) (h : F_X3_fail l0 l1 M = some y) (kf : FIN X none (rs_mV y) (ms_mV y)) : wq X 2 0 [(0, .ref l0), (1, .int l1)] [] M := by
  unfold F_X3_fail at h
  refine q_aload_n 0 C dX3_fail_0 rfl ?_
  obtain ⟨v1, e2, h⟩ := bindE h
  refine q_getI C fl_RX3_22 rfl e2 dX3_fail_1 ?_
  refine q_if_ne (tgt := 20) C dX3_fail_4 (by decide) (fun c3 => ?_) (fun c3 => ?_)
  · have h := ifF c3 h
    cases h
    exact q_vret C kf dX3_fail_20
  · have h := ifT c3 h
    refine q_aload_n 0 C dX3_fail_7 rfl ?_
    refine q_iload_n 1 C dX3_fail_8 rfl ?_
    obtain ⟨M4, e5, h⟩ := bindE h
    refine q_putI C fp_RX3_22 rfl e5 dX3_fail_9 ?_
    refine q_aload_n 0 C dX3_fail_12 rfl ?_
    refine q_aload_n 0 C dX3_fail_13 rfl ?_
    obtain ⟨v6, e7, h⟩ := bindE h
    refine q_getI C fl_RX3_31 rfl e7 dX3_fail_14 ?_
    obtain ⟨M8, e9, h⟩ := bindE h
    refine q_putI C fp_RX3_25 rfl e9 dX3_fail_17 ?_
    cases h
    exact q_vret C kf dX3_fail_20
theorem k_X3_fail (l : Launch) (hl : l.stackTraces = false) (G : GG) (l0 : Nat) (l1 : Int32) (M : Mem) (x : Mem) (h : F_X3_fail l0 l1 M = some x) : Ct l G yX3_fail (.code yX3_fail cX3_fail 2 none) 7 140 [.ref l0, .int l1] M (rs_mV x) (ms_mV x) := by
  refine Ct_of (by decide +kernel) (Nat.le_of_ble_eq_true rfl) fun X e1 e2 e3 C FN hnm => ?_
  subst e1; subst e2
  show wq X 2 0 [(0, .ref l0), (1, .int l1)] [] M
  exact w_X3_fail C FN.2.2.2 hl l0 l1 M h FN
/-! X3_takeNumber -/
set_option maxRecDepth 100000 in
set_option maxHeartbeats 4000000 in
theorem w_X3_takeNumber_j36 {X : CX} {y : Int32 × Mem} (C : CK X cX3_takeNumber 4 RX3 9 183) (hRO : RO X.2.2.1 X.1.2.2.2.2.1 X.1.2.2.2.2.1.heap) (hl : X.1.2.1.stackTraces = false) (l0 : Nat) (l3 : Int32) (M : Mem) (h : F_X3_takeNumber_j36 l0 l3 M = some y) (kf : FIN X (some .int) (rs_mI y) (ms_mI y)) : wq X 4 36 [(0, .ref l0), (3, .int l3)] [] M := by
  unfold F_X3_takeNumber_j36 at h
  refine q_aload_n 0 C dX3_takeNumber_36 rfl ?_
  obtain ⟨v11, e12, h⟩ := bindE h
  refine q_getI C fl_RX3_22 rfl e12 dX3_takeNumber_37 ?_
  refine q_if_ne (tgt := 47) C dX3_takeNumber_40 (by decide) (fun c13 => ?_) (fun c13 => ?_)
  · have h := ifF c13 h
    refine q_iload_n 1 C dX3_takeNumber_47 rfl ?_
    cases h
    exact q_iret C kf dX3_takeNumber_48
  · have h := ifT c13 h
    refine q_aload_n 0 C dX3_takeNumber_43 rfl ?_
    obtain ⟨e14, h⟩ := ckOE h
    obtain ⟨M16, e15, h⟩ := bindE h
    refine q_callV (v := none) [] C hRO lk_RX3_62 vk_X3_advance e14 rfl rfl rfl (Nat.le_of_ble_eq_true rfl) (by decide) (by decide) dX3_takeNumber_44 (k_X3_advance X.1.2.1 hl X.2.2.1 l0 M _ e15) ?_
    refine q_iload_n 1 C dX3_takeNumber_47 rfl ?_
    cases h
    exact q_iret C kf dX3_takeNumber_48
set_option maxRecDepth 100000 in
set_option maxHeartbeats 4000000 in
theorem w_X3_takeNumber_j31 {X : CX} {y : Int32 × Mem} (C : CK X cX3_takeNumber 4 RX3 9 183) (hRO : RO X.2.2.1 X.1.2.2.2.2.1 X.1.2.2.2.2.1.heap) (hl : X.1.2.1.stackTraces = false) (l0 : Nat) (l3 : Int32) (M : Mem) (h : F_X3_takeNumber_j31 l0 l3 M = some y) (kf : FIN X (some .int) (rs_mI y) (ms_mI y)) : wq X 4 31 [(0, .ref l0), (3, .int l3)] [] M := by
  unfold F_X3_takeNumber_j31 at h
  refine q_aload_n 0 C dX3_takeNumber_31 rfl ?_
  refine q_iconst (v := (2 : Int32)) C dX3_takeNumber_32 (by decide) ?_
  obtain ⟨e7, h⟩ := ckOE h
  obtain ⟨M9, e8, h⟩ := bindE h
  refine q_callV (v := none) [.int (2 : Int32)] C hRO lk_RX3_90 vk_X3_fail e7 rfl rfl rfl (Nat.le_of_ble_eq_true rfl) (by decide) (by decide) dX3_takeNumber_33 (k_X3_fail X.1.2.1 hl X.2.2.1 l0 (2 : Int32) M _ e8) ?_
  exact q_sub (lv' := [(0, .ref l0), (3, .int l3)]) [0, 1] rfl (w_X3_takeNumber_j36 C hRO hl l0 l3 M9 h kf)
set_option maxRecDepth 100000 in
set_option maxHeartbeats 4000000 in
theorem w_X3_takeNumber {X : CX} {y : Int32 × Mem} (C : CK X cX3_takeNumber 4 RX3 9 183) (hRO : RO X.2.2.1 X.1.2.2.2.2.1 X.1.2.2.2.2.1.heap) (hl : X.1.2.1.stackTraces = false) (l0 : Nat) (l1 : Int32) (l2 : Int32) (M : Mem) (h : F_X3_takeNumber l0 l1 l2 M = some y) (kf : FIN X (some .int) (rs_mI y) (ms_mI y)) : wq X 4 0 [(0, .ref l0), (1, .int l1), (2, .int l2)] [] M := by
  unfold F_X3_takeNumber at h
  refine q_aload_n 0 C dX3_takeNumber_0 rfl ?_
  obtain ⟨v1, e2, h⟩ := bindE h
  refine q_getI C fl_RX3_37 rfl e2 dX3_takeNumber_1 ?_
  refine q_istore_n (i := 3) (lv' := [(3, .int v1), (0, .ref l0), (1, .int l1), (2, .int l2)]) C dX3_takeNumber_4 rfl (by decide) rfl ?_
  refine q_aload_n 1 C dX3_takeNumber_5 rfl ?_
  obtain ⟨v3, e4, h⟩ := bindE h
  refine q_getI C fl_RX3_28 rfl e4 dX3_takeNumber_6 ?_
  refine q_iconst (v := (3 : Int32)) C dX3_takeNumber_9 (by decide) ?_
  refine q_icmp_eq (tgt := 21) C dX3_takeNumber_10 (by decide) (fun c5 => ?_) (fun c5 => ?_)
  · have h := ifT c5 h
    refine q_iload_n 0 C dX3_takeNumber_21 rfl ?_
    refine q_iload_n 2 C dX3_takeNumber_22 rfl ?_
    refine q_icmp_lt (tgt := 31) C dX3_takeNumber_23 (by decide) (fun c6 => ?_) (fun c6 => ?_)
    · have h := ifT c6 h
      exact q_sub (lv' := [(0, .ref l0), (3, .int v1)]) [1, 0] rfl (w_X3_takeNumber_j31 C hRO hl l0 v1 M h kf)
    · have h := ifF c6 h
      refine q_iload_n 0 C dX3_takeNumber_26 rfl ?_
      refine q_iload_n 3 C dX3_takeNumber_27 rfl ?_
      refine q_icmp_le (tgt := 36) C dX3_takeNumber_28 (by decide) (fun c18 => ?_) (fun c18 => ?_)
      · have h := ifT c18 h
        exact q_sub (lv' := [(0, .ref l0), (3, .int v1)]) [1, 0] rfl (w_X3_takeNumber_j36 C hRO hl l0 v1 M h kf)
      · have h := ifF c18 h
        exact q_sub (lv' := [(0, .ref l0), (3, .int v1)]) [1, 0] rfl (w_X3_takeNumber_j31 C hRO hl l0 v1 M h kf)
  · have h := ifF c5 h
    refine q_aload_n 1 C dX3_takeNumber_13 rfl ?_
    refine q_iconst (v := (1 : Int32)) C dX3_takeNumber_14 (by decide) ?_
    obtain ⟨e19, h⟩ := ckOE h
    obtain ⟨M21, e20, h⟩ := bindE h
    refine q_callV (v := none) [.int (1 : Int32)] C hRO lk_RX3_90 vk_X3_fail e19 rfl rfl rfl (Nat.le_of_ble_eq_true rfl) (by decide) (by decide) dX3_takeNumber_15 (k_X3_fail X.1.2.1 hl X.2.2.1 l0 (1 : Int32) M _ e20) ?_
    refine q_goto (tgt := 36) C dX3_takeNumber_18 (by decide) ?_
    exact q_sub (lv' := [(0, .ref l0), (3, .int v1)]) [1, 0] rfl (w_X3_takeNumber_j36 C hRO hl l0 v1 M21 h kf)
theorem k_X3_takeNumber (l : Launch) (hl : l.stackTraces = false) (G : GG) (l0 : Nat) (l1 : Int32) (l2 : Int32) (M : Mem) (x : Int32 × Mem) (h : F_X3_takeNumber l0 l1 l2 M = some x) : Ct l G yX3_takeNumber (.code yX3_takeNumber cX3_takeNumber 4 (some .int)) 9 183 [.ref l0, .int l1, .int l2] M (rs_mI x) (ms_mI x) := by
  refine Ct_of (by decide +kernel) (Nat.le_of_ble_eq_true rfl) fun X e1 e2 e3 C FN hnm => ?_
  subst e1; subst e2
  show wq X 4 0 [(0, .ref l0), (1, .int l1), (2, .int l2)] [] M
  exact w_X3_takeNumber C FN.2.2.2 hl l0 l1 l2 M h FN
/-! X3_dampLine -/
set_option maxRecDepth 100000 in
set_option maxHeartbeats 4000000 in
theorem w_X3_dampLine_s37 {X : CX} {y : (Int32 × Mem) ⊕ (Mem)} (C : CK X cX3_dampLine 3 RX3 10 206) (hRO : RO X.2.2.1 X.1.2.2.2.2.1 X.1.2.2.2.2.1.heap) (hl : X.1.2.1.stackTraces = false) (l0 : Nat) (l1 : Nat) (l2 : Int32) (M : Mem) (h : F_X3_dampLine_s37 l0 l1 l2 M = some y) (kc : ∀ s' : Int32 × Mem, y = .inl s' → wq X 3 37 [(0, .ref l0), (1, .ref l1), (2, .int (s'.1))] [] s'.2) (kx : ∀ e' : Mem, y = (.inr e') → wq X 3 87 [(0, .ref l0)] [] e') : wq X 3 37 [(0, .ref l0), (1, .ref l1), (2, .int l2)] [] M := by
  unfold F_X3_dampLine_s37 at h
  refine q_iload_n 2 C dX3_dampLine_37 rfl ?_
  refine q_bipush (v := (8 : Int32)) C dX3_dampLine_38 (by decide) ?_
  refine q_icmp_ge (tgt := 87) C dX3_dampLine_40 (by decide) (fun c18 => ?_) (fun c18 => ?_)
  · have h := ifT c18 h
    exact q_sub (lv' := [(0, .ref l0)]) [0] rfl (kx M (someI h))
  · have h := ifF c18 h
    refine q_aload_n 0 C dX3_dampLine_43 rfl ?_
    obtain ⟨v19, e20, h⟩ := bindE h
    refine q_getI C fl_RX3_22 rfl e20 dX3_dampLine_44 ?_
    refine q_if_ne (tgt := 87) C dX3_dampLine_47 (by decide) (fun c21 => ?_) (fun c21 => ?_)
    · have h := ifF c21 h
      exact q_sub (lv' := [(0, .ref l0)]) [0] rfl (kx M (someI h))
    · have h := ifT c21 h
      refine q_aload_n 0 C dX3_dampLine_50 rfl ?_
      obtain ⟨v22, e23, h⟩ := bindE h
      refine q_getI C fl_RX3_28 rfl e23 dX3_dampLine_51 ?_
      refine q_iconst (v := (3 : Int32)) C dX3_dampLine_54 (by decide) ?_
      refine q_icmp_ne (tgt := 87) C dX3_dampLine_55 (by decide) (fun c24 => ?_) (fun c24 => ?_)
      · have h := ifF c24 h
        exact q_sub (lv' := [(0, .ref l0)]) [0] rfl (kx M (someI h))
      · have h := ifT c24 h
        refine q_aload_n 1 C dX3_dampLine_58 rfl ?_
        obtain ⟨v25, e26, h⟩ := bindE h
        refine q_getP C fl_RX3_161 rfl e26 dX3_dampLine_59 ?_
        refine q_iload_n 2 C dX3_dampLine_62 rfl ?_
        refine q_aload_n 0 C dX3_dampLine_63 rfl ?_
        refine q_iconst (v := (0 : Int32)) C dX3_dampLine_64 (by decide) ?_
        refine q_bipush (v := (9 : Int32)) C dX3_dampLine_65 (by decide) ?_
        obtain ⟨e27, h⟩ := ckOE h
        obtain ⟨v30, M29, e28, h⟩ := bd2E h
        refine q_callV (v := some (.int v30)) [.int (0 : Int32), .int (9 : Int32)] C hRO lk_RX3_127 vk_X3_takeNumber e27 rfl rfl rfl (Nat.le_of_ble_eq_true rfl) (by decide) (by decide) dX3_dampLine_67 (k_X3_takeNumber X.1.2.1 hl X.2.2.1 l0 (0 : Int32) (9 : Int32) M _ e28) ?_
        obtain ⟨M31, e32, h⟩ := bindE h
        refine q_iastore C e32 dX3_dampLine_70 ?_
        refine q_aload_n 1 C dX3_dampLine_71 rfl ?_
        refine q_dup C dX3_dampLine_72 rfl ?_
        obtain ⟨v33, e34, h⟩ := bindE h
        refine q_getI C fl_RX3_158 rfl e34 dX3_dampLine_73 ?_
        refine q_iconst (v := (1 : Int32)) C dX3_dampLine_76 (by decide) ?_
        refine q_iadd C dX3_dampLine_77 ?_
        obtain ⟨M35, e36, h⟩ := bindE h
        refine q_putI C fp_RX3_158 rfl e36 dX3_dampLine_78 ?_
        refine q_iinc 2 (v := (l2 + (1 : Int32))) (lv' := [(2, .int (l2 + (1 : Int32))), (0, .ref l0), (1, .ref l1)]) C dX3_dampLine_81 rfl rfl (by decide) rfl ?_
        refine q_goto (tgt := 37) C dX3_dampLine_84 (by decide) ?_
        exact q_sub (lv' := [(0, .ref l0), (1, .ref l1), (2, .int (l2 + (1 : Int32)))]) [1, 2, 0] rfl (kc ((l2 + (1 : Int32)), M35) (someI h))
theorem w_X3_dampLine_l37 {X : CX} {r : Mem} (C : CK X cX3_dampLine 3 RX3 10 206) (hRO : RO X.2.2.1 X.1.2.2.2.2.1 X.1.2.2.2.2.1.heap) (hl : X.1.2.1.stackTraces = false) (l0 : Nat) (l1 : Nat) (l2 : Int32) (M : Mem) (h : loop (fun s => F_X3_dampLine_s37 l0 l1 s.1 s.2) (l2, M) = some r) (kx : ∀ e' : Mem, r = e' → wq X 3 87 [(0, .ref l0)] [] e') : wq X 3 37 [(0, .ref l0), (1, .ref l1), (2, .int l2)] [] M :=
  loop_ind (P := fun s => wq X 3 37 [(0, .ref l0), (1, .ref l1), (2, .int s.1)] [] s.2) h (fun s y hy kc kr => w_X3_dampLine_s37 C hRO hl l0 l1 s.1 s.2 hy kc (fun e' he => kx e' (kr _ he).symm))
set_option maxRecDepth 100000 in
set_option maxHeartbeats 4000000 in
theorem w_X3_dampLine_j87 {X : CX} {y : Mem} (C : CK X cX3_dampLine 3 RX3 10 206) (hRO : RO X.2.2.1 X.1.2.2.2.2.1 X.1.2.2.2.2.1.heap) (hl : X.1.2.1.stackTraces = false) (l0 : Nat) (M : Mem) (h : F_X3_dampLine_j87 l0 M = some y) (kf : FIN X none (rs_mV y) (ms_mV y)) : wq X 3 87 [(0, .ref l0)] [] M := by
  unfold F_X3_dampLine_j87 at h
  refine q_aload_n 0 C dX3_dampLine_87 rfl ?_
  obtain ⟨v40, e41, h⟩ := bindE h
  refine q_getI C fl_RX3_28 rfl e41 dX3_dampLine_88 ?_
  refine q_iconst (v := (3 : Int32)) C dX3_dampLine_91 (by decide) ?_
  refine q_icmp_ne (tgt := 100) C dX3_dampLine_92 (by decide) (fun c42 => ?_) (fun c42 => ?_)
  · have h := ifF c42 h
    cases h
    exact q_vret C kf dX3_dampLine_100
  · have h := ifT c42 h
    refine q_aload_n 0 C dX3_dampLine_95 rfl ?_
    refine q_iconst (v := (2 : Int32)) C dX3_dampLine_96 (by decide) ?_
    obtain ⟨e43, h⟩ := ckOE h
    obtain ⟨M45, e44, h⟩ := bindE h
    refine q_callV (v := none) [.int (2 : Int32)] C hRO lk_RX3_90 vk_X3_fail e43 rfl rfl rfl (Nat.le_of_ble_eq_true rfl) (by decide) (by decide) dX3_dampLine_97 (k_X3_fail X.1.2.1 hl X.2.2.1 l0 (2 : Int32) M _ e44) ?_
    cases h
    exact q_vret C kf dX3_dampLine_100
set_option maxRecDepth 100000 in
set_option maxHeartbeats 4000000 in
theorem w_X3_dampLine {X : CX} {y : Mem} (C : CK X cX3_dampLine 3 RX3 10 206) (hRO : RO X.2.2.1 X.1.2.2.2.2.1 X.1.2.2.2.2.1.heap) (hl : X.1.2.1.stackTraces = false) (l0 : Nat) (l1 : Nat) (M : Mem) (h : F_X3_dampLine l0 l1 M = some y) (kf : FIN X none (rs_mV y) (ms_mV y)) : wq X 3 0 [(0, .ref l0), (1, .ref l1)] [] M := by
  unfold F_X3_dampLine at h
  refine q_aload_n 1 C dX3_dampLine_0 rfl ?_
  obtain ⟨v1, e2, h⟩ := bindE h
  refine q_getI C fl_RX3_158 rfl e2 dX3_dampLine_1 ?_
  refine q_if_le (tgt := 13) C dX3_dampLine_4 (by decide) (fun c3 => ?_) (fun c3 => ?_)
  · have h := ifT c3 h
    refine q_aload_n 0 C dX3_dampLine_13 rfl ?_
    obtain ⟨e4, h⟩ := ckOE h
    obtain ⟨M6, e5, h⟩ := bindE h
    refine q_callV (v := none) [] C hRO lk_RX3_62 vk_X3_advance e4 rfl rfl rfl (Nat.le_of_ble_eq_true rfl) (by decide) (by decide) dX3_dampLine_14 (k_X3_advance X.1.2.1 hl X.2.2.1 l0 M _ e5) ?_
    refine q_aload_n 1 C dX3_dampLine_17 rfl ?_
    obtain ⟨v8, e9, h⟩ := bindE h
    refine q_getP C fl_RX3_161 rfl e9 dX3_dampLine_18 ?_
    refine q_iconst (v := (0 : Int32)) C dX3_dampLine_21 (by decide) ?_
    refine q_aload_n 0 C dX3_dampLine_22 rfl ?_
    refine q_iconst (v := (0 : Int32)) C dX3_dampLine_23 (by decide) ?_
    refine q_bipush (v := (9 : Int32)) C dX3_dampLine_24 (by decide) ?_
    obtain ⟨e10, h⟩ := ckOE h
    obtain ⟨v13, M12, e11, h⟩ := bd2E h
    refine q_callV (v := some (.int v13)) [.int (0 : Int32), .int (9 : Int32)] C hRO lk_RX3_127 vk_X3_takeNumber e10 rfl rfl rfl (Nat.le_of_ble_eq_true rfl) (by decide) (by decide) dX3_dampLine_26 (k_X3_takeNumber X.1.2.1 hl X.2.2.1 l0 (0 : Int32) (9 : Int32) M6 _ e11) ?_
    obtain ⟨M14, e15, h⟩ := bindE h
    refine q_iastore C e15 dX3_dampLine_29 ?_
    refine q_aload_n 1 C dX3_dampLine_30 rfl ?_
    refine q_iconst (v := (1 : Int32)) C dX3_dampLine_31 (by decide) ?_
    obtain ⟨M16, e17, h⟩ := bindE h
    refine q_putI C fp_RX3_158 rfl e17 dX3_dampLine_32 ?_
    refine q_iconst (v := (1 : Int32)) C dX3_dampLine_35 (by decide) ?_
    refine q_istore_n (i := 2) (lv' := [(2, .int (1 : Int32)), (0, .ref l0), (1, .ref l1)]) C dX3_dampLine_36 rfl (by decide) rfl ?_
    obtain ⟨M39, e38, h⟩ := bindE h
    refine q_sub (lv' := [(0, .ref l0), (1, .ref l1), (2, .int (1 : Int32))]) [1, 2, 0] rfl (w_X3_dampLine_l37 C hRO hl l0 l1 (1 : Int32) M16 e38 (fun r37 he => ?_))
    subst he
    show wq X 3 87 [(0, .ref l0)] [] M39
    exact q_sub (lv' := [(0, .ref l0)]) [0] rfl (w_X3_dampLine_j87 C hRO hl l0 M39 h kf)
  · have h := ifF c3 h
    refine q_aload_n 0 C dX3_dampLine_7 rfl ?_
    refine q_iconst (v := (5 : Int32)) C dX3_dampLine_8 (by decide) ?_
    obtain ⟨e48, h⟩ := ckOE h
    obtain ⟨M50, e49, h⟩ := bindE h
    refine q_callV (v := none) [.int (5 : Int32)] C hRO lk_RX3_90 vk_X3_fail e48 rfl rfl rfl (Nat.le_of_ble_eq_true rfl) (by decide) (by decide) dX3_dampLine_9 (k_X3_fail X.1.2.1 hl X.2.2.1 l0 (5 : Int32) M _ e49) ?_
    cases h
    exact q_vret C kf dX3_dampLine_12
theorem k_X3_dampLine (l : Launch) (hl : l.stackTraces = false) (G : GG) (l0 : Nat) (l1 : Nat) (M : Mem) (x : Mem) (h : F_X3_dampLine l0 l1 M = some x) : Ct l G yX3_dampLine (.code yX3_dampLine cX3_dampLine 3 none) 10 206 [.ref l0, .ref l1] M (rs_mV x) (ms_mV x) := by
  refine Ct_of (by decide +kernel) (Nat.le_of_ble_eq_true rfl) fun X e1 e2 e3 C FN hnm => ?_
  subst e1; subst e2
  show wq X 3 0 [(0, .ref l0), (1, .ref l1)] [] M
  exact w_X3_dampLine C FN.2.2.2 hl l0 l1 M h FN
/-! X3_houseLine -/
set_option maxRecDepth 100000 in
set_option maxHeartbeats 4000000 in
theorem w_X3_houseLine {X : CX} {y : Mem} (C : CK X cX3_houseLine 2 RX3 10 206) (hRO : RO X.2.2.1 X.1.2.2.2.2.1 X.1.2.2.2.2.1.heap) (hl : X.1.2.1.stackTraces = false) (l0 : Nat) (l1 : Nat) (M : Mem) (h : F_X3_houseLine l0 l1 M = some y) (kf : FIN X none (rs_mV y) (ms_mV y)) : wq X 2 0 [(0, .ref l0), (1, .ref l1)] [] M := by
  unfold F_X3_houseLine at h
  refine q_aload_n 1 C dX3_houseLine_0 rfl ?_
  obtain ⟨v1, e2, h⟩ := bindE h
  refine q_getI C fl_RX3_121 rfl e2 dX3_houseLine_1 ?_
  refine q_bipush (v := (8 : Int32)) C dX3_houseLine_4 (by decide) ?_
  refine q_icmp_lt (tgt := 15) C dX3_houseLine_6 (by decide) (fun c3 => ?_) (fun c3 => ?_)
  · have h := ifT c3 h
    refine q_aload_n 0 C dX3_houseLine_15 rfl ?_
    obtain ⟨e4, h⟩ := ckOE h
    obtain ⟨M6, e5, h⟩ := bindE h
    refine q_callV (v := none) [] C hRO lk_RX3_62 vk_X3_advance e4 rfl rfl rfl (Nat.le_of_ble_eq_true rfl) (by decide) (by decide) dX3_houseLine_16 (k_X3_advance X.1.2.1 hl X.2.2.1 l0 M _ e5) ?_
    refine q_aload_n 1 C dX3_houseLine_19 rfl ?_
    obtain ⟨v8, e9, h⟩ := bindE h
    refine q_getP C fl_RX3_124 rfl e9 dX3_houseLine_20 ?_
    refine q_aload_n 1 C dX3_houseLine_23 rfl ?_
    obtain ⟨v10, e11, h⟩ := bindE h
    refine q_getI C fl_RX3_121 rfl e11 dX3_houseLine_24 ?_
    refine q_aload_n 0 C dX3_houseLine_27 rfl ?_
    refine q_iconst (v := (1 : Int32)) C dX3_houseLine_28 (by decide) ?_
    refine q_bipush (v := (60 : Int32)) C dX3_houseLine_29 (by decide) ?_
    obtain ⟨e12, h⟩ := ckOE h
    obtain ⟨v15, M14, e13, h⟩ := bd2E h
    refine q_callV (v := some (.int v15)) [.int (1 : Int32), .int (60 : Int32)] C hRO lk_RX3_127 vk_X3_takeNumber e12 rfl rfl rfl (Nat.le_of_ble_eq_true rfl) (by decide) (by decide) dX3_houseLine_31 (k_X3_takeNumber X.1.2.1 hl X.2.2.1 l0 (1 : Int32) (60 : Int32) M6 _ e13) ?_
    obtain ⟨M16, e17, h⟩ := bindE h
    refine q_iastore C e17 dX3_houseLine_34 ?_
    refine q_aload_n 1 C dX3_houseLine_35 rfl ?_
    obtain ⟨v18, e19, h⟩ := bindE h
    refine q_getP C fl_RX3_130 rfl e19 dX3_houseLine_36 ?_
    refine q_aload_n 1 C dX3_houseLine_39 rfl ?_
    obtain ⟨v20, e21, h⟩ := bindE h
    refine q_getI C fl_RX3_121 rfl e21 dX3_houseLine_40 ?_
    refine q_aload_n 0 C dX3_houseLine_43 rfl ?_
    refine q_iconst (v := (0 : Int32)) C dX3_houseLine_44 (by decide) ?_
    refine q_bipush (v := (9 : Int32)) C dX3_houseLine_45 (by decide) ?_
    obtain ⟨e22, h⟩ := ckOE h
    obtain ⟨v25, M24, e23, h⟩ := bd2E h
    refine q_callV (v := some (.int v25)) [.int (0 : Int32), .int (9 : Int32)] C hRO lk_RX3_127 vk_X3_takeNumber e22 rfl rfl rfl (Nat.le_of_ble_eq_true rfl) (by decide) (by decide) dX3_houseLine_47 (k_X3_takeNumber X.1.2.1 hl X.2.2.1 l0 (0 : Int32) (9 : Int32) M16 _ e23) ?_
    obtain ⟨M26, e27, h⟩ := bindE h
    refine q_iastore C e27 dX3_houseLine_50 ?_
    refine q_aload_n 1 C dX3_houseLine_51 rfl ?_
    obtain ⟨v28, e29, h⟩ := bindE h
    refine q_getP C fl_RX3_133 rfl e29 dX3_houseLine_52 ?_
    refine q_aload_n 1 C dX3_houseLine_55 rfl ?_
    obtain ⟨v30, e31, h⟩ := bindE h
    refine q_getI C fl_RX3_121 rfl e31 dX3_houseLine_56 ?_
    refine q_aload_n 0 C dX3_houseLine_59 rfl ?_
    refine q_iconst (v := (0 : Int32)) C dX3_houseLine_60 (by decide) ?_
    refine q_bipush (v := (30 : Int32)) C dX3_houseLine_61 (by decide) ?_
    obtain ⟨e32, h⟩ := ckOE h
    obtain ⟨v35, M34, e33, h⟩ := bd2E h
    refine q_callV (v := some (.int v35)) [.int (0 : Int32), .int (30 : Int32)] C hRO lk_RX3_127 vk_X3_takeNumber e32 rfl rfl rfl (Nat.le_of_ble_eq_true rfl) (by decide) (by decide) dX3_houseLine_63 (k_X3_takeNumber X.1.2.1 hl X.2.2.1 l0 (0 : Int32) (30 : Int32) M26 _ e33) ?_
    obtain ⟨M36, e37, h⟩ := bindE h
    refine q_iastore C e37 dX3_houseLine_66 ?_
    refine q_aload_n 1 C dX3_houseLine_67 rfl ?_
    refine q_dup C dX3_houseLine_68 rfl ?_
    obtain ⟨v38, e39, h⟩ := bindE h
    refine q_getI C fl_RX3_121 rfl e39 dX3_houseLine_69 ?_
    refine q_iconst (v := (1 : Int32)) C dX3_houseLine_72 (by decide) ?_
    refine q_iadd C dX3_houseLine_73 ?_
    obtain ⟨M40, e41, h⟩ := bindE h
    refine q_putI C fp_RX3_121 rfl e41 dX3_houseLine_74 ?_
    cases h
    exact q_vret C kf dX3_houseLine_77
  · have h := ifF c3 h
    refine q_aload_n 0 C dX3_houseLine_9 rfl ?_
    refine q_iconst (v := (2 : Int32)) C dX3_houseLine_10 (by decide) ?_
    obtain ⟨e42, h⟩ := ckOE h
    obtain ⟨M44, e43, h⟩ := bindE h
    refine q_callV (v := none) [.int (2 : Int32)] C hRO lk_RX3_90 vk_X3_fail e42 rfl rfl rfl (Nat.le_of_ble_eq_true rfl) (by decide) (by decide) dX3_houseLine_11 (k_X3_fail X.1.2.1 hl X.2.2.1 l0 (2 : Int32) M _ e43) ?_
    cases h
    exact q_vret C kf dX3_houseLine_14
theorem k_X3_houseLine (l : Launch) (hl : l.stackTraces = false) (G : GG) (l0 : Nat) (l1 : Nat) (M : Mem) (x : Mem) (h : F_X3_houseLine l0 l1 M = some x) : Ct l G yX3_houseLine (.code yX3_houseLine cX3_houseLine 2 none) 10 206 [.ref l0, .ref l1] M (rs_mV x) (ms_mV x) := by
  refine Ct_of (by decide +kernel) (Nat.le_of_ble_eq_true rfl) fun X e1 e2 e3 C FN hnm => ?_
  subst e1; subst e2
  show wq X 2 0 [(0, .ref l0), (1, .ref l1)] [] M
  exact w_X3_houseLine C FN.2.2.2 hl l0 l1 M h FN
/-! X3_isWord -/
set_option maxRecDepth 100000 in
set_option maxHeartbeats 4000000 in
theorem w_X3_isWord_s32 {X : CX} {y : (Int32 × Int32) ⊕ (Int32)} (C : CK X cX3_isWord 4 RX3 13 290) (hRO : RO X.2.2.1 X.1.2.2.2.2.1 X.1.2.2.2.2.1.heap) (hl : X.1.2.1.stackTraces = false) (l0 : Nat) (l1 : Nat) (M : Mem) (l2 : Int32) (l3 : Int32) (h : F_X3_isWord_s32 l0 l1 M l2 l3 = some y) (kc : ∀ s' : Int32 × Int32, y = .inl s' → wq X 4 32 [(0, .ref l0), (1, .retAddr l1), (2, .int (s'.1)), (3, .int (s'.2))] [] M) (kx : ∀ e' : Int32, y = (.inr e') → wq X 4 75 [(2, .int (e'))] [] M) : wq X 4 32 [(0, .ref l0), (1, .retAddr l1), (2, .int l2), (3, .int l3)] [] M := by
  unfold F_X3_isWord_s32 at h
  refine q_iload_n 3 C dX3_isWord_32 rfl ?_
  refine q_sload_n 1 C dX3_isWord_33 rfl ?_
  obtain ⟨v4, e5, h⟩ := bindE h
  refine q_callVS (v := some (.int v4)) [] C hRO lk_RX3_77 vk_J0_length (lt_J0_length e5) rfl rfl rfl (Nat.le_of_ble_eq_true rfl) (by decide) (by decide) dX3_isWord_34 (k_J0_length X.1.2.1 X.2.2.1 l1 M v4 e5) ?_
  refine q_icmp_ge (tgt := 75) C dX3_isWord_37 (by decide) (fun c6 => ?_) (fun c6 => ?_)
  · have h := ifT c6 h
    exact q_sub (lv' := [(2, .int l2)]) [2] rfl (kx l2 (someI h))
  · have h := ifF c6 h
    refine q_iload_n 2 C dX3_isWord_40 rfl ?_
    refine q_if_eq (tgt := 75) C dX3_isWord_41 (by decide) (fun c7 => ?_) (fun c7 => ?_)
    · have h := ifT c7 h
      exact q_sub (lv' := [(2, .int l2)]) [2] rfl (kx l2 (someI h))
    · have h := ifF c7 h
      refine q_aload_n 0 C dX3_isWord_44 rfl ?_
      obtain ⟨v8, e9, h⟩ := bindE h
      refine q_getP C fl_RX3_9 rfl e9 dX3_isWord_45 ?_
      refine q_aload_n 0 C dX3_isWord_48 rfl ?_
      obtain ⟨v10, e11, h⟩ := bindE h
      refine q_getI C fl_RX3_31 rfl e11 dX3_isWord_49 ?_
      refine q_iload_n 3 C dX3_isWord_52 rfl ?_
      refine q_iadd C dX3_isWord_53 ?_
      obtain ⟨v12, e13, h⟩ := bindE h
      refine q_baload C e13 dX3_isWord_54 ?_
      refine q_sload_n 1 C dX3_isWord_55 rfl ?_
      refine q_iload_n 3 C dX3_isWord_56 rfl ?_
      obtain ⟨v14, e15, h⟩ := bindE h
      refine q_callVS (v := some (.int v14)) [.int l3] C hRO lk_RX3_82 vk_J0_charAt (lt_J0_charAt e15) rfl rfl rfl (Nat.le_of_ble_eq_true rfl) (by decide) (by decide) dX3_isWord_57 (k_J0_charAt X.1.2.1 X.2.2.1 l1 l3 M v14 e15) ?_
      refine q_icmp_ne (tgt := 67) C dX3_isWord_60 (by decide) (fun c16 => ?_) (fun c16 => ?_)
      · have h := ifF c16 h
        refine q_iconst (v := (0 : Int32)) C dX3_isWord_67 (by decide) ?_
        refine q_istore_n (i := 2) (lv' := [(2, .int (0 : Int32)), (0, .ref l0), (1, .retAddr l1), (3, .int l3)]) C dX3_isWord_68 rfl (by decide) rfl ?_
        refine q_iinc 3 (v := (l3 + (1 : Int32))) (lv' := [(3, .int (l3 + (1 : Int32))), (2, .int (0 : Int32)), (0, .ref l0), (1, .retAddr l1)]) C dX3_isWord_69 rfl rfl (by decide) rfl ?_
        refine q_goto (tgt := 32) C dX3_isWord_72 (by decide) ?_
        exact q_sub (lv' := [(0, .ref l0), (1, .retAddr l1), (2, .int (0 : Int32)), (3, .int (l3 + (1 : Int32)))]) [2, 3, 1, 0] rfl (kc ((0 : Int32), (l3 + (1 : Int32))) (someI h))
      · have h := ifT c16 h
        refine q_iconst (v := (1 : Int32)) C dX3_isWord_63 (by decide) ?_
        refine q_goto (tgt := 68) C dX3_isWord_64 (by decide) ?_
        refine q_istore_n (i := 2) (lv' := [(2, .int (1 : Int32)), (0, .ref l0), (1, .retAddr l1), (3, .int l3)]) C dX3_isWord_68 rfl (by decide) rfl ?_
        refine q_iinc 3 (v := (l3 + (1 : Int32))) (lv' := [(3, .int (l3 + (1 : Int32))), (2, .int (1 : Int32)), (0, .ref l0), (1, .retAddr l1)]) C dX3_isWord_69 rfl rfl (by decide) rfl ?_
        refine q_goto (tgt := 32) C dX3_isWord_72 (by decide) ?_
        exact q_sub (lv' := [(0, .ref l0), (1, .retAddr l1), (2, .int (1 : Int32)), (3, .int (l3 + (1 : Int32)))]) [2, 3, 1, 0] rfl (kc ((1 : Int32), (l3 + (1 : Int32))) (someI h))
theorem w_X3_isWord_l32 {X : CX} {r : Int32} (C : CK X cX3_isWord 4 RX3 13 290) (hRO : RO X.2.2.1 X.1.2.2.2.2.1 X.1.2.2.2.2.1.heap) (hl : X.1.2.1.stackTraces = false) (l0 : Nat) (l1 : Nat) (M : Mem) (l2 : Int32) (l3 : Int32) (h : loop (fun s => F_X3_isWord_s32 l0 l1 M s.1 s.2) (l2, l3) = some r) (kx : ∀ e' : Int32, r = e' → wq X 4 75 [(2, .int (e'))] [] M) : wq X 4 32 [(0, .ref l0), (1, .retAddr l1), (2, .int l2), (3, .int l3)] [] M :=
  loop_ind (P := fun s => wq X 4 32 [(0, .ref l0), (1, .retAddr l1), (2, .int s.1), (3, .int s.2)] [] M) h (fun s y hy kc kr => w_X3_isWord_s32 C hRO hl l0 l1 M s.1 s.2 hy kc (fun e' he => kx e' (kr _ he).symm))
set_option maxRecDepth 100000 in
set_option maxHeartbeats 4000000 in
theorem w_X3_isWord {X : CX} {y : Int32} (C : CK X cX3_isWord 4 RX3 13 290) (hRO : RO X.2.2.1 X.1.2.2.2.2.1 X.1.2.2.2.2.1.heap) (hl : X.1.2.1.stackTraces = false) (l0 : Nat) (l1 : Nat) (M : Mem) (h : F_X3_isWord l0 l1 M = some y) (kf : FIN X (some .boolean) (rs_pI y) M) : wq X 4 0 [(0, .ref l0), (1, .retAddr l1)] [] M := by
  unfold F_X3_isWord at h
  refine q_aload_n 0 C dX3_isWord_0 rfl ?_
  obtain ⟨v1, e2, h⟩ := bindE h
  refine q_getI C fl_RX3_28 rfl e2 dX3_isWord_1 ?_
  refine q_iconst (v := (2 : Int32)) C dX3_isWord_4 (by decide) ?_
  refine q_icmp_ne (tgt := 28) C dX3_isWord_5 (by decide) (fun c3 => ?_) (fun c3 => ?_)
  · have h := ifF c3 h
    refine q_iconst (v := (0 : Int32)) C dX3_isWord_28 (by decide) ?_
    refine q_istore_n (i := 2) (lv' := [(2, .int (0 : Int32)), (0, .ref l0), (1, .retAddr l1)]) C dX3_isWord_29 rfl (by decide) rfl ?_
    refine q_iconst (v := (0 : Int32)) C dX3_isWord_30 (by decide) ?_
    refine q_istore_n (i := 3) (lv' := [(3, .int (0 : Int32)), (2, .int (0 : Int32)), (0, .ref l0), (1, .retAddr l1)]) C dX3_isWord_31 rfl (by decide) rfl ?_
    obtain ⟨x19, e18, h⟩ := bindE h
    refine q_sub (lv' := [(0, .ref l0), (1, .retAddr l1), (2, .int (0 : Int32)), (3, .int (0 : Int32))]) [2, 3, 1, 0] rfl (w_X3_isWord_l32 C hRO hl l0 l1 M (0 : Int32) (0 : Int32) e18 (fun r17 he => ?_))
    subst he
    show wq X 4 75 [(2, .int x19)] [] M
    refine q_iload_n 0 C dX3_isWord_75 rfl ?_
    cases h
    exact q_zretE (w := (nz x19)) rfl C kf dX3_isWord_76
  · have h := ifT c3 h
    refine q_aload_n 0 C dX3_isWord_8 rfl ?_
    obtain ⟨v21, e22, h⟩ := bindE h
    refine q_getI C fl_RX3_34 rfl e22 dX3_isWord_9 ?_
    refine q_aload_n 0 C dX3_isWord_12 rfl ?_
    obtain ⟨v23, e24, h⟩ := bindE h
    refine q_getI C fl_RX3_31 rfl e24 dX3_isWord_13 ?_
    refine q_isub C dX3_isWord_16 ?_
    refine q_sload_n 1 C dX3_isWord_17 rfl ?_
    obtain ⟨v25, e26, h⟩ := bindE h
    refine q_callVS (v := some (.int v25)) [] C hRO lk_RX3_77 vk_J0_length (lt_J0_length e26) rfl rfl rfl (Nat.le_of_ble_eq_true rfl) (by decide) (by decide) dX3_isWord_18 (k_J0_length X.1.2.1 X.2.2.1 l1 M v25 e26) ?_
    refine q_icmp_ne (tgt := 28) C dX3_isWord_21 (by decide) (fun c27 => ?_) (fun c27 => ?_)
    · have h := ifF c27 h
      refine q_iconst (v := (0 : Int32)) C dX3_isWord_28 (by decide) ?_
      refine q_istore_n (i := 2) (lv' := [(2, .int (0 : Int32)), (0, .ref l0), (1, .retAddr l1)]) C dX3_isWord_29 rfl (by decide) rfl ?_
      refine q_iconst (v := (0 : Int32)) C dX3_isWord_30 (by decide) ?_
      refine q_istore_n (i := 3) (lv' := [(3, .int (0 : Int32)), (2, .int (0 : Int32)), (0, .ref l0), (1, .retAddr l1)]) C dX3_isWord_31 rfl (by decide) rfl ?_
      obtain ⟨x30, e29, h⟩ := bindE h
      refine q_sub (lv' := [(0, .ref l0), (1, .retAddr l1), (2, .int (0 : Int32)), (3, .int (0 : Int32))]) [2, 3, 1, 0] rfl (w_X3_isWord_l32 C hRO hl l0 l1 M (0 : Int32) (0 : Int32) e29 (fun r28 he => ?_))
      subst he
      show wq X 4 75 [(2, .int x30)] [] M
      refine q_iload_n 0 C dX3_isWord_75 rfl ?_
      cases h
      exact q_zretE (w := (nz x30)) rfl C kf dX3_isWord_76
    · have h := ifT c27 h
      refine q_iconst (v := (1 : Int32)) C dX3_isWord_24 (by decide) ?_
      refine q_goto (tgt := 29) C dX3_isWord_25 (by decide) ?_
      refine q_istore_n (i := 2) (lv' := [(2, .int (1 : Int32)), (0, .ref l0), (1, .retAddr l1)]) C dX3_isWord_29 rfl (by decide) rfl ?_
      refine q_iconst (v := (0 : Int32)) C dX3_isWord_30 (by decide) ?_
      refine q_istore_n (i := 3) (lv' := [(3, .int (0 : Int32)), (2, .int (1 : Int32)), (0, .ref l0), (1, .retAddr l1)]) C dX3_isWord_31 rfl (by decide) rfl ?_
      obtain ⟨x34, e33, h⟩ := bindE h
      refine q_sub (lv' := [(0, .ref l0), (1, .retAddr l1), (2, .int (1 : Int32)), (3, .int (0 : Int32))]) [2, 3, 1, 0] rfl (w_X3_isWord_l32 C hRO hl l0 l1 M (1 : Int32) (0 : Int32) e33 (fun r32 he => ?_))
      subst he
      show wq X 4 75 [(2, .int x34)] [] M
      refine q_iload_n 0 C dX3_isWord_75 rfl ?_
      cases h
      exact q_zretE (w := (nz x34)) rfl C kf dX3_isWord_76
theorem k_X3_isWord (l : Launch) (hl : l.stackTraces = false) (G : GG) (l0 : Nat) (l1 : Nat) (M : Mem) (x : Int32) (h : F_X3_isWord l0 l1 M = some x) : Ct l G yX3_isWord (.code yX3_isWord cX3_isWord 4 (some .boolean)) 13 290 [.ref l0, .retAddr l1] M (rs_pI x) M := by
  refine Ct_of (by decide +kernel) (Nat.le_of_ble_eq_true rfl) fun X e1 e2 e3 C FN hnm => ?_
  subst e1; subst e2
  show wq X 4 0 [(0, .ref l0), (1, .retAddr l1)] [] M
  exact w_X3_isWord C FN.2.2.2 hl l0 l1 M h FN
/-! X3_takeHome -/
set_option maxRecDepth 100000 in
set_option maxHeartbeats 4000000 in
theorem w_X3_takeHome {X : CX} {y : Int32 × Mem} (C : CK X cX3_takeHome 3 RX3 9 183) (hRO : RO X.2.2.1 X.1.2.2.2.2.1 X.1.2.2.2.2.1.heap) (hl : X.1.2.1.stackTraces = false) (l0 : Nat) (l1 : Nat) (M : Mem) (h : F_X3_takeHome l0 l1 M = some y) (kf : FIN X (some .int) (rs_mI y) (ms_mI y)) : wq X 3 0 [(0, .ref l0), (1, .ref l1)] [] M := by
  unfold F_X3_takeHome at h
  refine q_aload_n 0 C dX3_takeHome_0 rfl ?_
  obtain ⟨v1, e2, h⟩ := bindE h
  refine q_getI C fl_RX3_37 rfl e2 dX3_takeHome_1 ?_
  refine q_istore_n (i := 2) (lv' := [(2, .int v1), (0, .ref l0), (1, .ref l1)]) C dX3_takeHome_4 rfl (by decide) rfl ?_
  refine q_aload_n 1 C dX3_takeHome_5 rfl ?_
  obtain ⟨v3, e4, h⟩ := bindE h
  refine q_getI C fl_RX3_28 rfl e4 dX3_takeHome_6 ?_
  refine q_iconst (v := (3 : Int32)) C dX3_takeHome_9 (by decide) ?_
  refine q_icmp_eq (tgt := 21) C dX3_takeHome_10 (by decide) (fun c5 => ?_) (fun c5 => ?_)
  · have h := ifT c5 h
    refine q_iload_n 0 C dX3_takeHome_21 rfl ?_
    refine q_iconst (v := (-1 : Int32)) C dX3_takeHome_22 (by decide) ?_
    refine q_icmp_ne (tgt := 34) C dX3_takeHome_23 (by decide) (fun c6 => ?_) (fun c6 => ?_)
    · have h := ifF c6 h
      refine q_iload_n 0 C dX3_takeHome_34 rfl ?_
      refine q_aload_n 2 C dX3_takeHome_35 rfl ?_
      obtain ⟨v7, e8, h⟩ := bindE h
      refine q_getI C fl_RX3_121 rfl e8 dX3_takeHome_36 ?_
      refine q_icmp_lt (tgt := 50) C dX3_takeHome_39 (by decide) (fun c9 => ?_) (fun c9 => ?_)
      · have h := ifT c9 h
        refine q_aload_n 2 C dX3_takeHome_50 rfl ?_
        refine q_iload_n 0 C dX3_takeHome_51 rfl ?_
        obtain ⟨e10, h⟩ := ckOE h
        obtain ⟨v12, e11, h⟩ := bindE h
        refine q_callV (v := some (.int v12)) [.int v1] C hRO lk_RX3_154 vk_X2_hasSomebodyAtFirst e10 rfl rfl rfl (Nat.le_of_ble_eq_true rfl) (by decide) (by decide) dX3_takeHome_52 (k_X2_hasSomebodyAtFirst X.1.2.1 hl X.2.2.1 l1 v1 M _ e11) ?_
        refine q_if_eq (tgt := 66) C dX3_takeHome_55 (by decide) (fun c13 => ?_) (fun c13 => ?_)
        · have h := ifT c13 h
          refine q_aload_n 1 C dX3_takeHome_66 rfl ?_
          obtain ⟨e14, h⟩ := ckOE h
          obtain ⟨M16, e15, h⟩ := bindE h
          refine q_callV (v := none) [] C hRO lk_RX3_62 vk_X3_advance e14 rfl rfl rfl (Nat.le_of_ble_eq_true rfl) (by decide) (by decide) dX3_takeHome_67 (k_X3_advance X.1.2.1 hl X.2.2.1 l0 M _ e15) ?_
          refine q_iload_n 0 C dX3_takeHome_70 rfl ?_
          cases h
          exact q_iret C kf dX3_takeHome_71
        · have h := ifF c13 h
          refine q_aload_n 1 C dX3_takeHome_58 rfl ?_
          refine q_iconst (v := (4 : Int32)) C dX3_takeHome_59 (by decide) ?_
          obtain ⟨e18, h⟩ := ckOE h
          obtain ⟨M20, e19, h⟩ := bindE h
          refine q_callV (v := none) [.int (4 : Int32)] C hRO lk_RX3_90 vk_X3_fail e18 rfl rfl rfl (Nat.le_of_ble_eq_true rfl) (by decide) (by decide) dX3_takeHome_60 (k_X3_fail X.1.2.1 hl X.2.2.1 l0 (4 : Int32) M _ e19) ?_
          refine q_goto (tgt := 70) C dX3_takeHome_63 (by decide) ?_
          refine q_iload_n 0 C dX3_takeHome_70 rfl ?_
          cases h
          exact q_iret C kf dX3_takeHome_71
      · have h := ifF c9 h
        refine q_aload_n 1 C dX3_takeHome_42 rfl ?_
        refine q_iconst (v := (3 : Int32)) C dX3_takeHome_43 (by decide) ?_
        obtain ⟨e22, h⟩ := ckOE h
        obtain ⟨M24, e23, h⟩ := bindE h
        refine q_callV (v := none) [.int (3 : Int32)] C hRO lk_RX3_90 vk_X3_fail e22 rfl rfl rfl (Nat.le_of_ble_eq_true rfl) (by decide) (by decide) dX3_takeHome_44 (k_X3_fail X.1.2.1 hl X.2.2.1 l0 (3 : Int32) M _ e23) ?_
        refine q_goto (tgt := 70) C dX3_takeHome_47 (by decide) ?_
        refine q_iload_n 0 C dX3_takeHome_70 rfl ?_
        cases h
        exact q_iret C kf dX3_takeHome_71
    · have h := ifT c6 h
      refine q_aload_n 1 C dX3_takeHome_26 rfl ?_
      refine q_iconst (v := (2 : Int32)) C dX3_takeHome_27 (by decide) ?_
      obtain ⟨e26, h⟩ := ckOE h
      obtain ⟨M28, e27, h⟩ := bindE h
      refine q_callV (v := none) [.int (2 : Int32)] C hRO lk_RX3_90 vk_X3_fail e26 rfl rfl rfl (Nat.le_of_ble_eq_true rfl) (by decide) (by decide) dX3_takeHome_28 (k_X3_fail X.1.2.1 hl X.2.2.1 l0 (2 : Int32) M _ e27) ?_
      refine q_goto (tgt := 70) C dX3_takeHome_31 (by decide) ?_
      refine q_iload_n 0 C dX3_takeHome_70 rfl ?_
      cases h
      exact q_iret C kf dX3_takeHome_71
  · have h := ifF c5 h
    refine q_aload_n 1 C dX3_takeHome_13 rfl ?_
    refine q_iconst (v := (1 : Int32)) C dX3_takeHome_14 (by decide) ?_
    obtain ⟨e30, h⟩ := ckOE h
    obtain ⟨M32, e31, h⟩ := bindE h
    refine q_callV (v := none) [.int (1 : Int32)] C hRO lk_RX3_90 vk_X3_fail e30 rfl rfl rfl (Nat.le_of_ble_eq_true rfl) (by decide) (by decide) dX3_takeHome_15 (k_X3_fail X.1.2.1 hl X.2.2.1 l0 (1 : Int32) M _ e31) ?_
    refine q_goto (tgt := 70) C dX3_takeHome_18 (by decide) ?_
    refine q_iload_n 0 C dX3_takeHome_70 rfl ?_
    cases h
    exact q_iret C kf dX3_takeHome_71
theorem k_X3_takeHome (l : Launch) (hl : l.stackTraces = false) (G : GG) (l0 : Nat) (l1 : Nat) (M : Mem) (x : Int32 × Mem) (h : F_X3_takeHome l0 l1 M = some x) : Ct l G yX3_takeHome (.code yX3_takeHome cX3_takeHome 3 (some .int)) 9 183 [.ref l0, .ref l1] M (rs_mI x) (ms_mI x) := by
  refine Ct_of (by decide +kernel) (Nat.le_of_ble_eq_true rfl) fun X e1 e2 e3 C FN hnm => ?_
  subst e1; subst e2
  show wq X 3 0 [(0, .ref l0), (1, .ref l1)] [] M
  exact w_X3_takeHome C FN.2.2.2 hl l0 l1 M h FN
/-! X3_personLine -/
set_option maxRecDepth 100000 in
set_option maxHeartbeats 4000000 in
theorem w_X3_personLine_j95 {X : CX} {y : Mem} (C : CK X cX3_personLine 2 RX3 14 313) (hRO : RO X.2.2.1 X.1.2.2.2.2.1 X.1.2.2.2.2.1.heap) (hl : X.1.2.1.stackTraces = false) (l1 : Nat) (M : Mem) (h : F_X3_personLine_j95 l1 M = some y) (kf : FIN X none (rs_mV y) (ms_mV y)) : wq X 2 95 [(1, .ref l1)] [] M := by
  unfold F_X3_personLine_j95 at h
  refine q_aload_n 0 C dX3_personLine_95 rfl ?_
  refine q_dup C dX3_personLine_96 rfl ?_
  obtain ⟨v37, e38, h⟩ := bindE h
  refine q_getI C fl_RX3_136 rfl e38 dX3_personLine_97 ?_
  refine q_iconst (v := (1 : Int32)) C dX3_personLine_100 (by decide) ?_
  refine q_iadd C dX3_personLine_101 ?_
  obtain ⟨M39, e40, h⟩ := bindE h
  refine q_putI C fp_RX3_136 rfl e40 dX3_personLine_102 ?_
  cases h
  exact q_vret C kf dX3_personLine_105
set_option maxRecDepth 100000 in
set_option maxHeartbeats 4000000 in
theorem w_X3_personLine {X : CX} {y : Mem} (C : CK X cX3_personLine 2 RX3 14 313) (hRO : RO X.2.2.1 X.1.2.2.2.2.1 X.1.2.2.2.2.1.heap) (hl : X.1.2.1.stackTraces = false) (l0 : Nat) (l1 : Nat) (M : Mem) (h : F_X3_personLine l0 l1 M = some y) (kf : FIN X none (rs_mV y) (ms_mV y)) : wq X 2 0 [(0, .ref l0), (1, .ref l1)] [] M := by
  unfold F_X3_personLine at h
  refine q_aload_n 1 C dX3_personLine_0 rfl ?_
  obtain ⟨v1, e2, h⟩ := bindE h
  refine q_getI C fl_RX3_136 rfl e2 dX3_personLine_1 ?_
  refine q_bipush (v := (8 : Int32)) C dX3_personLine_4 (by decide) ?_
  refine q_icmp_lt (tgt := 15) C dX3_personLine_6 (by decide) (fun c3 => ?_) (fun c3 => ?_)
  · have h := ifT c3 h
    refine q_aload_n 0 C dX3_personLine_15 rfl ?_
    obtain ⟨e4, h⟩ := ckOE h
    obtain ⟨M6, e5, h⟩ := bindE h
    refine q_callV (v := none) [] C hRO lk_RX3_62 vk_X3_advance e4 rfl rfl rfl (Nat.le_of_ble_eq_true rfl) (by decide) (by decide) dX3_personLine_16 (k_X3_advance X.1.2.1 hl X.2.2.1 l0 M _ e5) ?_
    refine q_aload_n 1 C dX3_personLine_19 rfl ?_
    obtain ⟨v8, e9, h⟩ := bindE h
    refine q_getP C fl_RX3_139 rfl e9 dX3_personLine_20 ?_
    refine q_aload_n 1 C dX3_personLine_23 rfl ?_
    obtain ⟨v10, e11, h⟩ := bindE h
    refine q_getI C fl_RX3_136 rfl e11 dX3_personLine_24 ?_
    refine q_aload_n 0 C dX3_personLine_27 rfl ?_
    refine q_iconst (v := (1 : Int32)) C dX3_personLine_28 (by decide) ?_
    refine q_bipush (v := (60 : Int32)) C dX3_personLine_29 (by decide) ?_
    obtain ⟨e12, h⟩ := ckOE h
    obtain ⟨v15, M14, e13, h⟩ := bd2E h
    refine q_callV (v := some (.int v15)) [.int (1 : Int32), .int (60 : Int32)] C hRO lk_RX3_127 vk_X3_takeNumber e12 rfl rfl rfl (Nat.le_of_ble_eq_true rfl) (by decide) (by decide) dX3_personLine_31 (k_X3_takeNumber X.1.2.1 hl X.2.2.1 l0 (1 : Int32) (60 : Int32) M6 _ e13) ?_
    obtain ⟨M16, e17, h⟩ := bindE h
    refine q_iastore C e17 dX3_personLine_34 ?_
    refine q_aload_n 1 C dX3_personLine_35 rfl ?_
    obtain ⟨v18, e19, h⟩ := bindE h
    refine q_getP C fl_RX3_142 rfl e19 dX3_personLine_36 ?_
    refine q_aload_n 1 C dX3_personLine_39 rfl ?_
    obtain ⟨v20, e21, h⟩ := bindE h
    refine q_getI C fl_RX3_136 rfl e21 dX3_personLine_40 ?_
    refine q_aload_n 0 C dX3_personLine_43 rfl ?_
    refine q_iconst (v := (0 : Int32)) C dX3_personLine_44 (by decide) ?_
    refine q_bipush (v := (9 : Int32)) C dX3_personLine_45 (by decide) ?_
    obtain ⟨e22, h⟩ := ckOE h
    obtain ⟨v25, M24, e23, h⟩ := bd2E h
    refine q_callV (v := some (.int v25)) [.int (0 : Int32), .int (9 : Int32)] C hRO lk_RX3_127 vk_X3_takeNumber e22 rfl rfl rfl (Nat.le_of_ble_eq_true rfl) (by decide) (by decide) dX3_personLine_47 (k_X3_takeNumber X.1.2.1 hl X.2.2.1 l0 (0 : Int32) (9 : Int32) M16 _ e23) ?_
    obtain ⟨M26, e27, h⟩ := bindE h
    refine q_iastore C e27 dX3_personLine_50 ?_
    refine q_aload_n 1 C dX3_personLine_51 rfl ?_
    obtain ⟨v28, e29, h⟩ := bindE h
    refine q_getP C fl_RX3_145 rfl e29 dX3_personLine_52 ?_
    refine q_aload_n 1 C dX3_personLine_55 rfl ?_
    obtain ⟨v30, e31, h⟩ := bindE h
    refine q_getI C fl_RX3_136 rfl e31 dX3_personLine_56 ?_
    refine q_iconst (v := (-1 : Int32)) C dX3_personLine_59 (by decide) ?_
    obtain ⟨M32, e33, h⟩ := bindE h
    refine q_iastore C e33 dX3_personLine_60 ?_
    refine q_aload_n 0 C dX3_personLine_61 rfl ?_
    obtain ⟨v34, e35, h⟩ := bindE h
    refine q_getI C fl_RX3_22 rfl e35 dX3_personLine_62 ?_
    refine q_if_ne (tgt := 95) C dX3_personLine_65 (by decide) (fun c36 => ?_) (fun c36 => ?_)
    · have h := ifF c36 h
      exact q_sub (lv' := [(1, .ref l1)]) [1] rfl (w_X3_personLine_j95 C hRO hl l1 M32 h kf)
    · have h := ifT c36 h
      refine q_aload_n 0 C dX3_personLine_68 rfl ?_
      refine q_ldcS (i := 3) C hRO rfl dX3_personLine_69 ?_
      obtain ⟨e41, h⟩ := ckOE h
      obtain ⟨v43, e42, h⟩ := bindE h
      refine q_callV (v := some (.int v43)) [.retAddr 3] C hRO lk_RX3_96 vk_X3_isWord e41 rfl rfl rfl (Nat.le_of_ble_eq_true rfl) (by decide) (by decide) dX3_personLine_71 (k_X3_isWord X.1.2.1 hl X.2.2.1 l0 3 M32 _ e42) ?_
      refine q_if_eq (tgt := 95) C dX3_personLine_74 (by decide) (fun c44 => ?_) (fun c44 => ?_)
      · have h := ifT c44 h
        exact q_sub (lv' := [(1, .ref l1)]) [1] rfl (w_X3_personLine_j95 C hRO hl l1 M32 h kf)
      · have h := ifF c44 h
        refine q_aload_n 0 C dX3_personLine_77 rfl ?_
        obtain ⟨e45, h⟩ := ckOE h
        obtain ⟨M47, e46, h⟩ := bindE h
        refine q_callV (v := none) [] C hRO lk_RX3_62 vk_X3_advance e45 rfl rfl rfl (Nat.le_of_ble_eq_true rfl) (by decide) (by decide) dX3_personLine_78 (k_X3_advance X.1.2.1 hl X.2.2.1 l0 M32 _ e46) ?_
        refine q_aload_n 1 C dX3_personLine_81 rfl ?_
        obtain ⟨v49, e50, h⟩ := bindE h
        refine q_getP C fl_RX3_145 rfl e50 dX3_personLine_82 ?_
        refine q_aload_n 1 C dX3_personLine_85 rfl ?_
        obtain ⟨v51, e52, h⟩ := bindE h
        refine q_getI C fl_RX3_136 rfl e52 dX3_personLine_86 ?_
        refine q_aload_n 0 C dX3_personLine_89 rfl ?_
        refine q_aload_n 1 C dX3_personLine_90 rfl ?_
        obtain ⟨e53, h⟩ := ckOE h
        obtain ⟨v56, M55, e54, h⟩ := bd2E h
        refine q_callV (v := some (.int v56)) [.ref l1] C hRO lk_RX3_150 vk_X3_takeHome e53 rfl rfl rfl (Nat.le_of_ble_eq_true rfl) (by decide) (by decide) dX3_personLine_91 (k_X3_takeHome X.1.2.1 hl X.2.2.1 l0 l1 M47 _ e54) ?_
        obtain ⟨M57, e58, h⟩ := bindE h
        refine q_iastore C e58 dX3_personLine_94 ?_
        exact q_sub (lv' := [(1, .ref l1)]) [1] rfl (w_X3_personLine_j95 C hRO hl l1 M57 h kf)
  · have h := ifF c3 h
    refine q_aload_n 0 C dX3_personLine_9 rfl ?_
    refine q_iconst (v := (2 : Int32)) C dX3_personLine_10 (by decide) ?_
    obtain ⟨e59, h⟩ := ckOE h
    obtain ⟨M61, e60, h⟩ := bindE h
    refine q_callV (v := none) [.int (2 : Int32)] C hRO lk_RX3_90 vk_X3_fail e59 rfl rfl rfl (Nat.le_of_ble_eq_true rfl) (by decide) (by decide) dX3_personLine_11 (k_X3_fail X.1.2.1 hl X.2.2.1 l0 (2 : Int32) M _ e60) ?_
    cases h
    exact q_vret C kf dX3_personLine_14
theorem k_X3_personLine (l : Launch) (hl : l.stackTraces = false) (G : GG) (l0 : Nat) (l1 : Nat) (M : Mem) (x : Mem) (h : F_X3_personLine l0 l1 M = some x) : Ct l G yX3_personLine (.code yX3_personLine cX3_personLine 2 none) 14 313 [.ref l0, .ref l1] M (rs_mV x) (ms_mV x) := by
  refine Ct_of (by decide +kernel) (Nat.le_of_ble_eq_true rfl) fun X e1 e2 e3 C FN hnm => ?_
  subst e1; subst e2
  show wq X 2 0 [(0, .ref l0), (1, .ref l1)] [] M
  exact w_X3_personLine C FN.2.2.2 hl l0 l1 M h FN
/-! X3_emit -/
set_option maxRecDepth 100000 in
set_option maxHeartbeats 4000000 in
theorem w_X3_emit {X : CX} {y : Mem} (C : CK X cX3_emit 2 RX3 7 140) (hRO : RO X.2.2.1 X.1.2.2.2.2.1 X.1.2.2.2.2.1.heap) (hl : X.1.2.1.stackTraces = false) (l0 : Nat) (l1 : Int32) (M : Mem) (h : F_X3_emit l0 l1 M = some y) (kf : FIN X none (rs_mV y) (ms_mV y)) : wq X 2 0 [(0, .ref l0), (1, .int l1)] [] M := by
  unfold F_X3_emit at h
  refine q_aload_n 0 C dX3_emit_0 rfl ?_
  obtain ⟨v1, e2, h⟩ := bindE h
  refine q_getI C fl_RX3_44 rfl e2 dX3_emit_1 ?_
  refine q_aload_n 0 C dX3_emit_4 rfl ?_
  obtain ⟨v3, e4, h⟩ := bindE h
  refine q_getP C fl_RX3_40 rfl e4 dX3_emit_5 ?_
  obtain ⟨v5, e6, h⟩ := bindE h
  refine q_alen 0 100 C rfl (by decide) (by decide) e6 dX3_emit_8 ?_
  refine q_icmp_ge (tgt := 32) C dX3_emit_9 (by decide) (fun c7 => ?_) (fun c7 => ?_)
  · have h := ifT c7 h
    cases h
    exact q_vret C kf dX3_emit_32
  · have h := ifF c7 h
    refine q_aload_n 0 C dX3_emit_12 rfl ?_
    obtain ⟨v8, e9, h⟩ := bindE h
    refine q_getP C fl_RX3_40 rfl e9 dX3_emit_13 ?_
    refine q_aload_n 0 C dX3_emit_16 rfl ?_
    obtain ⟨v10, e11, h⟩ := bindE h
    refine q_getI C fl_RX3_44 rfl e11 dX3_emit_17 ?_
    refine q_iload_n 1 C dX3_emit_20 rfl ?_
    obtain ⟨M12, e13, h⟩ := bindE h
    refine q_iastore C e13 dX3_emit_21 ?_
    refine q_aload_n 0 C dX3_emit_22 rfl ?_
    refine q_dup C dX3_emit_23 rfl ?_
    obtain ⟨v14, e15, h⟩ := bindE h
    refine q_getI C fl_RX3_44 rfl e15 dX3_emit_24 ?_
    refine q_iconst (v := (1 : Int32)) C dX3_emit_27 (by decide) ?_
    refine q_iadd C dX3_emit_28 ?_
    obtain ⟨M16, e17, h⟩ := bindE h
    refine q_putI C fp_RX3_44 rfl e17 dX3_emit_29 ?_
    cases h
    exact q_vret C kf dX3_emit_32
theorem k_X3_emit (l : Launch) (hl : l.stackTraces = false) (G : GG) (l0 : Nat) (l1 : Int32) (M : Mem) (x : Mem) (h : F_X3_emit l0 l1 M = some x) : Ct l G yX3_emit (.code yX3_emit cX3_emit 2 none) 7 140 [.ref l0, .int l1] M (rs_mV x) (ms_mV x) := by
  refine Ct_of (by decide +kernel) (Nat.le_of_ble_eq_true rfl) fun X e1 e2 e3 C FN hnm => ?_
  subst e1; subst e2
  show wq X 2 0 [(0, .ref l0), (1, .int l1)] [] M
  exact w_X3_emit C FN.2.2.2 hl l0 l1 M h FN
/-! X3_isSign -/
set_option maxRecDepth 100000 in
set_option maxHeartbeats 4000000 in
theorem w_X3_isSign {X : CX} {y : Int32} (C : CK X cX3_isSign 2 RX3 7 140) (hRO : RO X.2.2.1 X.1.2.2.2.2.1 X.1.2.2.2.2.1.heap) (hl : X.1.2.1.stackTraces = false) (l0 : Nat) (l1 : Int32) (M : Mem) (h : F_X3_isSign l0 l1 M = some y) (kf : FIN X (some .boolean) (rs_pI y) M) : wq X 2 0 [(0, .ref l0), (1, .int l1)] [] M := by
  unfold F_X3_isSign at h
  refine q_aload_n 0 C dX3_isSign_0 rfl ?_
  obtain ⟨v1, e2, h⟩ := bindE h
  refine q_getI C fl_RX3_28 rfl e2 dX3_isSign_1 ?_
  refine q_iconst (v := (4 : Int32)) C dX3_isSign_4 (by decide) ?_
  refine q_icmp_ne (tgt := 25) C dX3_isSign_5 (by decide) (fun c3 => ?_) (fun c3 => ?_)
  · have h := ifF c3 h
    refine q_iconst (v := (0 : Int32)) C dX3_isSign_25 (by decide) ?_
    cases h
    exact q_zretE (w := (0 : Int32)) (by decide) C kf dX3_isSign_26
  · have h := ifT c3 h
    refine q_aload_n 0 C dX3_isSign_8 rfl ?_
    obtain ⟨v4, e5, h⟩ := bindE h
    refine q_getP C fl_RX3_9 rfl e5 dX3_isSign_9 ?_
    refine q_aload_n 0 C dX3_isSign_12 rfl ?_
    obtain ⟨v6, e7, h⟩ := bindE h
    refine q_getI C fl_RX3_31 rfl e7 dX3_isSign_13 ?_
    obtain ⟨v8, e9, h⟩ := bindE h
    refine q_baload C e9 dX3_isSign_16 ?_
    refine q_iload_n 1 C dX3_isSign_17 rfl ?_
    refine q_icmp_ne (tgt := 25) C dX3_isSign_18 (by decide) (fun c10 => ?_) (fun c10 => ?_)
    · have h := ifF c10 h
      refine q_iconst (v := (0 : Int32)) C dX3_isSign_25 (by decide) ?_
      cases h
      exact q_zretE (w := (0 : Int32)) (by decide) C kf dX3_isSign_26
    · have h := ifT c10 h
      refine q_iconst (v := (1 : Int32)) C dX3_isSign_21 (by decide) ?_
      refine q_goto (tgt := 26) C dX3_isSign_22 (by decide) ?_
      cases h
      exact q_zretE (w := (1 : Int32)) (by decide) C kf dX3_isSign_26
theorem k_X3_isSign (l : Launch) (hl : l.stackTraces = false) (G : GG) (l0 : Nat) (l1 : Int32) (M : Mem) (x : Int32) (h : F_X3_isSign l0 l1 M = some x) : Ct l G yX3_isSign (.code yX3_isSign cX3_isSign 2 (some .boolean)) 7 140 [.ref l0, .int l1] M (rs_pI x) M := by
  refine Ct_of (by decide +kernel) (Nat.le_of_ble_eq_true rfl) fun X e1 e2 e3 C FN hnm => ?_
  subst e1; subst e2
  show wq X 2 0 [(0, .ref l0), (1, .int l1)] [] M
  exact w_X3_isSign C FN.2.2.2 hl l0 l1 M h FN
/-! X3_joinAt -/
set_option maxRecDepth 100000 in
set_option maxHeartbeats 4000000 in
theorem w_X3_joinAt {X : CX} {y : Int32} (C : CK X cX3_joinAt 2 RX3 14 313) (hRO : RO X.2.2.1 X.1.2.2.2.2.1 X.1.2.2.2.2.1.heap) (hl : X.1.2.1.stackTraces = false) (l0 : Nat) (l1 : Int32) (M : Mem) (h : F_X3_joinAt l0 l1 M = some y) (kf : FIN X (some .int) (rs_pI y) M) : wq X 2 0 [(0, .ref l0), (1, .int l1)] [] M := by
  unfold F_X3_joinAt at h
  refine q_iload_n 1 C dX3_joinAt_0 rfl ?_
  by_cases c1 : l1 = (0 : Int32)
  · have h := ifT c1 h
    refine q_tableIn (off := 31) (tgt := 32) C dX3_joinAt_1 (by rw [c1]; decide) (by rw [c1]; decide) (by rw [c1]; rfl) (by decide) ?_
    refine q_aload_n 0 C dX3_joinAt_32 rfl ?_
    refine q_ldcS (i := 13) C hRO rfl dX3_joinAt_33 ?_
    obtain ⟨e2, h⟩ := ckOE h
    obtain ⟨v4, e3, h⟩ := bindE h
    refine q_callV (v := some (.int v4)) [.retAddr 13] C hRO lk_RX3_96 vk_X3_isWord e2 rfl rfl rfl (Nat.le_of_ble_eq_true rfl) (by decide) (by decide) dX3_joinAt_35 (k_X3_isWord X.1.2.1 hl X.2.2.1 l0 13 M _ e3) ?_
    refine q_if_eq (tgt := 46) C dX3_joinAt_38 (by decide) (fun c5 => ?_) (fun c5 => ?_)
    · have h := ifT c5 h
      refine q_iconst (v := (0 : Int32)) C dX3_joinAt_46 (by decide) ?_
      cases h
      exact q_iret C kf dX3_joinAt_47
    · have h := ifF c5 h
      refine q_bipush (v := (-10 : Int32)) C dX3_joinAt_41 (by decide) ?_
      refine q_goto (tgt := 47) C dX3_joinAt_43 (by decide) ?_
      cases h
      exact q_iret C kf dX3_joinAt_47
  have h := ifF c1 h
  by_cases c6 : l1 = (1 : Int32)
  · have h := ifT c6 h
    refine q_tableIn (off := 47) (tgt := 48) C dX3_joinAt_1 (by rw [c6]; decide) (by rw [c6]; decide) (by rw [c6]; rfl) (by decide) ?_
    refine q_aload_n 0 C dX3_joinAt_48 rfl ?_
    refine q_ldcS (i := 14) C hRO rfl dX3_joinAt_49 ?_
    obtain ⟨e7, h⟩ := ckOE h
    obtain ⟨v9, e8, h⟩ := bindE h
    refine q_callV (v := some (.int v9)) [.retAddr 14] C hRO lk_RX3_96 vk_X3_isWord e7 rfl rfl rfl (Nat.le_of_ble_eq_true rfl) (by decide) (by decide) dX3_joinAt_51 (k_X3_isWord X.1.2.1 hl X.2.2.1 l0 14 M _ e8) ?_
    refine q_if_eq (tgt := 62) C dX3_joinAt_54 (by decide) (fun c10 => ?_) (fun c10 => ?_)
    · have h := ifT c10 h
      refine q_iconst (v := (0 : Int32)) C dX3_joinAt_62 (by decide) ?_
      cases h
      exact q_iret C kf dX3_joinAt_63
    · have h := ifF c10 h
      refine q_bipush (v := (-9 : Int32)) C dX3_joinAt_57 (by decide) ?_
      refine q_goto (tgt := 63) C dX3_joinAt_59 (by decide) ?_
      cases h
      exact q_iret C kf dX3_joinAt_63
  have h := ifF c6 h
  by_cases c11 : l1 = (2 : Int32)
  · have h := ifT c11 h
    refine q_tableIn (off := 63) (tgt := 64) C dX3_joinAt_1 (by rw [c11]; decide) (by rw [c11]; decide) (by rw [c11]; rfl) (by decide) ?_
    refine q_aload_n 0 C dX3_joinAt_64 rfl ?_
    refine q_bipush (v := (60 : Int32)) C dX3_joinAt_65 (by decide) ?_
    obtain ⟨e12, h⟩ := ckOE h
    obtain ⟨v14, e13, h⟩ := bindE h
    refine q_callV (v := some (.int v14)) [.int (60 : Int32)] C hRO lk_RX3_86 vk_X3_isSign e12 rfl rfl rfl (Nat.le_of_ble_eq_true rfl) (by decide) (by decide) dX3_joinAt_67 (k_X3_isSign X.1.2.1 hl X.2.2.1 l0 (60 : Int32) M _ e13) ?_
    refine q_if_eq (tgt := 78) C dX3_joinAt_70 (by decide) (fun c15 => ?_) (fun c15 => ?_)
    · have h := ifT c15 h
      refine q_aload_n 0 C dX3_joinAt_78 rfl ?_
      refine q_bipush (v := (61 : Int32)) C dX3_joinAt_79 (by decide) ?_
      obtain ⟨e16, h⟩ := ckOE h
      obtain ⟨v18, e17, h⟩ := bindE h
      refine q_callV (v := some (.int v18)) [.int (61 : Int32)] C hRO lk_RX3_86 vk_X3_isSign e16 rfl rfl rfl (Nat.le_of_ble_eq_true rfl) (by decide) (by decide) dX3_joinAt_81 (k_X3_isSign X.1.2.1 hl X.2.2.1 l0 (61 : Int32) M _ e17) ?_
      refine q_if_eq (tgt := 92) C dX3_joinAt_84 (by decide) (fun c19 => ?_) (fun c19 => ?_)
      · have h := ifT c19 h
        refine q_iconst (v := (0 : Int32)) C dX3_joinAt_92 (by decide) ?_
        cases h
        exact q_iret C kf dX3_joinAt_93
      · have h := ifF c19 h
        refine q_bipush (v := (-16 : Int32)) C dX3_joinAt_87 (by decide) ?_
        refine q_goto (tgt := 93) C dX3_joinAt_89 (by decide) ?_
        cases h
        exact q_iret C kf dX3_joinAt_93
    · have h := ifF c15 h
      refine q_bipush (v := (-15 : Int32)) C dX3_joinAt_73 (by decide) ?_
      refine q_goto (tgt := 93) C dX3_joinAt_75 (by decide) ?_
      cases h
      exact q_iret C kf dX3_joinAt_93
  have h := ifF c11 h
  by_cases c20 : l1 = (3 : Int32)
  · have h := ifT c20 h
    refine q_tableIn (off := 93) (tgt := 94) C dX3_joinAt_1 (by rw [c20]; decide) (by rw [c20]; decide) (by rw [c20]; rfl) (by decide) ?_
    refine q_aload_n 0 C dX3_joinAt_94 rfl ?_
    refine q_bipush (v := (43 : Int32)) C dX3_joinAt_95 (by decide) ?_
    obtain ⟨e21, h⟩ := ckOE h
    obtain ⟨v23, e22, h⟩ := bindE h
    refine q_callV (v := some (.int v23)) [.int (43 : Int32)] C hRO lk_RX3_86 vk_X3_isSign e21 rfl rfl rfl (Nat.le_of_ble_eq_true rfl) (by decide) (by decide) dX3_joinAt_97 (k_X3_isSign X.1.2.1 hl X.2.2.1 l0 (43 : Int32) M _ e22) ?_
    refine q_if_eq (tgt := 108) C dX3_joinAt_100 (by decide) (fun c24 => ?_) (fun c24 => ?_)
    · have h := ifT c24 h
      refine q_aload_n 0 C dX3_joinAt_108 rfl ?_
      refine q_bipush (v := (45 : Int32)) C dX3_joinAt_109 (by decide) ?_
      obtain ⟨e25, h⟩ := ckOE h
      obtain ⟨v27, e26, h⟩ := bindE h
      refine q_callV (v := some (.int v27)) [.int (45 : Int32)] C hRO lk_RX3_86 vk_X3_isSign e25 rfl rfl rfl (Nat.le_of_ble_eq_true rfl) (by decide) (by decide) dX3_joinAt_111 (k_X3_isSign X.1.2.1 hl X.2.2.1 l0 (45 : Int32) M _ e26) ?_
      refine q_if_eq (tgt := 122) C dX3_joinAt_114 (by decide) (fun c28 => ?_) (fun c28 => ?_)
      · have h := ifT c28 h
        refine q_iconst (v := (0 : Int32)) C dX3_joinAt_122 (by decide) ?_
        cases h
        exact q_iret C kf dX3_joinAt_123
      · have h := ifF c28 h
        refine q_bipush (v := (-12 : Int32)) C dX3_joinAt_117 (by decide) ?_
        refine q_goto (tgt := 123) C dX3_joinAt_119 (by decide) ?_
        cases h
        exact q_iret C kf dX3_joinAt_123
    · have h := ifF c24 h
      refine q_bipush (v := (-11 : Int32)) C dX3_joinAt_103 (by decide) ?_
      refine q_goto (tgt := 123) C dX3_joinAt_105 (by decide) ?_
      cases h
      exact q_iret C kf dX3_joinAt_123
  have h := ifF c20 h
  refine q_tableOut (tgt := 124) C dX3_joinAt_1 (by have z0 := neI c1; have z1 := neI c6; have z2 := neI c11; have z3 := neI c20; simp only [Int32.reduceToInt] at *; omega) (by decide) ?_
  refine q_aload_n 0 C dX3_joinAt_124 rfl ?_
  refine q_bipush (v := (42 : Int32)) C dX3_joinAt_125 (by decide) ?_
  obtain ⟨e29, h⟩ := ckOE h
  obtain ⟨v31, e30, h⟩ := bindE h
  refine q_callV (v := some (.int v31)) [.int (42 : Int32)] C hRO lk_RX3_86 vk_X3_isSign e29 rfl rfl rfl (Nat.le_of_ble_eq_true rfl) (by decide) (by decide) dX3_joinAt_127 (k_X3_isSign X.1.2.1 hl X.2.2.1 l0 (42 : Int32) M _ e30) ?_
  refine q_if_eq (tgt := 138) C dX3_joinAt_130 (by decide) (fun c32 => ?_) (fun c32 => ?_)
  · have h := ifT c32 h
    refine q_aload_n 0 C dX3_joinAt_138 rfl ?_
    refine q_bipush (v := (47 : Int32)) C dX3_joinAt_139 (by decide) ?_
    obtain ⟨e33, h⟩ := ckOE h
    obtain ⟨v35, e34, h⟩ := bindE h
    refine q_callV (v := some (.int v35)) [.int (47 : Int32)] C hRO lk_RX3_86 vk_X3_isSign e33 rfl rfl rfl (Nat.le_of_ble_eq_true rfl) (by decide) (by decide) dX3_joinAt_141 (k_X3_isSign X.1.2.1 hl X.2.2.1 l0 (47 : Int32) M _ e34) ?_
    refine q_if_eq (tgt := 152) C dX3_joinAt_144 (by decide) (fun c36 => ?_) (fun c36 => ?_)
    · have h := ifT c36 h
      refine q_iconst (v := (0 : Int32)) C dX3_joinAt_152 (by decide) ?_
      cases h
      exact q_iret C kf dX3_joinAt_153
    · have h := ifF c36 h
      refine q_bipush (v := (-14 : Int32)) C dX3_joinAt_147 (by decide) ?_
      refine q_goto (tgt := 153) C dX3_joinAt_149 (by decide) ?_
      cases h
      exact q_iret C kf dX3_joinAt_153
  · have h := ifF c32 h
    refine q_bipush (v := (-13 : Int32)) C dX3_joinAt_133 (by decide) ?_
    refine q_goto (tgt := 153) C dX3_joinAt_135 (by decide) ?_
    cases h
    exact q_iret C kf dX3_joinAt_153
theorem k_X3_joinAt (l : Launch) (hl : l.stackTraces = false) (G : GG) (l0 : Nat) (l1 : Int32) (M : Mem) (x : Int32) (h : F_X3_joinAt l0 l1 M = some x) : Ct l G yX3_joinAt (.code yX3_joinAt cX3_joinAt 2 (some .int)) 14 313 [.ref l0, .int l1] M (rs_pI x) M := by
  refine Ct_of (by decide +kernel) (Nat.le_of_ble_eq_true rfl) fun X e1 e2 e3 C FN hnm => ?_
  subst e1; subst e2
  show wq X 2 0 [(0, .ref l0), (1, .int l1)] [] M
  exact w_X3_joinAt C FN.2.2.2 hl l0 l1 M h FN
/-! X3_takeNots -/
set_option maxRecDepth 100000 in
set_option maxHeartbeats 4000000 in
theorem w_X3_takeNots_s2 {X : CX} {y : (Int32 × Mem) ⊕ (Int32 × Mem)} (C : CK X cX3_takeNots 2 RX3 14 313) (hRO : RO X.2.2.1 X.1.2.2.2.2.1 X.1.2.2.2.2.1.heap) (hl : X.1.2.1.stackTraces = false) (l0 : Nat) (l1 : Int32) (M : Mem) (h : F_X3_takeNots_s2 l0 l1 M = some y) (kc : ∀ s' : Int32 × Mem, y = .inl s' → wq X 2 2 [(0, .ref l0), (1, .int (s'.1))] [] s'.2) (kx : ∀ e' : Int32 × Mem, y = (.inr e') → wq X 2 27 [(0, .ref l0), (1, .int (e'.1))] [] e'.2) : wq X 2 2 [(0, .ref l0), (1, .int l1)] [] M := by
  unfold F_X3_takeNots_s2 at h
  refine q_iload_n 1 C dX3_takeNots_2 rfl ?_
  refine q_bipush (v := (6 : Int32)) C dX3_takeNots_3 (by decide) ?_
  refine q_icmp_ge (tgt := 27) C dX3_takeNots_5 (by decide) (fun c1 => ?_) (fun c1 => ?_)
  · have h := ifT c1 h
    exact q_sub (lv' := [(0, .ref l0), (1, .int l1)]) [0, 1] rfl (kx (l1, M) (someI h))
  · have h := ifF c1 h
    refine q_aload_n 0 C dX3_takeNots_8 rfl ?_
    refine q_ldcS (i := 12) C hRO rfl dX3_takeNots_9 ?_
    obtain ⟨e2, h⟩ := ckOE h
    obtain ⟨v4, e3, h⟩ := bindE h
    refine q_callV (v := some (.int v4)) [.retAddr 12] C hRO lk_RX3_96 vk_X3_isWord e2 rfl rfl rfl (Nat.le_of_ble_eq_true rfl) (by decide) (by decide) dX3_takeNots_11 (k_X3_isWord X.1.2.1 hl X.2.2.1 l0 12 M _ e3) ?_
    refine q_if_eq (tgt := 27) C dX3_takeNots_14 (by decide) (fun c5 => ?_) (fun c5 => ?_)
    · have h := ifT c5 h
      exact q_sub (lv' := [(0, .ref l0), (1, .int l1)]) [0, 1] rfl (kx (l1, M) (someI h))
    · have h := ifF c5 h
      refine q_iinc 1 (v := (l1 + (1 : Int32))) (lv' := [(1, .int (l1 + (1 : Int32))), (0, .ref l0)]) C dX3_takeNots_17 rfl rfl (by decide) rfl ?_
      refine q_aload_n 1 C dX3_takeNots_20 rfl ?_
      obtain ⟨e6, h⟩ := ckOE h
      obtain ⟨M8, e7, h⟩ := bindE h
      refine q_callV (v := none) [] C hRO lk_RX3_62 vk_X3_advance e6 rfl rfl rfl (Nat.le_of_ble_eq_true rfl) (by decide) (by decide) dX3_takeNots_21 (k_X3_advance X.1.2.1 hl X.2.2.1 l0 M _ e7) ?_
      refine q_goto (tgt := 2) C dX3_takeNots_24 (by decide) ?_
      exact q_sub (lv' := [(0, .ref l0), (1, .int (l1 + (1 : Int32)))]) [1, 0] rfl (kc ((l1 + (1 : Int32)), M8) (someI h))
theorem w_X3_takeNots_l2 {X : CX} {r : Int32 × Mem} (C : CK X cX3_takeNots 2 RX3 14 313) (hRO : RO X.2.2.1 X.1.2.2.2.2.1 X.1.2.2.2.2.1.heap) (hl : X.1.2.1.stackTraces = false) (l0 : Nat) (l1 : Int32) (M : Mem) (h : loop (fun s => F_X3_takeNots_s2 l0 s.1 s.2) (l1, M) = some r) (kx : ∀ e' : Int32 × Mem, r = e' → wq X 2 27 [(0, .ref l0), (1, .int (e'.1))] [] e'.2) : wq X 2 2 [(0, .ref l0), (1, .int l1)] [] M :=
  loop_ind (P := fun s => wq X 2 2 [(0, .ref l0), (1, .int s.1)] [] s.2) h (fun s y hy kc kr => w_X3_takeNots_s2 C hRO hl l0 s.1 s.2 hy kc (fun e' he => kx e' (kr _ he).symm))
set_option maxRecDepth 100000 in
set_option maxHeartbeats 4000000 in
theorem w_X3_takeNots_j27 {X : CX} {y : Int32 × Mem} (C : CK X cX3_takeNots 2 RX3 14 313) (hRO : RO X.2.2.1 X.1.2.2.2.2.1 X.1.2.2.2.2.1.heap) (hl : X.1.2.1.stackTraces = false) (l0 : Nat) (l1 : Int32) (M : Mem) (h : F_X3_takeNots_j27 l0 l1 M = some y) (kf : FIN X (some .int) (rs_mI y) (ms_mI y)) : wq X 2 27 [(0, .ref l0), (1, .int l1)] [] M := by
  unfold F_X3_takeNots_j27 at h
  refine q_iload_n 1 C dX3_takeNots_27 rfl ?_
  refine q_bipush (v := (6 : Int32)) C dX3_takeNots_28 (by decide) ?_
  refine q_icmp_ne (tgt := 47) C dX3_takeNots_30 (by decide) (fun c14 => ?_) (fun c14 => ?_)
  · have h := ifF c14 h
    refine q_iload_n 1 C dX3_takeNots_47 rfl ?_
    cases h
    exact q_iret C kf dX3_takeNots_48
  · have h := ifT c14 h
    refine q_aload_n 0 C dX3_takeNots_33 rfl ?_
    refine q_ldcS (i := 12) C hRO rfl dX3_takeNots_34 ?_
    obtain ⟨e15, h⟩ := ckOE h
    obtain ⟨v17, e16, h⟩ := bindE h
    refine q_callV (v := some (.int v17)) [.retAddr 12] C hRO lk_RX3_96 vk_X3_isWord e15 rfl rfl rfl (Nat.le_of_ble_eq_true rfl) (by decide) (by decide) dX3_takeNots_36 (k_X3_isWord X.1.2.1 hl X.2.2.1 l0 12 M _ e16) ?_
    refine q_if_eq (tgt := 47) C dX3_takeNots_39 (by decide) (fun c18 => ?_) (fun c18 => ?_)
    · have h := ifT c18 h
      refine q_iload_n 1 C dX3_takeNots_47 rfl ?_
      cases h
      exact q_iret C kf dX3_takeNots_48
    · have h := ifF c18 h
      refine q_aload_n 0 C dX3_takeNots_42 rfl ?_
      refine q_iconst (v := (2 : Int32)) C dX3_takeNots_43 (by decide) ?_
      obtain ⟨e19, h⟩ := ckOE h
      obtain ⟨M21, e20, h⟩ := bindE h
      refine q_callV (v := none) [.int (2 : Int32)] C hRO lk_RX3_90 vk_X3_fail e19 rfl rfl rfl (Nat.le_of_ble_eq_true rfl) (by decide) (by decide) dX3_takeNots_44 (k_X3_fail X.1.2.1 hl X.2.2.1 l0 (2 : Int32) M _ e20) ?_
      refine q_iload_n 1 C dX3_takeNots_47 rfl ?_
      cases h
      exact q_iret C kf dX3_takeNots_48
set_option maxRecDepth 100000 in
set_option maxHeartbeats 4000000 in
theorem w_X3_takeNots {X : CX} {y : Int32 × Mem} (C : CK X cX3_takeNots 2 RX3 14 313) (hRO : RO X.2.2.1 X.1.2.2.2.2.1 X.1.2.2.2.2.1.heap) (hl : X.1.2.1.stackTraces = false) (l0 : Nat) (M : Mem) (h : F_X3_takeNots l0 M = some y) (kf : FIN X (some .int) (rs_mI y) (ms_mI y)) : wq X 2 0 [(0, .ref l0)] [] M := by
  unfold F_X3_takeNots at h
  refine q_iconst (v := (0 : Int32)) C dX3_takeNots_0 (by decide) ?_
  refine q_istore_n (i := 1) (lv' := [(1, .int (0 : Int32)), (0, .ref l0)]) C dX3_takeNots_1 rfl (by decide) rfl ?_
  obtain ⟨⟨x12, M13⟩, e11, h⟩ := bindE h
  refine q_sub (lv' := [(0, .ref l0), (1, .int (0 : Int32))]) [1, 0] rfl (w_X3_takeNots_l2 C hRO hl l0 (0 : Int32) M e11 (fun r10 he => ?_))
  subst he
  have h := u2E h
  show wq X 2 27 [(0, .ref l0), (1, .int x12)] [] M13
  exact q_sub (lv' := [(0, .ref l0), (1, .int x12)]) [0, 1] rfl (w_X3_takeNots_j27 C hRO hl l0 x12 M13 h kf)
theorem k_X3_takeNots (l : Launch) (hl : l.stackTraces = false) (G : GG) (l0 : Nat) (M : Mem) (x : Int32 × Mem) (h : F_X3_takeNots l0 M = some x) : Ct l G yX3_takeNots (.code yX3_takeNots cX3_takeNots 2 (some .int)) 14 313 [.ref l0] M (rs_mI x) (ms_mI x) := by
  refine Ct_of (by decide +kernel) (Nat.le_of_ble_eq_true rfl) fun X e1 e2 e3 C FN hnm => ?_
  subst e1; subst e2
  show wq X 2 0 [(0, .ref l0)] [] M
  exact w_X3_takeNots C FN.2.2.2 hl l0 M h FN
/-! X3_factHere -/
set_option maxRecDepth 100000 in
set_option maxHeartbeats 4000000 in
theorem w_X3_factHere {X : CX} {y : Int32} (C : CK X cX3_factHere 1 RX3 14 313) (hRO : RO X.2.2.1 X.1.2.2.2.2.1 X.1.2.2.2.2.1.heap) (hl : X.1.2.1.stackTraces = false) (l0 : Nat) (M : Mem) (h : F_X3_factHere l0 M = some y) (kf : FIN X (some .int) (rs_pI y) M) : wq X 1 0 [(0, .ref l0)] [] M := by
  unfold F_X3_factHere at h
  refine q_aload_n 0 C dX3_factHere_0 rfl ?_
  refine q_ldcS (i := 6) C hRO rfl dX3_factHere_1 ?_
  obtain ⟨e1, h⟩ := ckOE h
  obtain ⟨v3, e2, h⟩ := bindE h
  refine q_callV (v := some (.int v3)) [.retAddr 6] C hRO lk_RX3_96 vk_X3_isWord e1 rfl rfl rfl (Nat.le_of_ble_eq_true rfl) (by decide) (by decide) dX3_factHere_3 (k_X3_isWord X.1.2.1 hl X.2.2.1 l0 6 M _ e2) ?_
  refine q_if_eq (tgt := 11) C dX3_factHere_6 (by decide) (fun c4 => ?_) (fun c4 => ?_)
  · have h := ifT c4 h
    refine q_aload_n 0 C dX3_factHere_11 rfl ?_
    refine q_ldcS (i := 7) C hRO rfl dX3_factHere_12 ?_
    obtain ⟨e5, h⟩ := ckOE h
    obtain ⟨v7, e6, h⟩ := bindE h
    refine q_callV (v := some (.int v7)) [.retAddr 7] C hRO lk_RX3_96 vk_X3_isWord e5 rfl rfl rfl (Nat.le_of_ble_eq_true rfl) (by decide) (by decide) dX3_factHere_14 (k_X3_isWord X.1.2.1 hl X.2.2.1 l0 7 M _ e6) ?_
    refine q_if_eq (tgt := 22) C dX3_factHere_17 (by decide) (fun c8 => ?_) (fun c8 => ?_)
    · have h := ifT c8 h
      refine q_aload_n 0 C dX3_factHere_22 rfl ?_
      refine q_ldcS (i := 8) C hRO rfl dX3_factHere_23 ?_
      obtain ⟨e9, h⟩ := ckOE h
      obtain ⟨v11, e10, h⟩ := bindE h
      refine q_callV (v := some (.int v11)) [.retAddr 8] C hRO lk_RX3_96 vk_X3_isWord e9 rfl rfl rfl (Nat.le_of_ble_eq_true rfl) (by decide) (by decide) dX3_factHere_25 (k_X3_isWord X.1.2.1 hl X.2.2.1 l0 8 M _ e10) ?_
      refine q_if_eq (tgt := 33) C dX3_factHere_28 (by decide) (fun c12 => ?_) (fun c12 => ?_)
      · have h := ifT c12 h
        refine q_aload_n 0 C dX3_factHere_33 rfl ?_
        refine q_ldcS (i := 9) C hRO rfl dX3_factHere_34 ?_
        obtain ⟨e13, h⟩ := ckOE h
        obtain ⟨v15, e14, h⟩ := bindE h
        refine q_callV (v := some (.int v15)) [.retAddr 9] C hRO lk_RX3_96 vk_X3_isWord e13 rfl rfl rfl (Nat.le_of_ble_eq_true rfl) (by decide) (by decide) dX3_factHere_36 (k_X3_isWord X.1.2.1 hl X.2.2.1 l0 9 M _ e14) ?_
        refine q_if_eq (tgt := 44) C dX3_factHere_39 (by decide) (fun c16 => ?_) (fun c16 => ?_)
        · have h := ifT c16 h
          refine q_aload_n 0 C dX3_factHere_44 rfl ?_
          refine q_ldcS (i := 4) C hRO rfl dX3_factHere_45 ?_
          obtain ⟨e17, h⟩ := ckOE h
          obtain ⟨v19, e18, h⟩ := bindE h
          refine q_callV (v := some (.int v19)) [.retAddr 4] C hRO lk_RX3_96 vk_X3_isWord e17 rfl rfl rfl (Nat.le_of_ble_eq_true rfl) (by decide) (by decide) dX3_factHere_47 (k_X3_isWord X.1.2.1 hl X.2.2.1 l0 4 M _ e18) ?_
          refine q_if_eq (tgt := 55) C dX3_factHere_50 (by decide) (fun c20 => ?_) (fun c20 => ?_)
          · have h := ifT c20 h
            refine q_aload_n 0 C dX3_factHere_55 rfl ?_
            refine q_ldcS (i := 10) C hRO rfl dX3_factHere_56 ?_
            obtain ⟨e21, h⟩ := ckOE h
            obtain ⟨v23, e22, h⟩ := bindE h
            refine q_callV (v := some (.int v23)) [.retAddr 10] C hRO lk_RX3_96 vk_X3_isWord e21 rfl rfl rfl (Nat.le_of_ble_eq_true rfl) (by decide) (by decide) dX3_factHere_58 (k_X3_isWord X.1.2.1 hl X.2.2.1 l0 10 M _ e22) ?_
            refine q_if_eq (tgt := 66) C dX3_factHere_61 (by decide) (fun c24 => ?_) (fun c24 => ?_)
            · have h := ifT c24 h
              refine q_aload_n 0 C dX3_factHere_66 rfl ?_
              obtain ⟨v25, e26, h⟩ := bindE h
              refine q_getI C fl_RX3_47 rfl e26 dX3_factHere_67 ?_
              refine q_if_eq (tgt := 87) C dX3_factHere_70 (by decide) (fun c27 => ?_) (fun c27 => ?_)
              · have h := ifT c27 h
                refine q_iconst (v := (-1 : Int32)) C dX3_factHere_87 (by decide) ?_
                cases h
                exact q_iret C kf dX3_factHere_88
              · have h := ifF c27 h
                refine q_aload_n 0 C dX3_factHere_73 rfl ?_
                refine q_ldcS (i := 11) C hRO rfl dX3_factHere_74 ?_
                obtain ⟨e28, h⟩ := ckOE h
                obtain ⟨v30, e29, h⟩ := bindE h
                refine q_callV (v := some (.int v30)) [.retAddr 11] C hRO lk_RX3_96 vk_X3_isWord e28 rfl rfl rfl (Nat.le_of_ble_eq_true rfl) (by decide) (by decide) dX3_factHere_76 (k_X3_isWord X.1.2.1 hl X.2.2.1 l0 11 M _ e29) ?_
                refine q_if_eq (tgt := 87) C dX3_factHere_79 (by decide) (fun c31 => ?_) (fun c31 => ?_)
                · have h := ifT c31 h
                  refine q_iconst (v := (-1 : Int32)) C dX3_factHere_87 (by decide) ?_
                  cases h
                  exact q_iret C kf dX3_factHere_88
                · have h := ifF c31 h
                  refine q_bipush (v := (6 : Int32)) C dX3_factHere_82 (by decide) ?_
                  refine q_goto (tgt := 88) C dX3_factHere_84 (by decide) ?_
                  cases h
                  exact q_iret C kf dX3_factHere_88
            · have h := ifF c24 h
              refine q_iconst (v := (5 : Int32)) C dX3_factHere_64 (by decide) ?_
              cases h
              exact q_iret C kf dX3_factHere_65
          · have h := ifF c20 h
            refine q_iconst (v := (4 : Int32)) C dX3_factHere_53 (by decide) ?_
            cases h
            exact q_iret C kf dX3_factHere_54
        · have h := ifF c16 h
          refine q_iconst (v := (3 : Int32)) C dX3_factHere_42 (by decide) ?_
          cases h
          exact q_iret C kf dX3_factHere_43
      · have h := ifF c12 h
        refine q_iconst (v := (2 : Int32)) C dX3_factHere_31 (by decide) ?_
        cases h
        exact q_iret C kf dX3_factHere_32
    · have h := ifF c8 h
      refine q_iconst (v := (1 : Int32)) C dX3_factHere_20 (by decide) ?_
      cases h
      exact q_iret C kf dX3_factHere_21
  · have h := ifF c4 h
    refine q_iconst (v := (0 : Int32)) C dX3_factHere_9 (by decide) ?_
    cases h
    exact q_iret C kf dX3_factHere_10
theorem k_X3_factHere (l : Launch) (hl : l.stackTraces = false) (G : GG) (l0 : Nat) (M : Mem) (x : Int32) (h : F_X3_factHere l0 M = some x) : Ct l G yX3_factHere (.code yX3_factHere cX3_factHere 1 (some .int)) 14 313 [.ref l0] M (rs_pI x) M := by
  refine Ct_of (by decide +kernel) (Nat.le_of_ble_eq_true rfl) fun X e1 e2 e3 C FN hnm => ?_
  subst e1; subst e2
  show wq X 1 0 [(0, .ref l0)] [] M
  exact w_X3_factHere C FN.2.2.2 hl l0 M h FN
def IHrec (l : Launch) (G : GG) (R : Nat → Nat → Int32 → Int32 → Mem → Option Mem) (fr lo : Nat) : Prop := (∀ (l0 : Nat) (l1 l2 : Int32) (M M' : Mem), R 0 l0 l1 l2 M = some M' → Ct l G yX3_takeJoined (.code yX3_takeJoined cX3_takeJoined 7 none) fr lo [.ref l0, .int l1, .int l2] M (.inl none) M') ∧ (∀ (l0 : Nat) (l1 : Int32) (M M' : Mem), R 1 l0 l1 0 M = some M' → Ct l G yX3_takePart (.code yX3_takePart cX3_takePart 3 none) fr lo [.ref l0, .int l1] M (.inl none) M')
/-! X3_takeJoined -/
set_option maxRecDepth 100000 in
set_option maxHeartbeats 4000000 in
theorem w_X3_takeJoined_s90 {X : CX} {fr lo fr2 lo2 : Nat} (hfr : 15 ≤ fr) (hlo : 334 ≤ lo) (hfr2 : fr2 + 1 ≤ fr) (hlo2 : lo2 + 26 ≤ lo) {y : (Int32 × Mem) ⊕ (Mem)} (C : CK X cX3_takeJoined 7 RX3 fr lo) (hRO : RO X.2.2.1 X.1.2.2.2.2.1 X.1.2.2.2.2.1.heap) (hl : X.1.2.1.stackTraces = false) {R : Nat → Nat → Int32 → Int32 → Mem → Option Mem} (ih : IHrec X.1.2.1 X.2.2.1 R fr2 lo2) (l0 : Nat) (l1 : Int32) (l2 : Int32) (l3 : Int32) (l4 : Int32) (l5 : Int32) (M : Mem) (h : F_X3_takeJoined_s90 l0 l1 l2 l4 l5 M R = some y) (kc : ∀ s' : Int32 × Mem, y = .inl s' → wq X 7 90 [(0, .ref l0), (1, .int l1), (2, .int l2), (3, .int l3), (4, .int l4), (5, .int (s'.1))] [] s'.2) (kx : ∀ e' : Mem, y = (.inr e') → wq X 7 143 [(0, .ref l0), (3, .int l3)] [] e') : wq X 7 90 [(0, .ref l0), (1, .int l1), (2, .int l2), (3, .int l3), (4, .int l4), (5, .int l5)] [] M := by
  unfold F_X3_takeJoined_s90 at h
  refine q_iload 5 C dX3_takeJoined_90 rfl ?_
  refine q_iload 4 C dX3_takeJoined_92 rfl ?_
  refine q_icmp_ge (tgt := 143) C dX3_takeJoined_94 (by decide) (fun c9 => ?_) (fun c9 => ?_)
  · have h := ifT c9 h
    exact q_sub (lv' := [(0, .ref l0), (3, .int l3)]) [0, 3] rfl (kx M (someI h))
  · have h := ifF c9 h
    refine q_aload_n 0 C dX3_takeJoined_97 rfl ?_
    obtain ⟨v10, e11, h⟩ := bindE h
    refine q_getI C fl_RX3_22 rfl e11 dX3_takeJoined_98 ?_
    refine q_if_ne (tgt := 143) C dX3_takeJoined_101 (by decide) (fun c12 => ?_) (fun c12 => ?_)
    · have h := ifF c12 h
      exact q_sub (lv' := [(0, .ref l0), (3, .int l3)]) [0, 3] rfl (kx M (someI h))
    · have h := ifT c12 h
      refine q_aload_n 0 C dX3_takeJoined_104 rfl ?_
      refine q_iload_n 2 C dX3_takeJoined_105 rfl ?_
      obtain ⟨e13, h⟩ := ckOE h
      obtain ⟨v15, e14, h⟩ := bindE h
      refine q_callV (v := some (.int v15)) [.int l2] C hRO lk_RX3_191 vk_X3_joinAt e13 rfl rfl rfl (Nat.le_of_ble_eq_true rfl) (by omega) (by omega) dX3_takeJoined_106 (k_X3_joinAt X.1.2.1 hl X.2.2.1 l0 l2 M _ e14) ?_
      refine q_istore (i := 6) (lv' := [(6, .int v15), (0, .ref l0), (1, .int l1), (2, .int l2), (3, .int l3), (4, .int l4), (5, .int l5)]) C dX3_takeJoined_109 (by decide) rfl ?_
      refine q_iload 0 C dX3_takeJoined_111 rfl ?_
      refine q_if_ne (tgt := 119) C dX3_takeJoined_113 (by decide) (fun c16 => ?_) (fun c16 => ?_)
      · have h := ifF c16 h
        refine q_aload_n 1 C dX3_takeJoined_119 rfl ?_
        obtain ⟨e17, h⟩ := ckOE h
        obtain ⟨M19, e18, h⟩ := bindE h
        refine q_callV (v := none) [] C hRO lk_RX3_62 vk_X3_advance e17 rfl rfl rfl (Nat.le_of_ble_eq_true rfl) (by omega) (by omega) dX3_takeJoined_120 (k_X3_advance X.1.2.1 hl X.2.2.1 l0 M _ e18) ?_
        refine q_aload_n 1 C dX3_takeJoined_123 rfl ?_
        refine q_iload_n 2 C dX3_takeJoined_124 rfl ?_
        refine q_iload_n 3 C dX3_takeJoined_125 rfl ?_
        refine q_iconst (v := (1 : Int32)) C dX3_takeJoined_126 (by decide) ?_
        refine q_iadd C dX3_takeJoined_127 ?_
        obtain ⟨e21, h⟩ := ckOE h
        obtain ⟨M23, e22, h⟩ := bindE h
        refine q_callV (v := none) [.int l1, .int (l2 + (1 : Int32))] C hRO lk_RX3_170 vk_X3_takeJoined e21 rfl rfl rfl (Nat.le_of_ble_eq_true rfl) (by omega) (by omega) dX3_takeJoined_128 (ih.1 _ _ _ _ _ e22) ?_
        refine q_aload_n 1 C dX3_takeJoined_131 rfl ?_
        refine q_iload 0 C dX3_takeJoined_132 rfl ?_
        obtain ⟨e25, h⟩ := ckOE h
        obtain ⟨M27, e26, h⟩ := bindE h
        refine q_callV (v := none) [.int v15] C hRO lk_RX3_194 vk_X3_emit e25 rfl rfl rfl (Nat.le_of_ble_eq_true rfl) (by omega) (by omega) dX3_takeJoined_134 (k_X3_emit X.1.2.1 hl X.2.2.1 l0 v15 M23 _ e26) ?_
        refine q_iinc 6 (v := (l5 + (1 : Int32))) (lv' := [(5, .int (l5 + (1 : Int32))), (6, .int v15), (0, .ref l0), (1, .int l1), (2, .int l2), (3, .int l3), (4, .int l4)]) C dX3_takeJoined_137 rfl rfl (by decide) rfl ?_
        refine q_goto (tgt := 90) C dX3_takeJoined_140 (by decide) ?_
        exact q_sub (lv' := [(0, .ref l0), (1, .int l1), (2, .int l2), (3, .int l3), (4, .int l4), (5, .int (l5 + (1 : Int32)))]) [2, 3, 4, 5, 6, 0] rfl (kc ((l5 + (1 : Int32)), M27) (someI h))
      · have h := ifT c16 h
        refine q_goto (tgt := 143) C dX3_takeJoined_116 (by decide) ?_
        exact q_sub (lv' := [(0, .ref l0), (3, .int l3)]) [1, 4] rfl (kx M (someI h))
theorem w_X3_takeJoined_l90 {X : CX} {fr lo fr2 lo2 : Nat} (hfr : 15 ≤ fr) (hlo : 334 ≤ lo) (hfr2 : fr2 + 1 ≤ fr) (hlo2 : lo2 + 26 ≤ lo) {r : Mem} (C : CK X cX3_takeJoined 7 RX3 fr lo) (hRO : RO X.2.2.1 X.1.2.2.2.2.1 X.1.2.2.2.2.1.heap) (hl : X.1.2.1.stackTraces = false) {R : Nat → Nat → Int32 → Int32 → Mem → Option Mem} (ih : IHrec X.1.2.1 X.2.2.1 R fr2 lo2) (l0 : Nat) (l1 : Int32) (l2 : Int32) (l3 : Int32) (l4 : Int32) (l5 : Int32) (M : Mem) (h : loop (fun s => F_X3_takeJoined_s90 l0 l1 l2 l4 s.1 s.2 R) (l5, M) = some r) (kx : ∀ e' : Mem, r = e' → wq X 7 143 [(0, .ref l0), (3, .int l3)] [] e') : wq X 7 90 [(0, .ref l0), (1, .int l1), (2, .int l2), (3, .int l3), (4, .int l4), (5, .int l5)] [] M :=
  loop_ind (P := fun s => wq X 7 90 [(0, .ref l0), (1, .int l1), (2, .int l2), (3, .int l3), (4, .int l4), (5, .int s.1)] [] s.2) h (fun s y hy kc kr => w_X3_takeJoined_s90 hfr hlo hfr2 hlo2 C hRO hl ih l0 l1 l2 l3 l4 s.1 s.2 hy kc (fun e' he => kx e' (kr _ he).symm))
set_option maxRecDepth 100000 in
set_option maxHeartbeats 4000000 in
theorem w_X3_takeJoined_s146 {X : CX} {fr lo fr2 lo2 : Nat} (hfr : 15 ≤ fr) (hlo : 334 ≤ lo) (hfr2 : fr2 + 1 ≤ fr) (hlo2 : lo2 + 26 ≤ lo) {y : (Int32 × Mem) ⊕ (Mem)} (C : CK X cX3_takeJoined 7 RX3 fr lo) (hRO : RO X.2.2.1 X.1.2.2.2.2.1 X.1.2.2.2.2.1.heap) (hl : X.1.2.1.stackTraces = false) {R : Nat → Nat → Int32 → Int32 → Mem → Option Mem} (ih : IHrec X.1.2.1 X.2.2.1 R fr2 lo2) (l0 : Nat) (l3 : Int32) (l5 : Int32) (M : Mem) (h : F_X3_takeJoined_s146 l0 l3 l5 M R = some y) (kc : ∀ s' : Int32 × Mem, y = .inl s' → wq X 7 146 [(0, .ref l0), (3, .int l3), (5, .int (s'.1))] [] s'.2) (kx : ∀ e' : Mem, y = (.inr e') → wq X 7 164 [] [] e') : wq X 7 146 [(0, .ref l0), (3, .int l3), (5, .int l5)] [] M := by
  unfold F_X3_takeJoined_s146 at h
  refine q_iload 2 C dX3_takeJoined_146 rfl ?_
  refine q_iload_n 1 C dX3_takeJoined_148 rfl ?_
  refine q_icmp_ge (tgt := 164) C dX3_takeJoined_149 (by decide) (fun c32 => ?_) (fun c32 => ?_)
  · have h := ifT c32 h
    exact q_sub (lv' := []) [] rfl (kx M (someI h))
  · have h := ifF c32 h
    refine q_aload_n 0 C dX3_takeJoined_152 rfl ?_
    refine q_bipush (v := (-8 : Int32)) C dX3_takeJoined_153 (by decide) ?_
    obtain ⟨e33, h⟩ := ckOE h
    obtain ⟨M35, e34, h⟩ := bindE h
    refine q_callV (v := none) [.int (-8 : Int32)] C hRO lk_RX3_194 vk_X3_emit e33 rfl rfl rfl (Nat.le_of_ble_eq_true rfl) (by omega) (by omega) dX3_takeJoined_155 (k_X3_emit X.1.2.1 hl X.2.2.1 l0 (-8 : Int32) M _ e34) ?_
    refine q_iinc 2 (v := (l5 + (1 : Int32))) (lv' := [(5, .int (l5 + (1 : Int32))), (0, .ref l0), (3, .int l3)]) C dX3_takeJoined_158 rfl rfl (by decide) rfl ?_
    refine q_goto (tgt := 146) C dX3_takeJoined_161 (by decide) ?_
    exact q_sub (lv' := [(0, .ref l0), (3, .int l3), (5, .int (l5 + (1 : Int32)))]) [1, 2, 0] rfl (kc ((l5 + (1 : Int32)), M35) (someI h))
theorem w_X3_takeJoined_l146 {X : CX} {fr lo fr2 lo2 : Nat} (hfr : 15 ≤ fr) (hlo : 334 ≤ lo) (hfr2 : fr2 + 1 ≤ fr) (hlo2 : lo2 + 26 ≤ lo) {r : Mem} (C : CK X cX3_takeJoined 7 RX3 fr lo) (hRO : RO X.2.2.1 X.1.2.2.2.2.1 X.1.2.2.2.2.1.heap) (hl : X.1.2.1.stackTraces = false) {R : Nat → Nat → Int32 → Int32 → Mem → Option Mem} (ih : IHrec X.1.2.1 X.2.2.1 R fr2 lo2) (l0 : Nat) (l3 : Int32) (l5 : Int32) (M : Mem) (h : loop (fun s => F_X3_takeJoined_s146 l0 l3 s.1 s.2 R) (l5, M) = some r) (kx : ∀ e' : Mem, r = e' → wq X 7 164 [] [] e') : wq X 7 146 [(0, .ref l0), (3, .int l3), (5, .int l5)] [] M :=
  loop_ind (P := fun s => wq X 7 146 [(0, .ref l0), (3, .int l3), (5, .int s.1)] [] s.2) h (fun s y hy kc kr => w_X3_takeJoined_s146 hfr hlo hfr2 hlo2 C hRO hl ih l0 l3 s.1 s.2 hy kc (fun e' he => kx e' (kr _ he).symm))
set_option maxRecDepth 100000 in
set_option maxHeartbeats 4000000 in
theorem w_X3_takeJoined_j64 {X : CX} {fr lo fr2 lo2 : Nat} (hfr : 15 ≤ fr) (hlo : 334 ≤ lo) (hfr2 : fr2 + 1 ≤ fr) (hlo2 : lo2 + 26 ≤ lo) {y : Mem} (C : CK X cX3_takeJoined 7 RX3 fr lo) (hRO : RO X.2.2.1 X.1.2.2.2.2.1 X.1.2.2.2.2.1.heap) (hl : X.1.2.1.stackTraces = false) {R : Nat → Nat → Int32 → Int32 → Mem → Option Mem} (ih : IHrec X.1.2.1 X.2.2.1 R fr2 lo2) (l0 : Nat) (l1 : Int32) (l2 : Int32) (t0 : Int32) (M : Mem) (h : F_X3_takeJoined_j64 l0 l1 l2 t0 M R = some y) (kf : FIN X none (rs_mV y) (ms_mV y)) : wq X 7 64 [(0, .ref l0), (1, .int l1), (2, .int l2)] [.int t0] M := by
  unfold F_X3_takeJoined_j64 at h
  refine q_istore_n (i := 3) (lv' := [(3, .int t0), (0, .ref l0), (1, .int l1), (2, .int l2)]) C dX3_takeJoined_64 rfl (by decide) rfl ?_
  refine q_aload_n 1 C dX3_takeJoined_65 rfl ?_
  refine q_iload_n 2 C dX3_takeJoined_66 rfl ?_
  refine q_iload_n 3 C dX3_takeJoined_67 rfl ?_
  refine q_iconst (v := (1 : Int32)) C dX3_takeJoined_68 (by decide) ?_
  refine q_iadd C dX3_takeJoined_69 ?_
  obtain ⟨e4, h⟩ := ckOE h
  obtain ⟨M6, e5, h⟩ := bindE h
  refine q_callV (v := none) [.int l1, .int (l2 + (1 : Int32))] C hRO lk_RX3_170 vk_X3_takeJoined e4 rfl rfl rfl (Nat.le_of_ble_eq_true rfl) (by omega) (by omega) dX3_takeJoined_70 (ih.1 _ _ _ _ _ e5) ?_
  refine q_iload_n 3 C dX3_takeJoined_73 rfl ?_
  refine q_iconst (v := (2 : Int32)) C dX3_takeJoined_74 (by decide) ?_
  refine q_icmp_ne (tgt := 82) C dX3_takeJoined_75 (by decide) (fun c8 => ?_) (fun c8 => ?_)
  · have h := ifF c8 h
    refine q_sipush (v := (700 : Int32)) C dX3_takeJoined_82 (by decide) ?_
    refine q_istore (i := 4) (lv' := [(4, .int (700 : Int32)), (3, .int t0), (0, .ref l0), (1, .int l1), (2, .int l2)]) C dX3_takeJoined_85 (by decide) rfl ?_
    refine q_iconst (v := (0 : Int32)) C dX3_takeJoined_87 (by decide) ?_
    refine q_istore (i := 5) (lv' := [(5, .int (0 : Int32)), (4, .int (700 : Int32)), (3, .int t0), (0, .ref l0), (1, .int l1), (2, .int l2)]) C dX3_takeJoined_88 (by decide) rfl ?_
    obtain ⟨M31, e30, h⟩ := bindE h
    refine q_sub (lv' := [(0, .ref l0), (1, .int l1), (2, .int l2), (3, .int t0), (4, .int (700 : Int32)), (5, .int (0 : Int32))]) [3, 4, 5, 2, 1, 0] rfl (w_X3_takeJoined_l90 hfr hlo hfr2 hlo2 C hRO hl ih l0 l1 l2 t0 (700 : Int32) (0 : Int32) M6 e30 (fun r29 he => ?_))
    subst he
    show wq X 7 143 [(0, .ref l0), (3, .int t0)] [] M31
    refine q_iconst (v := (0 : Int32)) C dX3_takeJoined_143 (by decide) ?_
    refine q_istore (i := 5) (lv' := [(5, .int (0 : Int32)), (0, .ref l0), (3, .int t0)]) C dX3_takeJoined_144 (by decide) rfl ?_
    obtain ⟨M39, e38, h⟩ := bindE h
    refine q_sub (lv' := [(0, .ref l0), (3, .int t0), (5, .int (0 : Int32))]) [1, 2, 0] rfl (w_X3_takeJoined_l146 hfr hlo hfr2 hlo2 C hRO hl ih l0 t0 (0 : Int32) M31 e38 (fun r37 he => ?_))
    subst he
    show wq X 7 164 [] [] M39
    cases h
    exact q_vret C kf dX3_takeJoined_164
  · have h := ifT c8 h
    refine q_iconst (v := (1 : Int32)) C dX3_takeJoined_78 (by decide) ?_
    refine q_goto (tgt := 85) C dX3_takeJoined_79 (by decide) ?_
    refine q_istore (i := 4) (lv' := [(4, .int (1 : Int32)), (3, .int t0), (0, .ref l0), (1, .int l1), (2, .int l2)]) C dX3_takeJoined_85 (by decide) rfl ?_
    refine q_iconst (v := (0 : Int32)) C dX3_takeJoined_87 (by decide) ?_
    refine q_istore (i := 5) (lv' := [(5, .int (0 : Int32)), (4, .int (1 : Int32)), (3, .int t0), (0, .ref l0), (1, .int l1), (2, .int l2)]) C dX3_takeJoined_88 (by decide) rfl ?_
    obtain ⟨M44, e43, h⟩ := bindE h
    refine q_sub (lv' := [(0, .ref l0), (1, .int l1), (2, .int l2), (3, .int t0), (4, .int (1 : Int32)), (5, .int (0 : Int32))]) [3, 4, 5, 2, 1, 0] rfl (w_X3_takeJoined_l90 hfr hlo hfr2 hlo2 C hRO hl ih l0 l1 l2 t0 (1 : Int32) (0 : Int32) M6 e43 (fun r42 he => ?_))
    subst he
    show wq X 7 143 [(0, .ref l0), (3, .int t0)] [] M44
    refine q_iconst (v := (0 : Int32)) C dX3_takeJoined_143 (by decide) ?_
    refine q_istore (i := 5) (lv' := [(5, .int (0 : Int32)), (0, .ref l0), (3, .int t0)]) C dX3_takeJoined_144 (by decide) rfl ?_
    obtain ⟨M47, e46, h⟩ := bindE h
    refine q_sub (lv' := [(0, .ref l0), (3, .int t0), (5, .int (0 : Int32))]) [1, 2, 0] rfl (w_X3_takeJoined_l146 hfr hlo hfr2 hlo2 C hRO hl ih l0 t0 (0 : Int32) M44 e46 (fun r45 he => ?_))
    subst he
    show wq X 7 164 [] [] M47
    cases h
    exact q_vret C kf dX3_takeJoined_164
set_option maxRecDepth 100000 in
set_option maxHeartbeats 4000000 in
theorem w_X3_takeJoined_b {X : CX} {fr lo fr2 lo2 : Nat} (hfr : 15 ≤ fr) (hlo : 334 ≤ lo) (hfr2 : fr2 + 1 ≤ fr) (hlo2 : lo2 + 26 ≤ lo) {y : Mem} (C : CK X cX3_takeJoined 7 RX3 fr lo) (hRO : RO X.2.2.1 X.1.2.2.2.2.1 X.1.2.2.2.2.1.heap) (hl : X.1.2.1.stackTraces = false) {R : Nat → Nat → Int32 → Int32 → Mem → Option Mem} (ih : IHrec X.1.2.1 X.2.2.1 R fr2 lo2) (l0 : Nat) (l1 : Int32) (l2 : Int32) (M : Mem) (h : F_X3_takeJoined_b l0 l1 l2 M R = some y) (kf : FIN X none (rs_mV y) (ms_mV y)) : wq X 7 0 [(0, .ref l0), (1, .int l1), (2, .int l2)] [] M := by
  unfold F_X3_takeJoined_b at h
  refine q_iload_n 1 C dX3_takeJoined_0 rfl ?_
  refine q_iconst (v := (5 : Int32)) C dX3_takeJoined_1 (by decide) ?_
  refine q_icmp_le (tgt := 40) C dX3_takeJoined_2 (by decide) (fun c1 => ?_) (fun c1 => ?_)
  · have h := ifT c1 h
    refine q_iload_n 2 C dX3_takeJoined_40 rfl ?_
    refine q_iconst (v := (4 : Int32)) C dX3_takeJoined_41 (by decide) ?_
    refine q_icmp_le (tgt := 51) C dX3_takeJoined_42 (by decide) (fun c2 => ?_) (fun c2 => ?_)
    · have h := ifT c2 h
      refine q_iload_n 2 C dX3_takeJoined_51 rfl ?_
      refine q_iconst (v := (2 : Int32)) C dX3_takeJoined_52 (by decide) ?_
      refine q_icmp_ne (tgt := 63) C dX3_takeJoined_53 (by decide) (fun c3 => ?_) (fun c3 => ?_)
      · have h := ifF c3 h
        refine q_iconst (v := (0 : Int32)) C dX3_takeJoined_63 (by decide) ?_
        exact q_sub (lv' := [(0, .ref l0), (1, .int l1), (2, .int l2)]) [0, 1, 2] rfl (w_X3_takeJoined_j64 hfr hlo hfr2 hlo2 C hRO hl ih l0 l1 l2 (0 : Int32) M h kf)
      · have h := ifT c3 h
        refine q_aload_n 0 C dX3_takeJoined_56 rfl ?_
        obtain ⟨e50, h⟩ := ckOE h
        obtain ⟨v53, M52, e51, h⟩ := bd2E h
        refine q_callV (v := some (.int v53)) [] C hRO lk_RX3_188 vk_X3_takeNots e50 rfl rfl rfl (Nat.le_of_ble_eq_true rfl) (by omega) (by omega) dX3_takeJoined_57 (k_X3_takeNots X.1.2.1 hl X.2.2.1 l0 M _ e51) ?_
        refine q_goto (tgt := 64) C dX3_takeJoined_60 (by decide) ?_
        exact q_sub (lv' := [(0, .ref l0), (1, .int l1), (2, .int l2)]) [0, 1, 2] rfl (w_X3_takeJoined_j64 hfr hlo hfr2 hlo2 C hRO hl ih l0 l1 l2 v53 M52 h kf)
    · have h := ifF c2 h
      refine q_aload_n 0 C dX3_takeJoined_45 rfl ?_
      refine q_iload_n 1 C dX3_takeJoined_46 rfl ?_
      obtain ⟨e54, h⟩ := ckOE h
      obtain ⟨M56, e55, h⟩ := bindE h
      refine q_callV (v := none) [.int l1] C hRO lk_RX3_185 vk_X3_takePart e54 rfl rfl rfl (Nat.le_of_ble_eq_true rfl) (by omega) (by omega) dX3_takeJoined_47 (ih.2 _ _ _ _ e55) ?_
      cases h
      exact q_vret C kf dX3_takeJoined_50
  · have h := ifF c1 h
    refine q_aload_n 0 C dX3_takeJoined_5 rfl ?_
    refine q_aload_n 0 C dX3_takeJoined_6 rfl ?_
    obtain ⟨v58, e59, h⟩ := bindE h
    refine q_getI C fl_RX3_28 rfl e59 dX3_takeJoined_7 ?_
    refine q_iconst (v := (3 : Int32)) C dX3_takeJoined_10 (by decide) ?_
    refine q_icmp_eq (tgt := 31) C dX3_takeJoined_11 (by decide) (fun c60 => ?_) (fun c60 => ?_)
    · have h := ifT c60 h
      refine q_iconst (v := (2 : Int32)) C dX3_takeJoined_31 (by decide) ?_
      refine q_goto (tgt := 36) C dX3_takeJoined_32 (by decide) ?_
      obtain ⟨e61, h⟩ := ckOE h
      obtain ⟨M63, e62, h⟩ := bindE h
      refine q_callV (v := none) [.int (2 : Int32)] C hRO lk_RX3_90 vk_X3_fail e61 rfl rfl rfl (Nat.le_of_ble_eq_true rfl) (by omega) (by omega) dX3_takeJoined_36 (k_X3_fail X.1.2.1 hl X.2.2.1 l0 (2 : Int32) M _ e62) ?_
      cases h
      exact q_vret C kf dX3_takeJoined_39
    · have h := ifF c60 h
      refine q_aload_n 0 C dX3_takeJoined_14 rfl ?_
      obtain ⟨v65, e66, h⟩ := bindE h
      refine q_getI C fl_RX3_28 rfl e66 dX3_takeJoined_15 ?_
      refine q_iconst (v := (2 : Int32)) C dX3_takeJoined_18 (by decide) ?_
      refine q_icmp_eq (tgt := 31) C dX3_takeJoined_19 (by decide) (fun c67 => ?_) (fun c67 => ?_)
      · have h := ifT c67 h
        refine q_iconst (v := (2 : Int32)) C dX3_takeJoined_31 (by decide) ?_
        refine q_goto (tgt := 36) C dX3_takeJoined_32 (by decide) ?_
        obtain ⟨e68, h⟩ := ckOE h
        obtain ⟨M70, e69, h⟩ := bindE h
        refine q_callV (v := none) [.int (2 : Int32)] C hRO lk_RX3_90 vk_X3_fail e68 rfl rfl rfl (Nat.le_of_ble_eq_true rfl) (by omega) (by omega) dX3_takeJoined_36 (k_X3_fail X.1.2.1 hl X.2.2.1 l0 (2 : Int32) M _ e69) ?_
        cases h
        exact q_vret C kf dX3_takeJoined_39
      · have h := ifF c67 h
        refine q_aload_n 0 C dX3_takeJoined_22 rfl ?_
        refine q_bipush (v := (40 : Int32)) C dX3_takeJoined_23 (by decide) ?_
        obtain ⟨e72, h⟩ := ckOE h
        obtain ⟨v74, e73, h⟩ := bindE h
        refine q_callV (v := some (.int v74)) [.int (40 : Int32)] C hRO lk_RX3_86 vk_X3_isSign e72 rfl rfl rfl (Nat.le_of_ble_eq_true rfl) (by omega) (by omega) dX3_takeJoined_25 (k_X3_isSign X.1.2.1 hl X.2.2.1 l0 (40 : Int32) M _ e73) ?_
        refine q_if_eq (tgt := 35) C dX3_takeJoined_28 (by decide) (fun c75 => ?_) (fun c75 => ?_)
        · have h := ifT c75 h
          refine q_iconst (v := (1 : Int32)) C dX3_takeJoined_35 (by decide) ?_
          obtain ⟨e76, h⟩ := ckOE h
          obtain ⟨M78, e77, h⟩ := bindE h
          refine q_callV (v := none) [.int (1 : Int32)] C hRO lk_RX3_90 vk_X3_fail e76 rfl rfl rfl (Nat.le_of_ble_eq_true rfl) (by omega) (by omega) dX3_takeJoined_36 (k_X3_fail X.1.2.1 hl X.2.2.1 l0 (1 : Int32) M _ e77) ?_
          cases h
          exact q_vret C kf dX3_takeJoined_39
        · have h := ifF c75 h
          refine q_iconst (v := (2 : Int32)) C dX3_takeJoined_31 (by decide) ?_
          refine q_goto (tgt := 36) C dX3_takeJoined_32 (by decide) ?_
          obtain ⟨e80, h⟩ := ckOE h
          obtain ⟨M82, e81, h⟩ := bindE h
          refine q_callV (v := none) [.int (2 : Int32)] C hRO lk_RX3_90 vk_X3_fail e80 rfl rfl rfl (Nat.le_of_ble_eq_true rfl) (by omega) (by omega) dX3_takeJoined_36 (k_X3_fail X.1.2.1 hl X.2.2.1 l0 (2 : Int32) M _ e81) ?_
          cases h
          exact q_vret C kf dX3_takeJoined_39
/-! X3_takePart -/
set_option maxRecDepth 100000 in
set_option maxHeartbeats 4000000 in
theorem w_X3_takePart_j76 {X : CX} {fr lo fr2 lo2 : Nat} (hfr : 15 ≤ fr) (hlo : 334 ≤ lo) (hfr2 : fr2 + 1 ≤ fr) (hlo2 : lo2 + 26 ≤ lo) {y : Mem} (C : CK X cX3_takePart 3 RX3 fr lo) (hRO : RO X.2.2.1 X.1.2.2.2.2.1 X.1.2.2.2.2.1.heap) (hl : X.1.2.1.stackTraces = false) {R : Nat → Nat → Int32 → Int32 → Mem → Option Mem} (ih : IHrec X.1.2.1 X.2.2.1 R fr2 lo2) (l0 : Nat) (l1 : Int32) (M : Mem) (h : F_X3_takePart_j76 l0 l1 M R = some y) (kf : FIN X none (rs_mV y) (ms_mV y)) : wq X 3 76 [(0, .ref l0), (1, .int l1)] [] M := by
  unfold F_X3_takePart_j76 at h
  refine q_aload_n 0 C dX3_takePart_76 rfl ?_
  obtain ⟨v11, e12, h⟩ := bindE h
  refine q_getI C fl_RX3_28 rfl e12 dX3_takePart_77 ?_
  refine q_iconst (v := (3 : Int32)) C dX3_takePart_80 (by decide) ?_
  refine q_icmp_ne (tgt := 99) C dX3_takePart_81 (by decide) (fun c13 => ?_) (fun c13 => ?_)
  · have h := ifF c13 h
    refine q_aload_n 0 C dX3_takePart_99 rfl ?_
    refine q_bipush (v := (40 : Int32)) C dX3_takePart_100 (by decide) ?_
    obtain ⟨e14, h⟩ := ckOE h
    obtain ⟨v16, e15, h⟩ := bindE h
    refine q_callV (v := some (.int v16)) [.int (40 : Int32)] C hRO lk_RX3_86 vk_X3_isSign e14 rfl rfl rfl (Nat.le_of_ble_eq_true rfl) (by omega) (by omega) dX3_takePart_102 (k_X3_isSign X.1.2.1 hl X.2.2.1 l0 (40 : Int32) M _ e15) ?_
    refine q_if_eq (tgt := 151) C dX3_takePart_105 (by decide) (fun c17 => ?_) (fun c17 => ?_)
    · have h := ifT c17 h
      refine q_aload_n 0 C dX3_takePart_151 rfl ?_
      refine q_iconst (v := (1 : Int32)) C dX3_takePart_152 (by decide) ?_
      obtain ⟨e18, h⟩ := ckOE h
      obtain ⟨M20, e19, h⟩ := bindE h
      refine q_callV (v := none) [.int (1 : Int32)] C hRO lk_RX3_90 vk_X3_fail e18 rfl rfl rfl (Nat.le_of_ble_eq_true rfl) (by omega) (by omega) dX3_takePart_153 (k_X3_fail X.1.2.1 hl X.2.2.1 l0 (1 : Int32) M _ e19) ?_
      cases h
      exact q_vret C kf dX3_takePart_156
    · have h := ifF c17 h
      refine q_aload_n 0 C dX3_takePart_108 rfl ?_
      obtain ⟨e22, h⟩ := ckOE h
      obtain ⟨M24, e23, h⟩ := bindE h
      refine q_callV (v := none) [] C hRO lk_RX3_62 vk_X3_advance e22 rfl rfl rfl (Nat.le_of_ble_eq_true rfl) (by omega) (by omega) dX3_takePart_109 (k_X3_advance X.1.2.1 hl X.2.2.1 l0 M _ e23) ?_
      refine q_aload_n 0 C dX3_takePart_112 rfl ?_
      refine q_iload_n 1 C dX3_takePart_113 rfl ?_
      refine q_iconst (v := (1 : Int32)) C dX3_takePart_114 (by decide) ?_
      refine q_iadd C dX3_takePart_115 ?_
      refine q_iconst (v := (0 : Int32)) C dX3_takePart_116 (by decide) ?_
      obtain ⟨e26, h⟩ := ckOE h
      obtain ⟨M28, e27, h⟩ := bindE h
      refine q_callV (v := none) [.int (l1 + (1 : Int32)), .int (0 : Int32)] C hRO lk_RX3_170 vk_X3_takeJoined e26 rfl rfl rfl (Nat.le_of_ble_eq_true rfl) (by omega) (by omega) dX3_takePart_117 (ih.1 _ _ _ _ _ e27) ?_
      refine q_aload_n 0 C dX3_takePart_120 rfl ?_
      obtain ⟨v30, e31, h⟩ := bindE h
      refine q_getI C fl_RX3_22 rfl e31 dX3_takePart_121 ?_
      refine q_if_ne (tgt := 143) C dX3_takePart_124 (by decide) (fun c32 => ?_) (fun c32 => ?_)
      · have h := ifF c32 h
        refine q_aload_n 0 C dX3_takePart_143 rfl ?_
        refine q_iconst (v := (1 : Int32)) C dX3_takePart_144 (by decide) ?_
        obtain ⟨e33, h⟩ := ckOE h
        obtain ⟨M35, e34, h⟩ := bindE h
        refine q_callV (v := none) [.int (1 : Int32)] C hRO lk_RX3_90 vk_X3_fail e33 rfl rfl rfl (Nat.le_of_ble_eq_true rfl) (by omega) (by omega) dX3_takePart_145 (k_X3_fail X.1.2.1 hl X.2.2.1 l0 (1 : Int32) M28 _ e34) ?_
        refine q_goto (tgt := 156) C dX3_takePart_148 (by decide) ?_
        cases h
        exact q_vret C kf dX3_takePart_156
      · have h := ifT c32 h
        refine q_aload_n 0 C dX3_takePart_127 rfl ?_
        refine q_bipush (v := (41 : Int32)) C dX3_takePart_128 (by decide) ?_
        obtain ⟨e37, h⟩ := ckOE h
        obtain ⟨v39, e38, h⟩ := bindE h
        refine q_callV (v := some (.int v39)) [.int (41 : Int32)] C hRO lk_RX3_86 vk_X3_isSign e37 rfl rfl rfl (Nat.le_of_ble_eq_true rfl) (by omega) (by omega) dX3_takePart_130 (k_X3_isSign X.1.2.1 hl X.2.2.1 l0 (41 : Int32) M28 _ e38) ?_
        refine q_if_eq (tgt := 143) C dX3_takePart_133 (by decide) (fun c40 => ?_) (fun c40 => ?_)
        · have h := ifT c40 h
          refine q_aload_n 0 C dX3_takePart_143 rfl ?_
          refine q_iconst (v := (1 : Int32)) C dX3_takePart_144 (by decide) ?_
          obtain ⟨e41, h⟩ := ckOE h
          obtain ⟨M43, e42, h⟩ := bindE h
          refine q_callV (v := none) [.int (1 : Int32)] C hRO lk_RX3_90 vk_X3_fail e41 rfl rfl rfl (Nat.le_of_ble_eq_true rfl) (by omega) (by omega) dX3_takePart_145 (k_X3_fail X.1.2.1 hl X.2.2.1 l0 (1 : Int32) M28 _ e42) ?_
          refine q_goto (tgt := 156) C dX3_takePart_148 (by decide) ?_
          cases h
          exact q_vret C kf dX3_takePart_156
        · have h := ifF c40 h
          refine q_aload_n 0 C dX3_takePart_136 rfl ?_
          obtain ⟨e45, h⟩ := ckOE h
          obtain ⟨M47, e46, h⟩ := bindE h
          refine q_callV (v := none) [] C hRO lk_RX3_62 vk_X3_advance e45 rfl rfl rfl (Nat.le_of_ble_eq_true rfl) (by omega) (by omega) dX3_takePart_137 (k_X3_advance X.1.2.1 hl X.2.2.1 l0 M28 _ e46) ?_
          refine q_goto (tgt := 156) C dX3_takePart_140 (by decide) ?_
          cases h
          exact q_vret C kf dX3_takePart_156
  · have h := ifT c13 h
    refine q_aload_n 0 C dX3_takePart_84 rfl ?_
    refine q_aload_n 0 C dX3_takePart_85 rfl ?_
    obtain ⟨v49, e50, h⟩ := bindE h
    refine q_getI C fl_RX3_37 rfl e50 dX3_takePart_86 ?_
    obtain ⟨e51, h⟩ := ckOE h
    obtain ⟨M53, e52, h⟩ := bindE h
    refine q_callV (v := none) [.int v49] C hRO lk_RX3_194 vk_X3_emit e51 rfl rfl rfl (Nat.le_of_ble_eq_true rfl) (by omega) (by omega) dX3_takePart_89 (k_X3_emit X.1.2.1 hl X.2.2.1 l0 v49 M _ e52) ?_
    refine q_aload_n 0 C dX3_takePart_92 rfl ?_
    obtain ⟨e55, h⟩ := ckOE h
    obtain ⟨M57, e56, h⟩ := bindE h
    refine q_callV (v := none) [] C hRO lk_RX3_62 vk_X3_advance e55 rfl rfl rfl (Nat.le_of_ble_eq_true rfl) (by omega) (by omega) dX3_takePart_93 (k_X3_advance X.1.2.1 hl X.2.2.1 l0 M53 _ e56) ?_
    refine q_goto (tgt := 156) C dX3_takePart_96 (by decide) ?_
    cases h
    exact q_vret C kf dX3_takePart_156
set_option maxRecDepth 100000 in
set_option maxHeartbeats 4000000 in
theorem w_X3_takePart_j16 {X : CX} {fr lo fr2 lo2 : Nat} (hfr : 15 ≤ fr) (hlo : 334 ≤ lo) (hfr2 : fr2 + 1 ≤ fr) (hlo2 : lo2 + 26 ≤ lo) {y : Mem} (C : CK X cX3_takePart 3 RX3 fr lo) (hRO : RO X.2.2.1 X.1.2.2.2.2.1 X.1.2.2.2.2.1.heap) (hl : X.1.2.1.stackTraces = false) {R : Nat → Nat → Int32 → Int32 → Mem → Option Mem} (ih : IHrec X.1.2.1 X.2.2.1 R fr2 lo2) (l0 : Nat) (l1 : Int32) (t0 : Int32) (M : Mem) (h : F_X3_takePart_j16 l0 l1 t0 M R = some y) (kf : FIN X none (rs_mV y) (ms_mV y)) : wq X 3 16 [(0, .ref l0), (1, .int l1)] [.int t0] M := by
  unfold F_X3_takePart_j16 at h
  refine q_istore_n (i := 2) (lv' := [(2, .int t0), (0, .ref l0), (1, .int l1)]) C dX3_takePart_16 rfl (by decide) rfl ?_
  refine q_iload_n 0 C dX3_takePart_17 rfl ?_
  refine q_iconst (v := (-1 : Int32)) C dX3_takePart_18 (by decide) ?_
  refine q_icmp_eq (tgt := 36) C dX3_takePart_19 (by decide) (fun c4 => ?_) (fun c4 => ?_)
  · have h := ifT c4 h
    refine q_aload_n 1 C dX3_takePart_36 rfl ?_
    obtain ⟨v5, e6, h⟩ := bindE h
    refine q_getI C fl_RX3_28 rfl e6 dX3_takePart_37 ?_
    refine q_iconst (v := (2 : Int32)) C dX3_takePart_40 (by decide) ?_
    refine q_icmp_ne (tgt := 52) C dX3_takePart_41 (by decide) (fun c7 => ?_) (fun c7 => ?_)
    · have h := ifF c7 h
      refine q_aload_n 1 C dX3_takePart_52 rfl ?_
      obtain ⟨v8, e9, h⟩ := bindE h
      refine q_getI C fl_RX3_28 rfl e9 dX3_takePart_53 ?_
      refine q_iconst (v := (3 : Int32)) C dX3_takePart_56 (by decide) ?_
      refine q_icmp_ne (tgt := 76) C dX3_takePart_57 (by decide) (fun c10 => ?_) (fun c10 => ?_)
      · have h := ifF c10 h
        exact q_sub (lv' := [(0, .ref l0), (1, .int l1)]) [1, 2] rfl (w_X3_takePart_j76 hfr hlo hfr2 hlo2 C hRO hl ih l0 l1 M h kf)
      · have h := ifT c10 h
        refine q_aload_n 1 C dX3_takePart_60 rfl ?_
        obtain ⟨v59, e60, h⟩ := bindE h
        refine q_getI C fl_RX3_37 rfl e60 dX3_takePart_61 ?_
        refine q_iconst (v := (-1 : Int32)) C dX3_takePart_64 (by decide) ?_
        refine q_icmp_ne (tgt := 76) C dX3_takePart_65 (by decide) (fun c61 => ?_) (fun c61 => ?_)
        · have h := ifF c61 h
          exact q_sub (lv' := [(0, .ref l0), (1, .int l1)]) [1, 2] rfl (w_X3_takePart_j76 hfr hlo hfr2 hlo2 C hRO hl ih l0 l1 M h kf)
        · have h := ifT c61 h
          refine q_aload_n 1 C dX3_takePart_68 rfl ?_
          refine q_iconst (v := (2 : Int32)) C dX3_takePart_69 (by decide) ?_
          obtain ⟨e62, h⟩ := ckOE h
          obtain ⟨M64, e63, h⟩ := bindE h
          refine q_callV (v := none) [.int (2 : Int32)] C hRO lk_RX3_90 vk_X3_fail e62 rfl rfl rfl (Nat.le_of_ble_eq_true rfl) (by omega) (by omega) dX3_takePart_70 (k_X3_fail X.1.2.1 hl X.2.2.1 l0 (2 : Int32) M _ e63) ?_
          refine q_goto (tgt := 156) C dX3_takePart_73 (by decide) ?_
          cases h
          exact q_vret C kf dX3_takePart_156
    · have h := ifT c7 h
      refine q_aload_n 1 C dX3_takePart_44 rfl ?_
      refine q_iconst (v := (3 : Int32)) C dX3_takePart_45 (by decide) ?_
      obtain ⟨e66, h⟩ := ckOE h
      obtain ⟨M68, e67, h⟩ := bindE h
      refine q_callV (v := none) [.int (3 : Int32)] C hRO lk_RX3_90 vk_X3_fail e66 rfl rfl rfl (Nat.le_of_ble_eq_true rfl) (by omega) (by omega) dX3_takePart_46 (k_X3_fail X.1.2.1 hl X.2.2.1 l0 (3 : Int32) M _ e67) ?_
      refine q_goto (tgt := 156) C dX3_takePart_49 (by decide) ?_
      cases h
      exact q_vret C kf dX3_takePart_156
  · have h := ifF c4 h
    refine q_aload_n 1 C dX3_takePart_22 rfl ?_
    refine q_iconst (v := (-1 : Int32)) C dX3_takePart_23 (by decide) ?_
    refine q_iload_n 0 C dX3_takePart_24 rfl ?_
    refine q_isub C dX3_takePart_25 ?_
    obtain ⟨e70, h⟩ := ckOE h
    obtain ⟨M72, e71, h⟩ := bindE h
    refine q_callV (v := none) [.int ((-1 : Int32) - t0)] C hRO lk_RX3_194 vk_X3_emit e70 rfl rfl rfl (Nat.le_of_ble_eq_true rfl) (by omega) (by omega) dX3_takePart_26 (k_X3_emit X.1.2.1 hl X.2.2.1 l0 ((-1 : Int32) - t0) M _ e71) ?_
    refine q_aload_n 1 C dX3_takePart_29 rfl ?_
    obtain ⟨e74, h⟩ := ckOE h
    obtain ⟨M76, e75, h⟩ := bindE h
    refine q_callV (v := none) [] C hRO lk_RX3_62 vk_X3_advance e74 rfl rfl rfl (Nat.le_of_ble_eq_true rfl) (by omega) (by omega) dX3_takePart_30 (k_X3_advance X.1.2.1 hl X.2.2.1 l0 M72 _ e75) ?_
    refine q_goto (tgt := 156) C dX3_takePart_33 (by decide) ?_
    cases h
    exact q_vret C kf dX3_takePart_156
set_option maxRecDepth 100000 in
set_option maxHeartbeats 4000000 in
theorem w_X3_takePart_b {X : CX} {fr lo fr2 lo2 : Nat} (hfr : 15 ≤ fr) (hlo : 334 ≤ lo) (hfr2 : fr2 + 1 ≤ fr) (hlo2 : lo2 + 26 ≤ lo) {y : Mem} (C : CK X cX3_takePart 3 RX3 fr lo) (hRO : RO X.2.2.1 X.1.2.2.2.2.1 X.1.2.2.2.2.1.heap) (hl : X.1.2.1.stackTraces = false) {R : Nat → Nat → Int32 → Int32 → Mem → Option Mem} (ih : IHrec X.1.2.1 X.2.2.1 R fr2 lo2) (l0 : Nat) (l1 : Int32) (M : Mem) (h : F_X3_takePart_b l0 l1 M R = some y) (kf : FIN X none (rs_mV y) (ms_mV y)) : wq X 3 0 [(0, .ref l0), (1, .int l1)] [] M := by
  unfold F_X3_takePart_b at h
  refine q_aload_n 0 C dX3_takePart_0 rfl ?_
  obtain ⟨v1, e2, h⟩ := bindE h
  refine q_getI C fl_RX3_28 rfl e2 dX3_takePart_1 ?_
  refine q_iconst (v := (2 : Int32)) C dX3_takePart_4 (by decide) ?_
  refine q_icmp_ne (tgt := 15) C dX3_takePart_5 (by decide) (fun c3 => ?_) (fun c3 => ?_)
  · have h := ifF c3 h
    refine q_iconst (v := (-1 : Int32)) C dX3_takePart_15 (by decide) ?_
    exact q_sub (lv' := [(0, .ref l0), (1, .int l1)]) [0, 1] rfl (w_X3_takePart_j16 hfr hlo hfr2 hlo2 C hRO hl ih l0 l1 (-1 : Int32) M h kf)
  · have h := ifT c3 h
    refine q_aload_n 0 C dX3_takePart_8 rfl ?_
    obtain ⟨e78, h⟩ := ckOE h
    obtain ⟨v80, e79, h⟩ := bindE h
    refine q_callV (v := some (.int v80)) [] C hRO lk_RX3_203 vk_X3_factHere e78 rfl rfl rfl (Nat.le_of_ble_eq_true rfl) (by omega) (by omega) dX3_takePart_9 (k_X3_factHere X.1.2.1 hl X.2.2.1 l0 M _ e79) ?_
    refine q_goto (tgt := 16) C dX3_takePart_12 (by decide) ?_
    exact q_sub (lv' := [(0, .ref l0), (1, .int l1)]) [0, 1] rfl (w_X3_takePart_j16 hfr hlo hfr2 hlo2 C hRO hl ih l0 l1 v80 M h kf)
theorem k_rec (l : Launch) (hl : l.stackTraces = false) (G : GG) : ∀ k : Nat, IHrec l G (F_rec k) (15 + k) (334 + 26 * k) := by
  intro k
  induction k with
  | zero => exact ⟨fun _ _ _ _ _ h => (nomatch h), fun _ _ _ _ h => (nomatch h)⟩
  | succ k ih =>
    refine ⟨fun l0 l1 l2 M M' h => ?_, fun l0 l1 M M' h => ?_⟩
    · have h : F_X3_takeJoined_b l0 l1 l2 M (F_rec k) = some M' := ifT rfl h
      refine Ct_of (by decide +kernel) (Nat.le_of_ble_eq_true rfl) fun X e1 e2 e3 C FN hnm => ?_
      subst e1; subst e2
      show wq X 7 0 [(0, .ref l0), (1, .int l1), (2, .int l2)] [] M
      exact w_X3_takeJoined_b (fr2 := 15 + k) (lo2 := 334 + 26 * k) (by omega) (by omega) (by omega) (by omega) C FN.2.2.2 hl ih l0 l1 l2 M h FN
    · have h : F_X3_takePart_b l0 l1 M (F_rec k) = some M' := ifF (by decide) h
      refine Ct_of (by decide +kernel) (Nat.le_of_ble_eq_true rfl) fun X e1 e2 e3 C FN hnm => ?_
      subst e1; subst e2
      show wq X 3 0 [(0, .ref l0), (1, .int l1)] [] M
      exact w_X3_takePart_b (fr2 := 15 + k) (lo2 := 334 + 26 * k) (by omega) (by omega) (by omega) (by omega) C FN.2.2.2 hl ih l0 l1 M h FN
theorem k_X3_takeJoined (l : Launch) (hl : l.stackTraces = false) (G : GG) (l0 : Nat) (l1 l2 : Int32) (M : Mem) (x : Mem) (h : F_rec REC0 0 l0 l1 l2 M = some x) : Ct l G yX3_takeJoined (.code yX3_takeJoined cX3_takeJoined 7 none) 75 1894 [.ref l0, .int l1, .int l2] M (rs_mV x) (ms_mV x) := (k_rec l hl G 60).1 l0 l1 l2 M x h
/-! X3_ruleLine -/
set_option maxRecDepth 100000 in
set_option maxHeartbeats 4000000 in
theorem w_X3_ruleLine_j15 {X : CX} {y : Mem} (C : CK X cX3_ruleLine 4 RX3 76 1920) (hRO : RO X.2.2.1 X.1.2.2.2.2.1 X.1.2.2.2.2.1.heap) (hl : X.1.2.1.stackTraces = false) (l0 : Nat) (l1 : Nat) (l2 : Int32) (t0 : Nat) (M : Mem) (h : F_X3_ruleLine_j15 l0 l1 l2 t0 M = some y) (kf : FIN X none (rs_mV y) (ms_mV y)) : wq X 4 15 [(0, .ref l0), (1, .ref l1), (2, .int l2)] [.ref t0] M := by
  unfold F_X3_ruleLine_j15 at h
  refine q_ifnull C dX3_ruleLine_15 ?_
  refine q_aload_n 0 C dX3_ruleLine_18 rfl ?_
  refine q_iconst (v := (5 : Int32)) C dX3_ruleLine_19 (by decide) ?_
  obtain ⟨e33, h⟩ := ckOE h
  obtain ⟨M35, e34, h⟩ := bindE h
  refine q_callV (v := none) [.int (5 : Int32)] C hRO lk_RX3_90 vk_X3_fail e33 rfl rfl rfl (Nat.le_of_ble_eq_true rfl) (by decide) (by decide) dX3_ruleLine_20 (k_X3_fail X.1.2.1 hl X.2.2.1 l0 (5 : Int32) M _ e34) ?_
  cases h
  exact q_vret C kf dX3_ruleLine_23
set_option maxRecDepth 100000 in
set_option maxHeartbeats 4000000 in
theorem w_X3_ruleLine {X : CX} {y : Mem} (C : CK X cX3_ruleLine 4 RX3 76 1920) (hRO : RO X.2.2.1 X.1.2.2.2.2.1 X.1.2.2.2.2.1.heap) (hl : X.1.2.1.stackTraces = false) (l0 : Nat) (l1 : Nat) (l2 : Int32) (M : Mem) (h : F_X3_ruleLine l0 l1 l2 M = some y) (kf : FIN X none (rs_mV y) (ms_mV y)) : wq X 4 0 [(0, .ref l0), (1, .ref l1), (2, .int l2)] [] M := by
  unfold F_X3_ruleLine at h
  refine q_iload_n 2 C dX3_ruleLine_0 rfl ?_
  refine q_if_eq (tgt := 11) C dX3_ruleLine_1 (by decide) (fun c1 => ?_) (fun c1 => ?_)
  · have h := ifT c1 h
    refine q_aload_n 1 C dX3_ruleLine_11 rfl ?_
    rcases bdQE h with ⟨e2, h⟩ | ⟨k3, e2, h⟩
    · refine q_getQ0 C fl_RX3_167 rfl e2 dX3_ruleLine_12 ?_
      refine q_ifnullN (tgt := 24) C dX3_ruleLine_15 (by decide) ?_
      refine q_aload_n 0 C dX3_ruleLine_24 rfl ?_
      obtain ⟨e4, h⟩ := ckOE h
      obtain ⟨M6, e5, h⟩ := bindE h
      refine q_callV (v := none) [] C hRO lk_RX3_62 vk_X3_advance e4 rfl rfl rfl (Nat.le_of_ble_eq_true rfl) (by decide) (by decide) dX3_ruleLine_25 (k_X3_advance X.1.2.1 hl X.2.2.1 l0 M _ e5) ?_
      refine q_aload_n 0 C dX3_ruleLine_28 rfl ?_
      refine q_iconst (v := (0 : Int32)) C dX3_ruleLine_29 (by decide) ?_
      obtain ⟨M8, e9, h⟩ := bindE h
      refine q_putI C fp_RX3_44 rfl e9 dX3_ruleLine_30 ?_
      refine q_aload_n 0 C dX3_ruleLine_33 rfl ?_
      refine q_iload_n 2 C dX3_ruleLine_34 rfl ?_
      obtain ⟨M10, e11, h⟩ := bindE h
      refine q_putZ C fp_RX3_47 rfl e11 dX3_ruleLine_35 ?_
      refine q_aload_n 0 C dX3_ruleLine_38 rfl ?_
      refine q_iconst (v := (0 : Int32)) C dX3_ruleLine_39 (by decide) ?_
      refine q_iconst (v := (0 : Int32)) C dX3_ruleLine_40 (by decide) ?_
      obtain ⟨e12, h⟩ := ckOE h
      obtain ⟨M14, e13, h⟩ := bindE h
      refine q_callV (v := none) [.int (0 : Int32), .int (0 : Int32)] C hRO lk_RX3_170 vk_X3_takeJoined e12 rfl rfl rfl (Nat.le_of_ble_eq_true rfl) (by decide) (by decide) dX3_ruleLine_41 (k_X3_takeJoined X.1.2.1 hl X.2.2.1 l0 (0 : Int32) (0 : Int32) M10 _ e13) ?_
      obtain ⟨M16, e17, h⟩ := bindE h
      refine q_new (ci := 4) C rfl cl_RX3_174 ib_4 in_4 e17 dX3_ruleLine_44 ?_
      refine q_dup C dX3_ruleLine_47 rfl ?_
      refine q_aload_n 0 C dX3_ruleLine_48 rfl ?_
      obtain ⟨v18, e19, h⟩ := bindE h
      refine q_getP C fl_RX3_40 rfl e19 dX3_ruleLine_49 ?_
      refine q_aload_n 0 C dX3_ruleLine_52 rfl ?_
      obtain ⟨v20, e21, h⟩ := bindE h
      refine q_getI C fl_RX3_44 rfl e21 dX3_ruleLine_53 ?_
      obtain ⟨v24, M23, e22, h⟩ := bd2E h
      refine q_callS (v := some (.ref v24)) [.ref v18, .int v20] C hRO lk_RX3_176 sk_J7_copyOf_59c91 rfl rfl (Nat.le_of_ble_eq_true rfl) (by decide) (by decide) dX3_ruleLine_56 (k_J7_copyOf_59c91 X.1.2.1 hl X.2.2.1 v18 v20 M16 _ e22) ?_
      obtain ⟨M26, e25, h⟩ := bindE h
      refine q_callI [.ref v24] C hRO rfl lk_RX3_182 ik_X4_init rfl rfl (Nat.le_of_ble_eq_true rfl) (by decide) (by decide) dX3_ruleLine_59 (k_X4_init X.1.2.1 hl X.2.2.1 M14.1.length v24 M23 _ e25) ?_
      refine q_astore_n (i := 3) (lv' := [(3, .ref M14.1.length), (0, .ref l0), (1, .ref l1), (2, .int l2)]) C dX3_ruleLine_62 rfl (by decide) rfl ?_
      refine q_iload_n 3 C dX3_ruleLine_63 rfl ?_
      refine q_if_eq (tgt := 75) C dX3_ruleLine_64 (by decide) (fun c28 => ?_) (fun c28 => ?_)
      · have h := ifT c28 h
        refine q_aload_n 2 C dX3_ruleLine_75 rfl ?_
        refine q_aload_n 0 C dX3_ruleLine_76 rfl ?_
        obtain ⟨M29, e30, h⟩ := bindE h
        refine q_putP rfl C fp_RX3_167 rfl e30 dX3_ruleLine_77 ?_
        cases h
        exact q_vret C kf dX3_ruleLine_80
      · have h := ifF c28 h
        refine q_aload_n 2 C dX3_ruleLine_67 rfl ?_
        refine q_aload_n 0 C dX3_ruleLine_68 rfl ?_
        obtain ⟨M31, e32, h⟩ := bindE h
        refine q_putP rfl C fp_RX3_163 rfl e32 dX3_ruleLine_69 ?_
        refine q_goto (tgt := 80) C dX3_ruleLine_72 (by decide) ?_
        cases h
        exact q_vret C kf dX3_ruleLine_80
    · refine q_getQ1 C fl_RX3_167 rfl e2 dX3_ruleLine_12 ?_
      exact q_sub (lv' := [(0, .ref l0), (1, .ref l1), (2, .int l2)]) [0, 1, 2] rfl (w_X3_ruleLine_j15 C hRO hl l0 l1 l2 k3 M h kf)
  · have h := ifF c1 h
    refine q_aload_n 1 C dX3_ruleLine_4 rfl ?_
    rcases bdQE h with ⟨e37, h⟩ | ⟨k38, e37, h⟩
    · refine q_getQ0 C fl_RX3_163 rfl e37 dX3_ruleLine_5 ?_
      refine q_goto (tgt := 15) C dX3_ruleLine_8 (by decide) ?_
      refine q_ifnullN (tgt := 24) C dX3_ruleLine_15 (by decide) ?_
      refine q_aload_n 0 C dX3_ruleLine_24 rfl ?_
      obtain ⟨e39, h⟩ := ckOE h
      obtain ⟨M41, e40, h⟩ := bindE h
      refine q_callV (v := none) [] C hRO lk_RX3_62 vk_X3_advance e39 rfl rfl rfl (Nat.le_of_ble_eq_true rfl) (by decide) (by decide) dX3_ruleLine_25 (k_X3_advance X.1.2.1 hl X.2.2.1 l0 M _ e40) ?_
      refine q_aload_n 0 C dX3_ruleLine_28 rfl ?_
      refine q_iconst (v := (0 : Int32)) C dX3_ruleLine_29 (by decide) ?_
      obtain ⟨M43, e44, h⟩ := bindE h
      refine q_putI C fp_RX3_44 rfl e44 dX3_ruleLine_30 ?_
      refine q_aload_n 0 C dX3_ruleLine_33 rfl ?_
      refine q_iload_n 2 C dX3_ruleLine_34 rfl ?_
      obtain ⟨M45, e46, h⟩ := bindE h
      refine q_putZ C fp_RX3_47 rfl e46 dX3_ruleLine_35 ?_
      refine q_aload_n 0 C dX3_ruleLine_38 rfl ?_
      refine q_iconst (v := (0 : Int32)) C dX3_ruleLine_39 (by decide) ?_
      refine q_iconst (v := (0 : Int32)) C dX3_ruleLine_40 (by decide) ?_
      obtain ⟨e47, h⟩ := ckOE h
      obtain ⟨M49, e48, h⟩ := bindE h
      refine q_callV (v := none) [.int (0 : Int32), .int (0 : Int32)] C hRO lk_RX3_170 vk_X3_takeJoined e47 rfl rfl rfl (Nat.le_of_ble_eq_true rfl) (by decide) (by decide) dX3_ruleLine_41 (k_X3_takeJoined X.1.2.1 hl X.2.2.1 l0 (0 : Int32) (0 : Int32) M45 _ e48) ?_
      obtain ⟨M51, e52, h⟩ := bindE h
      refine q_new (ci := 4) C rfl cl_RX3_174 ib_4 in_4 e52 dX3_ruleLine_44 ?_
      refine q_dup C dX3_ruleLine_47 rfl ?_
      refine q_aload_n 0 C dX3_ruleLine_48 rfl ?_
      obtain ⟨v53, e54, h⟩ := bindE h
      refine q_getP C fl_RX3_40 rfl e54 dX3_ruleLine_49 ?_
      refine q_aload_n 0 C dX3_ruleLine_52 rfl ?_
      obtain ⟨v55, e56, h⟩ := bindE h
      refine q_getI C fl_RX3_44 rfl e56 dX3_ruleLine_53 ?_
      obtain ⟨v59, M58, e57, h⟩ := bd2E h
      refine q_callS (v := some (.ref v59)) [.ref v53, .int v55] C hRO lk_RX3_176 sk_J7_copyOf_59c91 rfl rfl (Nat.le_of_ble_eq_true rfl) (by decide) (by decide) dX3_ruleLine_56 (k_J7_copyOf_59c91 X.1.2.1 hl X.2.2.1 v53 v55 M51 _ e57) ?_
      obtain ⟨M61, e60, h⟩ := bindE h
      refine q_callI [.ref v59] C hRO rfl lk_RX3_182 ik_X4_init rfl rfl (Nat.le_of_ble_eq_true rfl) (by decide) (by decide) dX3_ruleLine_59 (k_X4_init X.1.2.1 hl X.2.2.1 M49.1.length v59 M58 _ e60) ?_
      refine q_astore_n (i := 3) (lv' := [(3, .ref M49.1.length), (0, .ref l0), (1, .ref l1), (2, .int l2)]) C dX3_ruleLine_62 rfl (by decide) rfl ?_
      refine q_iload_n 3 C dX3_ruleLine_63 rfl ?_
      refine q_if_eq (tgt := 75) C dX3_ruleLine_64 (by decide) (fun c63 => ?_) (fun c63 => ?_)
      · have h := ifT c63 h
        refine q_aload_n 2 C dX3_ruleLine_75 rfl ?_
        refine q_aload_n 0 C dX3_ruleLine_76 rfl ?_
        obtain ⟨M64, e65, h⟩ := bindE h
        refine q_putP rfl C fp_RX3_167 rfl e65 dX3_ruleLine_77 ?_
        cases h
        exact q_vret C kf dX3_ruleLine_80
      · have h := ifF c63 h
        refine q_aload_n 2 C dX3_ruleLine_67 rfl ?_
        refine q_aload_n 0 C dX3_ruleLine_68 rfl ?_
        obtain ⟨M66, e67, h⟩ := bindE h
        refine q_putP rfl C fp_RX3_163 rfl e67 dX3_ruleLine_69 ?_
        refine q_goto (tgt := 80) C dX3_ruleLine_72 (by decide) ?_
        cases h
        exact q_vret C kf dX3_ruleLine_80
    · refine q_getQ1 C fl_RX3_163 rfl e37 dX3_ruleLine_5 ?_
      refine q_goto (tgt := 15) C dX3_ruleLine_8 (by decide) ?_
      exact q_sub (lv' := [(0, .ref l0), (1, .ref l1), (2, .int l2)]) [0, 1, 2] rfl (w_X3_ruleLine_j15 C hRO hl l0 l1 l2 k38 M h kf)
theorem k_X3_ruleLine (l : Launch) (hl : l.stackTraces = false) (G : GG) (l0 : Nat) (l1 : Nat) (l2 : Int32) (M : Mem) (x : Mem) (h : F_X3_ruleLine l0 l1 l2 M = some x) : Ct l G yX3_ruleLine (.code yX3_ruleLine cX3_ruleLine 4 none) 76 1920 [.ref l0, .ref l1, .int l2] M (rs_mV x) (ms_mV x) := by
  refine Ct_of (by decide +kernel) (Nat.le_of_ble_eq_true rfl) fun X e1 e2 e3 C FN hnm => ?_
  subst e1; subst e2
  show wq X 4 0 [(0, .ref l0), (1, .ref l1), (2, .int l2)] [] M
  exact w_X3_ruleLine C FN.2.2.2 hl l0 l1 l2 M h FN
/-! X3_line -/
set_option maxRecDepth 100000 in
set_option maxHeartbeats 4000000 in
theorem w_X3_line {X : CX} {y : Mem} (C : CK X cX3_line 2 RX3 77 1943) (hRO : RO X.2.2.1 X.1.2.2.2.2.1 X.1.2.2.2.2.1.heap) (hl : X.1.2.1.stackTraces = false) (l0 : Nat) (l1 : Nat) (M : Mem) (h : F_X3_line l0 l1 M = some y) (kf : FIN X none (rs_mV y) (ms_mV y)) : wq X 2 0 [(0, .ref l0), (1, .ref l1)] [] M := by
  unfold F_X3_line at h
  refine q_aload_n 0 C dX3_line_0 rfl ?_
  refine q_ldcS (i := 1) C hRO rfl dX3_line_1 ?_
  obtain ⟨e1, h⟩ := ckOE h
  obtain ⟨v3, e2, h⟩ := bindE h
  refine q_callV (v := some (.int v3)) [.retAddr 1] C hRO lk_RX3_96 vk_X3_isWord e1 rfl rfl rfl (Nat.le_of_ble_eq_true rfl) (by decide) (by decide) dX3_line_3 (k_X3_isWord X.1.2.1 hl X.2.2.1 l0 1 M _ e2) ?_
  refine q_if_eq (tgt := 17) C dX3_line_6 (by decide) (fun c4 => ?_) (fun c4 => ?_)
  · have h := ifT c4 h
    refine q_aload_n 0 C dX3_line_17 rfl ?_
    refine q_ldcS (i := 2) C hRO rfl dX3_line_18 ?_
    obtain ⟨e5, h⟩ := ckOE h
    obtain ⟨v7, e6, h⟩ := bindE h
    refine q_callV (v := some (.int v7)) [.retAddr 2] C hRO lk_RX3_96 vk_X3_isWord e5 rfl rfl rfl (Nat.le_of_ble_eq_true rfl) (by decide) (by decide) dX3_line_20 (k_X3_isWord X.1.2.1 hl X.2.2.1 l0 2 M _ e6) ?_
    refine q_if_eq (tgt := 34) C dX3_line_23 (by decide) (fun c8 => ?_) (fun c8 => ?_)
    · have h := ifT c8 h
      refine q_aload_n 0 C dX3_line_34 rfl ?_
      refine q_ldcS (i := 4) C hRO rfl dX3_line_35 ?_
      obtain ⟨e9, h⟩ := ckOE h
      obtain ⟨v11, e10, h⟩ := bindE h
      refine q_callV (v := some (.int v11)) [.retAddr 4] C hRO lk_RX3_96 vk_X3_isWord e9 rfl rfl rfl (Nat.le_of_ble_eq_true rfl) (by decide) (by decide) dX3_line_37 (k_X3_isWord X.1.2.1 hl X.2.2.1 l0 4 M _ e10) ?_
      refine q_if_eq (tgt := 51) C dX3_line_40 (by decide) (fun c12 => ?_) (fun c12 => ?_)
      · have h := ifT c12 h
        refine q_aload_n 0 C dX3_line_51 rfl ?_
        refine q_ldcS (i := 5) C hRO rfl dX3_line_52 ?_
        obtain ⟨e13, h⟩ := ckOE h
        obtain ⟨v15, e14, h⟩ := bindE h
        refine q_callV (v := some (.int v15)) [.retAddr 5] C hRO lk_RX3_96 vk_X3_isWord e13 rfl rfl rfl (Nat.le_of_ble_eq_true rfl) (by decide) (by decide) dX3_line_54 (k_X3_isWord X.1.2.1 hl X.2.2.1 l0 5 M _ e14) ?_
        refine q_if_eq (tgt := 69) C dX3_line_57 (by decide) (fun c16 => ?_) (fun c16 => ?_)
        · have h := ifT c16 h
          refine q_aload_n 0 C dX3_line_69 rfl ?_
          refine q_ldcS (i := 15) C hRO rfl dX3_line_70 ?_
          obtain ⟨e17, h⟩ := ckOE h
          obtain ⟨v19, e18, h⟩ := bindE h
          refine q_callV (v := some (.int v19)) [.retAddr 15] C hRO lk_RX3_96 vk_X3_isWord e17 rfl rfl rfl (Nat.le_of_ble_eq_true rfl) (by decide) (by decide) dX3_line_72 (k_X3_isWord X.1.2.1 hl X.2.2.1 l0 15 M _ e18) ?_
          refine q_if_eq (tgt := 87) C dX3_line_75 (by decide) (fun c20 => ?_) (fun c20 => ?_)
          · have h := ifT c20 h
            refine q_aload_n 0 C dX3_line_87 rfl ?_
            refine q_iconst (v := (1 : Int32)) C dX3_line_88 (by decide) ?_
            obtain ⟨e21, h⟩ := ckOE h
            obtain ⟨M23, e22, h⟩ := bindE h
            refine q_callV (v := none) [.int (1 : Int32)] C hRO lk_RX3_90 vk_X3_fail e21 rfl rfl rfl (Nat.le_of_ble_eq_true rfl) (by decide) (by decide) dX3_line_89 (k_X3_fail X.1.2.1 hl X.2.2.1 l0 (1 : Int32) M _ e22) ?_
            cases h
            exact q_vret C kf dX3_line_92
          · have h := ifF c20 h
            refine q_aload_n 0 C dX3_line_78 rfl ?_
            refine q_aload_n 1 C dX3_line_79 rfl ?_
            refine q_iconst (v := (1 : Int32)) C dX3_line_80 (by decide) ?_
            obtain ⟨e25, h⟩ := ckOE h
            obtain ⟨M27, e26, h⟩ := bindE h
            refine q_callV (v := none) [.ref l1, .int (1 : Int32)] C hRO lk_RX3_115 vk_X3_ruleLine e25 rfl rfl rfl (Nat.le_of_ble_eq_true rfl) (by decide) (by decide) dX3_line_81 (k_X3_ruleLine X.1.2.1 hl X.2.2.1 l0 l1 (1 : Int32) M _ e26) ?_
            refine q_goto (tgt := 92) C dX3_line_84 (by decide) ?_
            cases h
            exact q_vret C kf dX3_line_92
        · have h := ifF c16 h
          refine q_aload_n 0 C dX3_line_60 rfl ?_
          refine q_aload_n 1 C dX3_line_61 rfl ?_
          refine q_iconst (v := (0 : Int32)) C dX3_line_62 (by decide) ?_
          obtain ⟨e29, h⟩ := ckOE h
          obtain ⟨M31, e30, h⟩ := bindE h
          refine q_callV (v := none) [.ref l1, .int (0 : Int32)] C hRO lk_RX3_115 vk_X3_ruleLine e29 rfl rfl rfl (Nat.le_of_ble_eq_true rfl) (by decide) (by decide) dX3_line_63 (k_X3_ruleLine X.1.2.1 hl X.2.2.1 l0 l1 (0 : Int32) M _ e30) ?_
          refine q_goto (tgt := 92) C dX3_line_66 (by decide) ?_
          cases h
          exact q_vret C kf dX3_line_92
      · have h := ifF c12 h
        refine q_aload_n 0 C dX3_line_43 rfl ?_
        refine q_aload_n 1 C dX3_line_44 rfl ?_
        obtain ⟨e33, h⟩ := ckOE h
        obtain ⟨M35, e34, h⟩ := bindE h
        refine q_callV (v := none) [.ref l1] C hRO lk_RX3_110 vk_X3_dampLine e33 rfl rfl rfl (Nat.le_of_ble_eq_true rfl) (by decide) (by decide) dX3_line_45 (k_X3_dampLine X.1.2.1 hl X.2.2.1 l0 l1 M _ e34) ?_
        refine q_goto (tgt := 92) C dX3_line_48 (by decide) ?_
        cases h
        exact q_vret C kf dX3_line_92
    · have h := ifF c8 h
      refine q_aload_n 0 C dX3_line_26 rfl ?_
      refine q_aload_n 1 C dX3_line_27 rfl ?_
      obtain ⟨e37, h⟩ := ckOE h
      obtain ⟨M39, e38, h⟩ := bindE h
      refine q_callV (v := none) [.ref l1] C hRO lk_RX3_105 vk_X3_personLine e37 rfl rfl rfl (Nat.le_of_ble_eq_true rfl) (by decide) (by decide) dX3_line_28 (k_X3_personLine X.1.2.1 hl X.2.2.1 l0 l1 M _ e38) ?_
      refine q_goto (tgt := 92) C dX3_line_31 (by decide) ?_
      cases h
      exact q_vret C kf dX3_line_92
  · have h := ifF c4 h
    refine q_aload_n 0 C dX3_line_9 rfl ?_
    refine q_aload_n 1 C dX3_line_10 rfl ?_
    obtain ⟨e41, h⟩ := ckOE h
    obtain ⟨M43, e42, h⟩ := bindE h
    refine q_callV (v := none) [.ref l1] C hRO lk_RX3_100 vk_X3_houseLine e41 rfl rfl rfl (Nat.le_of_ble_eq_true rfl) (by decide) (by decide) dX3_line_11 (k_X3_houseLine X.1.2.1 hl X.2.2.1 l0 l1 M _ e42) ?_
    refine q_goto (tgt := 92) C dX3_line_14 (by decide) ?_
    cases h
    exact q_vret C kf dX3_line_92
theorem k_X3_line (l : Launch) (hl : l.stackTraces = false) (G : GG) (l0 : Nat) (l1 : Nat) (M : Mem) (x : Mem) (h : F_X3_line l0 l1 M = some x) : Ct l G yX3_line (.code yX3_line cX3_line 2 none) 77 1943 [.ref l0, .ref l1] M (rs_mV x) (ms_mV x) := by
  refine Ct_of (by decide +kernel) (Nat.le_of_ble_eq_true rfl) fun X e1 e2 e3 C FN hnm => ?_
  subst e1; subst e2
  show wq X 2 0 [(0, .ref l0), (1, .ref l1)] [] M
  exact w_X3_line C FN.2.2.2 hl l0 l1 M h FN
/-! X3_takeSign -/
set_option maxRecDepth 100000 in
set_option maxHeartbeats 4000000 in
theorem w_X3_takeSign {X : CX} {y : Mem} (C : CK X cX3_takeSign 2 RX3 9 183) (hRO : RO X.2.2.1 X.1.2.2.2.2.1 X.1.2.2.2.2.1.heap) (hl : X.1.2.1.stackTraces = false) (l0 : Nat) (l1 : Int32) (M : Mem) (h : F_X3_takeSign l0 l1 M = some y) (kf : FIN X none (rs_mV y) (ms_mV y)) : wq X 2 0 [(0, .ref l0), (1, .int l1)] [] M := by
  unfold F_X3_takeSign at h
  refine q_aload_n 0 C dX3_takeSign_0 rfl ?_
  refine q_iload_n 1 C dX3_takeSign_1 rfl ?_
  obtain ⟨e1, h⟩ := ckOE h
  obtain ⟨v3, e2, h⟩ := bindE h
  refine q_callV (v := some (.int v3)) [.int l1] C hRO lk_RX3_86 vk_X3_isSign e1 rfl rfl rfl (Nat.le_of_ble_eq_true rfl) (by decide) (by decide) dX3_takeSign_2 (k_X3_isSign X.1.2.1 hl X.2.2.1 l0 l1 M _ e2) ?_
  refine q_if_eq (tgt := 22) C dX3_takeSign_5 (by decide) (fun c4 => ?_) (fun c4 => ?_)
  · have h := ifT c4 h
    refine q_aload_n 0 C dX3_takeSign_22 rfl ?_
    refine q_iconst (v := (1 : Int32)) C dX3_takeSign_23 (by decide) ?_
    obtain ⟨e5, h⟩ := ckOE h
    obtain ⟨M7, e6, h⟩ := bindE h
    refine q_callV (v := none) [.int (1 : Int32)] C hRO lk_RX3_90 vk_X3_fail e5 rfl rfl rfl (Nat.le_of_ble_eq_true rfl) (by decide) (by decide) dX3_takeSign_24 (k_X3_fail X.1.2.1 hl X.2.2.1 l0 (1 : Int32) M _ e6) ?_
    cases h
    exact q_vret C kf dX3_takeSign_27
  · have h := ifF c4 h
    refine q_aload_n 0 C dX3_takeSign_8 rfl ?_
    obtain ⟨v9, e10, h⟩ := bindE h
    refine q_getI C fl_RX3_22 rfl e10 dX3_takeSign_9 ?_
    refine q_if_ne (tgt := 22) C dX3_takeSign_12 (by decide) (fun c11 => ?_) (fun c11 => ?_)
    · have h := ifF c11 h
      refine q_aload_n 0 C dX3_takeSign_22 rfl ?_
      refine q_iconst (v := (1 : Int32)) C dX3_takeSign_23 (by decide) ?_
      obtain ⟨e12, h⟩ := ckOE h
      obtain ⟨M14, e13, h⟩ := bindE h
      refine q_callV (v := none) [.int (1 : Int32)] C hRO lk_RX3_90 vk_X3_fail e12 rfl rfl rfl (Nat.le_of_ble_eq_true rfl) (by decide) (by decide) dX3_takeSign_24 (k_X3_fail X.1.2.1 hl X.2.2.1 l0 (1 : Int32) M _ e13) ?_
      cases h
      exact q_vret C kf dX3_takeSign_27
    · have h := ifT c11 h
      refine q_aload_n 0 C dX3_takeSign_15 rfl ?_
      obtain ⟨e16, h⟩ := ckOE h
      obtain ⟨M18, e17, h⟩ := bindE h
      refine q_callV (v := none) [] C hRO lk_RX3_62 vk_X3_advance e16 rfl rfl rfl (Nat.le_of_ble_eq_true rfl) (by decide) (by decide) dX3_takeSign_16 (k_X3_advance X.1.2.1 hl X.2.2.1 l0 M _ e17) ?_
      refine q_goto (tgt := 27) C dX3_takeSign_19 (by decide) ?_
      cases h
      exact q_vret C kf dX3_takeSign_27
theorem k_X3_takeSign (l : Launch) (hl : l.stackTraces = false) (G : GG) (l0 : Nat) (l1 : Int32) (M : Mem) (x : Mem) (h : F_X3_takeSign l0 l1 M = some x) : Ct l G yX3_takeSign (.code yX3_takeSign cX3_takeSign 2 none) 9 183 [.ref l0, .int l1] M (rs_mV x) (ms_mV x) := by
  refine Ct_of (by decide +kernel) (Nat.le_of_ble_eq_true rfl) fun X e1 e2 e3 C FN hnm => ?_
  subst e1; subst e2
  show wq X 2 0 [(0, .ref l0), (1, .int l1)] [] M
  exact w_X3_takeSign C FN.2.2.2 hl l0 l1 M h FN
/-! X3_read -/
set_option maxRecDepth 100000 in
set_option maxHeartbeats 4000000 in
theorem w_X3_read_s42 {X : CX} {y : (Int32 × Mem) ⊕ (Mem)} (C : CK X cX3_read 4 RX3 78 1964) (hRO : RO X.2.2.1 X.1.2.2.2.2.1 X.1.2.2.2.2.1.heap) (hl : X.1.2.1.stackTraces = false) (l0 : Nat) (l2 : Nat) (l3 : Int32) (M : Mem) (h : F_X3_read_s42 l0 l2 l3 M = some y) (kc : ∀ s' : Int32 × Mem, y = .inl s' → wq X 4 42 [(0, .ref l0), (2, .ref l2), (3, .int (s'.1))] [] s'.2) (kx : ∀ e' : Mem, y = (.inr e') → wq X 4 80 [(0, .ref l0)] [] e') : wq X 4 42 [(0, .ref l0), (2, .ref l2), (3, .int l3)] [] M := by
  unfold F_X3_read_s42 at h
  refine q_iload_n 2 C dX3_read_42 rfl ?_
  refine q_sipush (v := (700 : Int32)) C dX3_read_43 (by decide) ?_
  refine q_icmp_ge (tgt := 80) C dX3_read_46 (by decide) (fun c21 => ?_) (fun c21 => ?_)
  · have h := ifT c21 h
    exact q_sub (lv' := [(0, .ref l0)]) [0] rfl (kx M (someI h))
  · have h := ifF c21 h
    refine q_aload_n 0 C dX3_read_49 rfl ?_
    obtain ⟨v22, e23, h⟩ := bindE h
    refine q_getI C fl_RX3_28 rfl e23 dX3_read_50 ?_
    refine q_if_eq (tgt := 80) C dX3_read_53 (by decide) (fun c24 => ?_) (fun c24 => ?_)
    · have h := ifT c24 h
      exact q_sub (lv' := [(0, .ref l0)]) [0] rfl (kx M (someI h))
    · have h := ifF c24 h
      refine q_aload_n 0 C dX3_read_56 rfl ?_
      obtain ⟨v25, e26, h⟩ := bindE h
      refine q_getI C fl_RX3_22 rfl e26 dX3_read_57 ?_
      refine q_if_ne (tgt := 80) C dX3_read_60 (by decide) (fun c27 => ?_) (fun c27 => ?_)
      · have h := ifF c27 h
        exact q_sub (lv' := [(0, .ref l0)]) [0] rfl (kx M (someI h))
      · have h := ifT c27 h
        refine q_aload_n 0 C dX3_read_63 rfl ?_
        refine q_aload_n 1 C dX3_read_64 rfl ?_
        obtain ⟨e28, h⟩ := ckOE h
        obtain ⟨M30, e29, h⟩ := bindE h
        refine q_callV (v := none) [.ref l2] C hRO lk_RX3_65 vk_X3_line e28 rfl rfl rfl (Nat.le_of_ble_eq_true rfl) (by decide) (by decide) dX3_read_65 (k_X3_line X.1.2.1 hl X.2.2.1 l0 l2 M _ e29) ?_
        refine q_aload_n 0 C dX3_read_68 rfl ?_
        refine q_bipush (v := (59 : Int32)) C dX3_read_69 (by decide) ?_
        obtain ⟨e32, h⟩ := ckOE h
        obtain ⟨M34, e33, h⟩ := bindE h
        refine q_callV (v := none) [.int (59 : Int32)] C hRO lk_RX3_69 vk_X3_takeSign e32 rfl rfl rfl (Nat.le_of_ble_eq_true rfl) (by decide) (by decide) dX3_read_71 (k_X3_takeSign X.1.2.1 hl X.2.2.1 l0 (59 : Int32) M30 _ e33) ?_
        refine q_iinc 2 (v := (l3 + (1 : Int32))) (lv' := [(3, .int (l3 + (1 : Int32))), (0, .ref l0), (2, .ref l2)]) C dX3_read_74 rfl rfl (by decide) rfl ?_
        refine q_goto (tgt := 42) C dX3_read_77 (by decide) ?_
        exact q_sub (lv' := [(0, .ref l0), (2, .ref l2), (3, .int (l3 + (1 : Int32)))]) [1, 2, 0] rfl (kc ((l3 + (1 : Int32)), M34) (someI h))
theorem w_X3_read_l42 {X : CX} {r : Mem} (C : CK X cX3_read 4 RX3 78 1964) (hRO : RO X.2.2.1 X.1.2.2.2.2.1 X.1.2.2.2.2.1.heap) (hl : X.1.2.1.stackTraces = false) (l0 : Nat) (l2 : Nat) (l3 : Int32) (M : Mem) (h : loop (fun s => F_X3_read_s42 l0 l2 s.1 s.2) (l3, M) = some r) (kx : ∀ e' : Mem, r = e' → wq X 4 80 [(0, .ref l0)] [] e') : wq X 4 42 [(0, .ref l0), (2, .ref l2), (3, .int l3)] [] M :=
  loop_ind (P := fun s => wq X 4 42 [(0, .ref l0), (2, .ref l2), (3, .int s.1)] [] s.2) h (fun s y hy kc kr => w_X3_read_s42 C hRO hl l0 l2 s.1 s.2 hy kc (fun e' he => kx e' (kr _ he).symm))
set_option maxRecDepth 100000 in
set_option maxHeartbeats 4000000 in
theorem w_X3_read {X : CX} {y : Int32 × Mem} (C : CK X cX3_read 4 RX3 78 1964) (hRO : RO X.2.2.1 X.1.2.2.2.2.1 X.1.2.2.2.2.1.heap) (hl : X.1.2.1.stackTraces = false) (l0 : Nat) (l1 : Int32) (l2 : Nat) (M : Mem) (h : F_X3_read l0 l1 l2 M = some y) (kf : FIN X (some .int) (rs_mI y) (ms_mI y)) : wq X 4 0 [(0, .ref l0), (1, .int l1), (2, .ref l2)] [] M := by
  unfold F_X3_read at h
  refine q_aload_n 0 C dX3_read_0 rfl ?_
  refine q_iload_n 1 C dX3_read_1 rfl ?_
  refine q_aload_n 0 C dX3_read_2 rfl ?_
  obtain ⟨v1, e2, h⟩ := bindE h
  refine q_getI C fl_RX3_15 rfl e2 dX3_read_3 ?_
  refine q_mmin C ml_RX3_51 mm_min1 mm_3 mm_min4 (by decide) (Nat.le_of_ble_eq_true rfl) dX3_read_6 ?_
  obtain ⟨M3, e4, h⟩ := bindE h
  refine q_putI C fp_RX3_19 rfl e4 dX3_read_9 ?_
  refine q_aload_n 0 C dX3_read_12 rfl ?_
  refine q_iconst (v := (0 : Int32)) C dX3_read_13 (by decide) ?_
  obtain ⟨M5, e6, h⟩ := bindE h
  refine q_putI C fp_RX3_15 rfl e6 dX3_read_14 ?_
  refine q_aload_n 0 C dX3_read_17 rfl ?_
  refine q_iconst (v := (0 : Int32)) C dX3_read_18 (by decide) ?_
  obtain ⟨M7, e8, h⟩ := bindE h
  refine q_putI C fp_RX3_22 rfl e8 dX3_read_19 ?_
  refine q_aload_n 0 C dX3_read_22 rfl ?_
  refine q_iconst (v := (-1 : Int32)) C dX3_read_23 (by decide) ?_
  obtain ⟨M9, e10, h⟩ := bindE h
  refine q_putI C fp_RX3_25 rfl e10 dX3_read_24 ?_
  refine q_aload_n 0 C dX3_read_27 rfl ?_
  refine q_iconst (v := (0 : Int32)) C dX3_read_28 (by decide) ?_
  obtain ⟨M11, e12, h⟩ := bindE h
  refine q_putI C fp_RX3_34 rfl e12 dX3_read_29 ?_
  refine q_aload_n 2 C dX3_read_32 rfl ?_
  obtain ⟨e13, h⟩ := ckOE h
  obtain ⟨M15, e14, h⟩ := bindE h
  refine q_callV (v := none) [] C hRO lk_RX3_57 vk_X2_clear e13 rfl rfl rfl (Nat.le_of_ble_eq_true rfl) (by decide) (by decide) dX3_read_33 (k_X2_clear X.1.2.1 hl X.2.2.1 l2 M11 _ e14) ?_
  refine q_aload_n 0 C dX3_read_36 rfl ?_
  obtain ⟨e17, h⟩ := ckOE h
  obtain ⟨M19, e18, h⟩ := bindE h
  refine q_callV (v := none) [] C hRO lk_RX3_62 vk_X3_advance e17 rfl rfl rfl (Nat.le_of_ble_eq_true rfl) (by decide) (by decide) dX3_read_37 (k_X3_advance X.1.2.1 hl X.2.2.1 l0 M15 _ e18) ?_
  refine q_iconst (v := (0 : Int32)) C dX3_read_40 (by decide) ?_
  refine q_istore_n (i := 3) (lv' := [(3, .int (0 : Int32)), (0, .ref l0), (1, .int l1), (2, .ref l2)]) C dX3_read_41 rfl (by decide) rfl ?_
  obtain ⟨M38, e37, h⟩ := bindE h
  refine q_sub (lv' := [(0, .ref l0), (2, .ref l2), (3, .int (0 : Int32))]) [1, 3, 0] rfl (w_X3_read_l42 C hRO hl l0 l2 (0 : Int32) M19 e37 (fun r36 he => ?_))
  subst he
  show wq X 4 80 [(0, .ref l0)] [] M38
  refine q_aload_n 0 C dX3_read_80 rfl ?_
  obtain ⟨v39, e40, h⟩ := bindE h
  refine q_getI C fl_RX3_22 rfl e40 dX3_read_81 ?_
  cases h
  exact q_iret C kf dX3_read_84
theorem k_X3_read (l : Launch) (hl : l.stackTraces = false) (G : GG) (l0 : Nat) (l1 : Int32) (l2 : Nat) (M : Mem) (x : Int32 × Mem) (h : F_X3_read l0 l1 l2 M = some x) : Ct l G yX3_read (.code yX3_read cX3_read 4 (some .int)) 78 1964 [.ref l0, .int l1, .ref l2] M (rs_mI x) (ms_mI x) := by
  refine Ct_of (by decide +kernel) (Nat.le_of_ble_eq_true rfl) fun X e1 e2 e3 C FN hnm => ?_
  subst e1; subst e2
  show wq X 4 0 [(0, .ref l0), (1, .int l1), (2, .ref l2)] [] M
  exact w_X3_read C FN.2.2.2 hl l0 l1 l2 M h FN
