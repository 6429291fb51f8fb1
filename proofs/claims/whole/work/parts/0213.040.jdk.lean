/-! J7_fill_53178 -/
set_option maxRecDepth 100000 in
set_option maxHeartbeats 4000000 in
theorem w_J7_fill_53178_s5 {X : CX} {y : (Int32 × Mem) ⊕ (Mem)} (C : CK X cJ7_fill_53178 4 RJ7 7 140) (hRO : RO X.2.2.1 X.1.2.2.2.2.1 X.1.2.2.2.2.1.heap) (hl : X.1.2.1.stackTraces = false) (l0 : Nat) (l1 : Int32) (l3 : Int32) (l2 : Int32) (M : Mem) (h : F_J7_fill_53178_s5 l0 l1 l3 l2 M = some y) (kc : ∀ s' : Int32 × Mem, y = .inl s' → wq X 4 5 [(0, .ref l0), (1, .int l1), (2, .int (s'.1)), (3, .int l3)] [] s'.2) (kx : ∀ e' : Mem, y = (.inr e') → wq X 4 20 [] [] e') : wq X 4 5 [(0, .ref l0), (1, .int l1), (2, .int l2), (3, .int l3)] [] M := by
  unfold F_J7_fill_53178_s5 at h
  refine q_iload_n 2 C dJ7_fill_53178_5 rfl ?_
  refine q_iload_n 3 C dJ7_fill_53178_6 rfl ?_
  refine q_icmp_ge (tgt := 20) C dJ7_fill_53178_7 (by decide) (fun c3 => ?_) (fun c3 => ?_)
  · have h := ifT c3 h
    exact q_sub (lv' := []) [] rfl (kx M (someI h))
  · have h := ifF c3 h
    refine q_aload_n 0 C dJ7_fill_53178_10 rfl ?_
    refine q_iload_n 2 C dJ7_fill_53178_11 rfl ?_
    refine q_iload_n 1 C dJ7_fill_53178_12 rfl ?_
    obtain ⟨M4, e5, h⟩ := bindE h
    refine q_iastore C e5 dJ7_fill_53178_13 ?_
    refine q_iinc 2 (v := (l2 + (1 : Int32))) (lv' := [(2, .int (l2 + (1 : Int32))), (0, .ref l0), (1, .int l1), (3, .int l3)]) C dJ7_fill_53178_14 rfl rfl (by decide) rfl ?_
    refine q_goto (tgt := 5) C dJ7_fill_53178_17 (by decide) ?_
    exact q_sub (lv' := [(0, .ref l0), (1, .int l1), (2, .int (l2 + (1 : Int32))), (3, .int l3)]) [1, 2, 0, 3] rfl (kc ((l2 + (1 : Int32)), M4) (someI h))
theorem w_J7_fill_53178_l5 {X : CX} {r : Mem} (C : CK X cJ7_fill_53178 4 RJ7 7 140) (hRO : RO X.2.2.1 X.1.2.2.2.2.1 X.1.2.2.2.2.1.heap) (hl : X.1.2.1.stackTraces = false) (l0 : Nat) (l1 : Int32) (l3 : Int32) (l2 : Int32) (M : Mem) (h : loop (fun s => F_J7_fill_53178_s5 l0 l1 l3 s.1 s.2) (l2, M) = some r) (kx : ∀ e' : Mem, r = e' → wq X 4 20 [] [] e') : wq X 4 5 [(0, .ref l0), (1, .int l1), (2, .int l2), (3, .int l3)] [] M :=
  loop_ind (P := fun s => wq X 4 5 [(0, .ref l0), (1, .int l1), (2, .int s.1), (3, .int l3)] [] s.2) h (fun s y hy kc kr => w_J7_fill_53178_s5 C hRO hl l0 l1 l3 s.1 s.2 hy kc (fun e' he => kx e' (kr _ he).symm))
set_option maxRecDepth 100000 in
set_option maxHeartbeats 4000000 in
theorem w_J7_fill_53178 {X : CX} {y : Mem} (C : CK X cJ7_fill_53178 4 RJ7 7 140) (hRO : RO X.2.2.1 X.1.2.2.2.2.1 X.1.2.2.2.2.1.heap) (hl : X.1.2.1.stackTraces = false) (l0 : Nat) (l1 : Int32) (M : Mem) (h : F_J7_fill_53178 l0 l1 M = some y) (kf : FIN X none (rs_mV y) (ms_mV y)) : wq X 4 0 [(0, .ref l0), (1, .int l1)] [] M := by
  unfold F_J7_fill_53178 at h
  refine q_iconst (v := (0 : Int32)) C dJ7_fill_53178_0 (by decide) ?_
  refine q_istore_n (i := 2) (lv' := [(2, .int (0 : Int32)), (0, .ref l0), (1, .int l1)]) C dJ7_fill_53178_1 rfl (by decide) rfl ?_
  refine q_aload_n 1 C dJ7_fill_53178_2 rfl ?_
  obtain ⟨v1, e2, h⟩ := bindE h
  refine q_alen 0 100 C rfl (by decide) (by decide) e2 dJ7_fill_53178_3 ?_
  refine q_istore_n (i := 3) (lv' := [(3, .int v1), (2, .int (0 : Int32)), (0, .ref l0), (1, .int l1)]) C dJ7_fill_53178_4 rfl (by decide) rfl ?_
  obtain ⟨M8, e7, h⟩ := bindE h
  refine q_sub (lv' := [(0, .ref l0), (1, .int l1), (2, .int (0 : Int32)), (3, .int v1)]) [2, 3, 1, 0] rfl (w_J7_fill_53178_l5 C hRO hl l0 l1 v1 (0 : Int32) M e7 (fun r6 he => ?_))
  subst he
  show wq X 4 20 [] [] M8
  cases h
  exact q_vret C kf dJ7_fill_53178_20
theorem k_J7_fill_53178 (l : Launch) (hl : l.stackTraces = false) (G : GG) (l0 : Nat) (l1 : Int32) (M : Mem) (x : Mem) (h : F_J7_fill_53178 l0 l1 M = some x) : Ct l G yJ7_fill_53178 (.code yJ7_fill_53178 cJ7_fill_53178 4 none) 7 140 [.ref l0, .int l1] M (rs_mV x) (ms_mV x) := by
  refine Ct_of (by decide +kernel) (Nat.le_of_ble_eq_true rfl) fun X e1 e2 e3 C FN hnm => ?_
  subst e1; subst e2
  show wq X 4 0 [(0, .ref l0), (1, .int l1)] [] M
  exact w_J7_fill_53178 C FN.2.2.2 hl l0 l1 M h FN
/-! J9_floorMod_7cf53 -/
set_option maxRecDepth 100000 in
set_option maxHeartbeats 4000000 in
theorem w_J9_floorMod_7cf53 {X : CX} {y : Int32} (C : CK X cJ9_floorMod_7cf53 3 RJ9 7 140) (hRO : RO X.2.2.1 X.1.2.2.2.2.1 X.1.2.2.2.2.1.heap) (hl : X.1.2.1.stackTraces = false) (l0 : Int32) (l1 : Int32) (M : Mem) (h : F_J9_floorMod_7cf53 l0 l1 M = some y) (kf : FIN X (some .int) (rs_pI y) M) : wq X 3 0 [(0, .int l0), (1, .int l1)] [] M := by
  unfold F_J9_floorMod_7cf53 at h
  refine q_iload_n 0 C dJ9_floorMod_7cf53_0 rfl ?_
  refine q_iload_n 1 C dJ9_floorMod_7cf53_1 rfl ?_
  have c3 : ¬ l1 = 0 := fun c => nomatch ifT c h
  have h := ifF c3 h
  refine q_irem C c3 dJ9_floorMod_7cf53_2 ?_
  refine q_istore_n (i := 2) (lv' := [(2, .int (l0 - l0 / l1 * l1)), (0, .int l0), (1, .int l1)]) C dJ9_floorMod_7cf53_3 rfl (by decide) rfl ?_
  refine q_iload_n 1 C dJ9_floorMod_7cf53_4 rfl ?_
  refine q_iload_n 2 C dJ9_floorMod_7cf53_5 rfl ?_
  refine q_ixor C dJ9_floorMod_7cf53_6 ?_
  refine q_if_ge (tgt := 18) C dJ9_floorMod_7cf53_7 (by decide) (fun c1 => ?_) (fun c1 => ?_)
  · have h := ifT c1 h
    refine q_iload_n 0 C dJ9_floorMod_7cf53_18 rfl ?_
    cases h
    exact q_iret C kf dJ9_floorMod_7cf53_19
  · have h := ifF c1 h
    refine q_iload_n 0 C dJ9_floorMod_7cf53_10 rfl ?_
    refine q_if_eq (tgt := 18) C dJ9_floorMod_7cf53_11 (by decide) (fun c2 => ?_) (fun c2 => ?_)
    · have h := ifT c2 h
      refine q_iload_n 0 C dJ9_floorMod_7cf53_18 rfl ?_
      cases h
      exact q_iret C kf dJ9_floorMod_7cf53_19
    · have h := ifF c2 h
      refine q_iload_n 0 C dJ9_floorMod_7cf53_14 rfl ?_
      refine q_iload_n 2 C dJ9_floorMod_7cf53_15 rfl ?_
      refine q_iadd C dJ9_floorMod_7cf53_16 ?_
      cases h
      exact q_iret C kf dJ9_floorMod_7cf53_17
theorem k_J9_floorMod_7cf53 (l : Launch) (hl : l.stackTraces = false) (G : GG) (l0 : Int32) (l1 : Int32) (M : Mem) (x : Int32) (h : F_J9_floorMod_7cf53 l0 l1 M = some x) : Ct l G yJ9_floorMod_7cf53 (.code yJ9_floorMod_7cf53 cJ9_floorMod_7cf53 3 (some .int)) 7 140 [.int l0, .int l1] M (rs_pI x) M := by
  refine Ct_of (by decide +kernel) (Nat.le_of_ble_eq_true rfl) fun X e1 e2 e3 C FN hnm => ?_
  subst e1; subst e2
  show wq X 3 0 [(0, .int l0), (1, .int l1)] [] M
  exact w_J9_floorMod_7cf53 C FN.2.2.2 hl l0 l1 M h FN
/-! J13_bitCount_95d88 -/
set_option maxRecDepth 100000 in
set_option maxHeartbeats 4000000 in
theorem w_J13_bitCount_95d88 {X : CX} {y : Int32} (C : CK X cJ13_bitCount_95d88 2 RJ13 7 140) (hRO : RO X.2.2.1 X.1.2.2.2.2.1 X.1.2.2.2.2.1.heap) (hl : X.1.2.1.stackTraces = false) (l0 : Int64) (M : Mem) (h : F_J13_bitCount_95d88 l0 M = some y) (kf : FIN X (some .int) (rs_pI y) M) : wq X 2 0 [(0, .long l0)] [] M := by
  unfold F_J13_bitCount_95d88 at h
  refine q_lload_n 0 C dJ13_bitCount_95d88_0 rfl ?_
  refine q_lload_n 0 C dJ13_bitCount_95d88_1 rfl ?_
  refine q_iconst (v := (1 : Int32)) C dJ13_bitCount_95d88_2 (by decide) ?_
  refine q_lushr (v := ((l0).toUInt64 >>> (((1 : Int32)).toInt64.toUInt64 &&& Int64.toUInt64 63)).toInt64) C rfl dJ13_bitCount_95d88_3 ?_
  refine q_ldc2 (v := (6148914691236517205 : Int64)) C cn_RJ13_314 dJ13_bitCount_95d88_4 ?_
  refine q_land C dJ13_bitCount_95d88_7 ?_
  refine q_lsub C dJ13_bitCount_95d88_8 ?_
  obtain ⟨n1, e2, h⟩ := nmE h
  refine q_topL e2 ?_
  refine q_lstore_n (i := 0) (lv' := [(0, .long n1)]) C dJ13_bitCount_95d88_9 rfl (by decide) rfl ?_
  refine q_lload_n 0 C dJ13_bitCount_95d88_10 rfl ?_
  refine q_ldc2 (v := (3689348814741910323 : Int64)) C cn_RJ13_316 dJ13_bitCount_95d88_11 ?_
  refine q_land C dJ13_bitCount_95d88_14 ?_
  refine q_lload_n 0 C dJ13_bitCount_95d88_15 rfl ?_
  refine q_iconst (v := (2 : Int32)) C dJ13_bitCount_95d88_16 (by decide) ?_
  refine q_lushr (v := ((n1).toUInt64 >>> (((2 : Int32)).toInt64.toUInt64 &&& Int64.toUInt64 63)).toInt64) C rfl dJ13_bitCount_95d88_17 ?_
  refine q_ldc2 (v := (3689348814741910323 : Int64)) C cn_RJ13_316 dJ13_bitCount_95d88_18 ?_
  refine q_land C dJ13_bitCount_95d88_21 ?_
  refine q_ladd C dJ13_bitCount_95d88_22 ?_
  obtain ⟨n3, e4, h⟩ := nmE h
  refine q_topL e4 ?_
  refine q_lstore_n (i := 0) (lv' := [(0, .long n3)]) C dJ13_bitCount_95d88_23 rfl (by decide) rfl ?_
  refine q_lload_n 0 C dJ13_bitCount_95d88_24 rfl ?_
  refine q_lload_n 0 C dJ13_bitCount_95d88_25 rfl ?_
  refine q_iconst (v := (4 : Int32)) C dJ13_bitCount_95d88_26 (by decide) ?_
  refine q_lushr (v := ((n3).toUInt64 >>> (((4 : Int32)).toInt64.toUInt64 &&& Int64.toUInt64 63)).toInt64) C rfl dJ13_bitCount_95d88_27 ?_
  refine q_ladd C dJ13_bitCount_95d88_28 ?_
  refine q_ldc2 (v := (1085102592571150095 : Int64)) C cn_RJ13_318 dJ13_bitCount_95d88_29 ?_
  refine q_land C dJ13_bitCount_95d88_32 ?_
  obtain ⟨n5, e6, h⟩ := nmE h
  refine q_topL e6 ?_
  refine q_lstore_n (i := 0) (lv' := [(0, .long n5)]) C dJ13_bitCount_95d88_33 rfl (by decide) rfl ?_
  refine q_lload_n 0 C dJ13_bitCount_95d88_34 rfl ?_
  refine q_lload_n 0 C dJ13_bitCount_95d88_35 rfl ?_
  refine q_bipush (v := (8 : Int32)) C dJ13_bitCount_95d88_36 (by decide) ?_
  refine q_lushr (v := ((n5).toUInt64 >>> (((8 : Int32)).toInt64.toUInt64 &&& Int64.toUInt64 63)).toInt64) C rfl dJ13_bitCount_95d88_38 ?_
  refine q_ladd C dJ13_bitCount_95d88_39 ?_
  obtain ⟨n7, e8, h⟩ := nmE h
  refine q_topL e8 ?_
  refine q_lstore_n (i := 0) (lv' := [(0, .long n7)]) C dJ13_bitCount_95d88_40 rfl (by decide) rfl ?_
  refine q_lload_n 0 C dJ13_bitCount_95d88_41 rfl ?_
  refine q_lload_n 0 C dJ13_bitCount_95d88_42 rfl ?_
  refine q_bipush (v := (16 : Int32)) C dJ13_bitCount_95d88_43 (by decide) ?_
  refine q_lushr (v := ((n7).toUInt64 >>> (((16 : Int32)).toInt64.toUInt64 &&& Int64.toUInt64 63)).toInt64) C rfl dJ13_bitCount_95d88_45 ?_
  refine q_ladd C dJ13_bitCount_95d88_46 ?_
  obtain ⟨n9, e10, h⟩ := nmE h
  refine q_topL e10 ?_
  refine q_lstore_n (i := 0) (lv' := [(0, .long n9)]) C dJ13_bitCount_95d88_47 rfl (by decide) rfl ?_
  refine q_lload_n 0 C dJ13_bitCount_95d88_48 rfl ?_
  refine q_lload_n 0 C dJ13_bitCount_95d88_49 rfl ?_
  refine q_bipush (v := (32 : Int32)) C dJ13_bitCount_95d88_50 (by decide) ?_
  refine q_lushr (v := ((n9).toUInt64 >>> (((32 : Int32)).toInt64.toUInt64 &&& Int64.toUInt64 63)).toInt64) C rfl dJ13_bitCount_95d88_52 ?_
  refine q_ladd C dJ13_bitCount_95d88_53 ?_
  obtain ⟨n11, e12, h⟩ := nmE h
  refine q_topL e12 ?_
  refine q_lstore_n (i := 0) (lv' := [(0, .long n11)]) C dJ13_bitCount_95d88_54 rfl (by decide) rfl ?_
  refine q_lload_n 0 C dJ13_bitCount_95d88_55 rfl ?_
  refine q_l2i C dJ13_bitCount_95d88_56 ?_
  refine q_bipush (v := (127 : Int32)) C dJ13_bitCount_95d88_57 (by decide) ?_
  refine q_iand C dJ13_bitCount_95d88_59 ?_
  cases h
  exact q_iret C kf dJ13_bitCount_95d88_60
theorem k_J13_bitCount_95d88 (l : Launch) (hl : l.stackTraces = false) (G : GG) (l0 : Int64) (M : Mem) (x : Int32) (h : F_J13_bitCount_95d88 l0 M = some x) : Ct l G yJ13_bitCount_95d88 (.code yJ13_bitCount_95d88 cJ13_bitCount_95d88 2 (some .int)) 7 140 [.long l0] M (rs_pI x) M := by
  refine Ct_of (by decide +kernel) (Nat.le_of_ble_eq_true rfl) fun X e1 e2 e3 C FN hnm => ?_
  subst e1; subst e2
  show wq X 2 0 [(0, .long l0)] [] M
  exact w_J13_bitCount_95d88 C FN.2.2.2 hl l0 M h FN
/-! J7_copyOf_59c91 -/
set_option maxRecDepth 100000 in
set_option maxHeartbeats 4000000 in
theorem w_J7_copyOf_59c91 {X : CX} {y : Nat × Mem} (C : CK X cJ7_copyOf_59c91 3 RJ7 7 140) (hRO : RO X.2.2.1 X.1.2.2.2.2.1 X.1.2.2.2.2.1.heap) (hl : X.1.2.1.stackTraces = false) (l0 : Nat) (l1 : Int32) (M : Mem) (h : F_J7_copyOf_59c91 l0 l1 M = some y) (kf : FIN X (some (.array .int)) (rs_mR y) (ms_mR y)) : wq X 3 0 [(0, .ref l0), (1, .int l1)] [] M := by
  unfold F_J7_copyOf_59c91 at h
  refine q_iload_n 1 C dJ7_copyOf_59c91_0 rfl ?_
  refine q_aload_n 0 C dJ7_copyOf_59c91_1 rfl ?_
  obtain ⟨v1, e2, h⟩ := bindE h
  refine q_alen 0 100 C rfl (by decide) (by decide) e2 dJ7_copyOf_59c91_2 ?_
  refine q_icmp_ne (tgt := 14) C dJ7_copyOf_59c91_3 (by decide) (fun c3 => ?_) (fun c3 => ?_)
  · have h := ifF c3 h
    refine q_iload_n 1 C dJ7_copyOf_59c91_14 rfl ?_
    obtain ⟨M4, e5, h⟩ := bindE h
    refine q_newI C ar_int e5 dJ7_copyOf_59c91_15 ?_
    refine q_astore_n (i := 2) (lv' := [(2, .ref M.1.length), (0, .ref l0), (1, .int l1)]) C dJ7_copyOf_59c91_17 rfl (by decide) rfl ?_
    refine q_aload_n 1 C dJ7_copyOf_59c91_18 rfl ?_
    refine q_iconst (v := (0 : Int32)) C dJ7_copyOf_59c91_19 (by decide) ?_
    refine q_aload_n 0 C dJ7_copyOf_59c91_20 rfl ?_
    refine q_iconst (v := (0 : Int32)) C dJ7_copyOf_59c91_21 (by decide) ?_
    refine q_aload_n 1 C dJ7_copyOf_59c91_22 rfl ?_
    obtain ⟨v6, e7, h⟩ := bindE h
    refine q_alen 0 100 C rfl (by decide) (by decide) e7 dJ7_copyOf_59c91_23 ?_
    refine q_iload_n 2 C dJ7_copyOf_59c91_24 rfl ?_
    refine q_mmin C ml_RJ7_304 mm_min1 mm_3 mm_min4 (by decide) (Nat.le_of_ble_eq_true rfl) dJ7_copyOf_59c91_25 ?_
    obtain ⟨M8, e9, h⟩ := bindE h
    refine q_copy C ml_RJ7_150 ac_1 ac_2 ac_3 (by decide) (Nat.le_of_ble_eq_true rfl) e9 dJ7_copyOf_59c91_28 ?_
    refine q_aload_n 0 C dJ7_copyOf_59c91_31 rfl ?_
    cases h
    exact q_aret (Or.inr ⟨_, rfl⟩) C kf dJ7_copyOf_59c91_32
  · have h := ifT c3 h
    refine q_aload_n 0 C dJ7_copyOf_59c91_6 rfl ?_
    cases h
theorem k_J7_copyOf_59c91 (l : Launch) (hl : l.stackTraces = false) (G : GG) (l0 : Nat) (l1 : Int32) (M : Mem) (x : Nat × Mem) (h : F_J7_copyOf_59c91 l0 l1 M = some x) : Ct l G yJ7_copyOf_59c91 (.code yJ7_copyOf_59c91 cJ7_copyOf_59c91 3 (some (.array .int))) 7 140 [.ref l0, .int l1] M (rs_mR x) (ms_mR x) := by
  refine Ct_of (by decide +kernel) (Nat.le_of_ble_eq_true rfl) fun X e1 e2 e3 C FN hnm => ?_
  subst e1; subst e2
  show wq X 3 0 [(0, .ref l0), (1, .int l1)] [] M
  exact w_J7_copyOf_59c91 C FN.2.2.2 hl l0 l1 M h FN
/-! J6_bitCount_0f7a4 -/
set_option maxRecDepth 100000 in
set_option maxHeartbeats 4000000 in
theorem w_J6_bitCount_0f7a4 {X : CX} {y : Int32} (C : CK X cJ6_bitCount_0f7a4 1 RJ6 7 140) (hRO : RO X.2.2.1 X.1.2.2.2.2.1 X.1.2.2.2.2.1.heap) (hl : X.1.2.1.stackTraces = false) (l0 : Int32) (M : Mem) (h : F_J6_bitCount_0f7a4 l0 M = some y) (kf : FIN X (some .int) (rs_pI y) M) : wq X 1 0 [(0, .int l0)] [] M := by
  unfold F_J6_bitCount_0f7a4 at h
  refine q_iload_n 0 C dJ6_bitCount_0f7a4_0 rfl ?_
  refine q_iload_n 0 C dJ6_bitCount_0f7a4_1 rfl ?_
  refine q_iconst (v := (1 : Int32)) C dJ6_bitCount_0f7a4_2 (by decide) ?_
  refine q_iushr C dJ6_bitCount_0f7a4_3 ?_
  refine q_ldcw (v := (1431655765 : Int32)) C cn_RJ6_265 dJ6_bitCount_0f7a4_4 ?_
  refine q_iand C dJ6_bitCount_0f7a4_7 ?_
  refine q_isub C dJ6_bitCount_0f7a4_8 ?_
  obtain ⟨n1, e2, h⟩ := nmE h
  refine q_topI e2 ?_
  refine q_istore_n (i := 0) (lv' := [(0, .int n1)]) C dJ6_bitCount_0f7a4_9 rfl (by decide) rfl ?_
  refine q_iload_n 0 C dJ6_bitCount_0f7a4_10 rfl ?_
  refine q_ldcw (v := (858993459 : Int32)) C cn_RJ6_266 dJ6_bitCount_0f7a4_11 ?_
  refine q_iand C dJ6_bitCount_0f7a4_14 ?_
  refine q_iload_n 0 C dJ6_bitCount_0f7a4_15 rfl ?_
  refine q_iconst (v := (2 : Int32)) C dJ6_bitCount_0f7a4_16 (by decide) ?_
  refine q_iushr C dJ6_bitCount_0f7a4_17 ?_
  refine q_ldcw (v := (858993459 : Int32)) C cn_RJ6_266 dJ6_bitCount_0f7a4_18 ?_
  refine q_iand C dJ6_bitCount_0f7a4_21 ?_
  refine q_iadd C dJ6_bitCount_0f7a4_22 ?_
  obtain ⟨n3, e4, h⟩ := nmE h
  refine q_topI e4 ?_
  refine q_istore_n (i := 0) (lv' := [(0, .int n3)]) C dJ6_bitCount_0f7a4_23 rfl (by decide) rfl ?_
  refine q_iload_n 0 C dJ6_bitCount_0f7a4_24 rfl ?_
  refine q_iload_n 0 C dJ6_bitCount_0f7a4_25 rfl ?_
  refine q_iconst (v := (4 : Int32)) C dJ6_bitCount_0f7a4_26 (by decide) ?_
  refine q_iushr C dJ6_bitCount_0f7a4_27 ?_
  refine q_iadd C dJ6_bitCount_0f7a4_28 ?_
  refine q_ldcw (v := (252645135 : Int32)) C cn_RJ6_267 dJ6_bitCount_0f7a4_29 ?_
  refine q_iand C dJ6_bitCount_0f7a4_32 ?_
  obtain ⟨n5, e6, h⟩ := nmE h
  refine q_topI e6 ?_
  refine q_istore_n (i := 0) (lv' := [(0, .int n5)]) C dJ6_bitCount_0f7a4_33 rfl (by decide) rfl ?_
  refine q_iload_n 0 C dJ6_bitCount_0f7a4_34 rfl ?_
  refine q_iload_n 0 C dJ6_bitCount_0f7a4_35 rfl ?_
  refine q_bipush (v := (8 : Int32)) C dJ6_bitCount_0f7a4_36 (by decide) ?_
  refine q_iushr C dJ6_bitCount_0f7a4_38 ?_
  refine q_iadd C dJ6_bitCount_0f7a4_39 ?_
  obtain ⟨n7, e8, h⟩ := nmE h
  refine q_topI e8 ?_
  refine q_istore_n (i := 0) (lv' := [(0, .int n7)]) C dJ6_bitCount_0f7a4_40 rfl (by decide) rfl ?_
  refine q_iload_n 0 C dJ6_bitCount_0f7a4_41 rfl ?_
  refine q_iload_n 0 C dJ6_bitCount_0f7a4_42 rfl ?_
  refine q_bipush (v := (16 : Int32)) C dJ6_bitCount_0f7a4_43 (by decide) ?_
  refine q_iushr C dJ6_bitCount_0f7a4_45 ?_
  refine q_iadd C dJ6_bitCount_0f7a4_46 ?_
  obtain ⟨n9, e10, h⟩ := nmE h
  refine q_topI e10 ?_
  refine q_istore_n (i := 0) (lv' := [(0, .int n9)]) C dJ6_bitCount_0f7a4_47 rfl (by decide) rfl ?_
  refine q_iload_n 0 C dJ6_bitCount_0f7a4_48 rfl ?_
  refine q_bipush (v := (63 : Int32)) C dJ6_bitCount_0f7a4_49 (by decide) ?_
  refine q_iand C dJ6_bitCount_0f7a4_51 ?_
  cases h
  exact q_iret C kf dJ6_bitCount_0f7a4_52
theorem k_J6_bitCount_0f7a4 (l : Launch) (hl : l.stackTraces = false) (G : GG) (l0 : Int32) (M : Mem) (x : Int32) (h : F_J6_bitCount_0f7a4 l0 M = some x) : Ct l G yJ6_bitCount_0f7a4 (.code yJ6_bitCount_0f7a4 cJ6_bitCount_0f7a4 1 (some .int)) 7 140 [.int l0] M (rs_pI x) M := by
  refine Ct_of (by decide +kernel) (Nat.le_of_ble_eq_true rfl) fun X e1 e2 e3 C FN hnm => ?_
  subst e1; subst e2
  show wq X 1 0 [(0, .int l0)] [] M
  exact w_J6_bitCount_0f7a4 C FN.2.2.2 hl l0 M h FN
