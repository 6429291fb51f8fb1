/-! X9_drops -/
set_option maxRecDepth 100000 in
set_option maxHeartbeats 4000000 in
theorem w_X9_drops_s0 {X : CX} {y : (Mem) ⊕ (Mem)} (C : CK X cX9_drops 2 RX9 8 161) (hRO : RO X.2.2.1 X.1.2.2.2.2.1 X.1.2.2.2.2.1.heap) (hl : X.1.2.1.stackTraces = false) (l0 : Nat) (l1 : Int32)  (M : Mem) (h : F_X9_drops_s0 l0 l1  M = some y) (kc : ∀ s' : Mem, y = .inl s' → wq X 2 0 [(0, .ref l0), (1, .int l1)] [] s') (kx : ∀ e' : Mem, y = (.inr e') → wq X 2 68 [] [] e') : wq X 2 0 [(0, .ref l0), (1, .int l1)] [] M := by
  unfold F_X9_drops_s0 at h
  refine q_aload_n 0 C dX9_drops_0 rfl ?_
  obtain ⟨v1, e2, h⟩ := bindE h
  refine q_getI C fl_RX9_183 rfl e2 dX9_drops_1 ?_
  refine q_if_le (tgt := 68) C dX9_drops_4 (by decide) (fun c3 => ?_) (fun c3 => ?_)
  · have h := ifT c3 h
    exact q_sub (lv' := []) [] rfl (kx M (someI h))
  · have h := ifF c3 h
    refine q_aload_n 0 C dX9_drops_7 rfl ?_
    obtain ⟨v4, e5, h⟩ := bindE h
    refine q_getP C fl_RX9_59 rfl e5 dX9_drops_8 ?_
    refine q_aload_n 0 C dX9_drops_11 rfl ?_
    obtain ⟨v6, e7, h⟩ := bindE h
    refine q_getI C fl_RX9_183 rfl e7 dX9_drops_12 ?_
    refine q_iconst (v := (1 : Int32)) C dX9_drops_15 (by decide) ?_
    refine q_isub C dX9_drops_16 ?_
    obtain ⟨v8, e9, h⟩ := bindE h
    refine q_iaload C e9 dX9_drops_17 ?_
    obtain ⟨v11, e10, h⟩ := bindE h
    refine q_callS (v := some (.int v11)) [.int v8] C hRO lk_RX9_186 sk_X9_isOpen rfl rfl (Nat.le_of_ble_eq_true rfl) (by decide) (by decide) dX9_drops_18 (k_X9_isOpen X.1.2.1 hl X.2.2.1 v8 M _ e10) ?_
    refine q_if_ne (tgt := 68) C dX9_drops_21 (by decide) (fun c12 => ?_) (fun c12 => ?_)
    · have h := ifF c12 h
      exact q_sub (lv' := []) [] rfl (kx M (someI h))
    · have h := ifT c12 h
      refine q_aload_n 0 C dX9_drops_24 rfl ?_
      obtain ⟨v13, e14, h⟩ := bindE h
      refine q_getP C fl_RX9_59 rfl e14 dX9_drops_25 ?_
      refine q_aload_n 0 C dX9_drops_28 rfl ?_
      obtain ⟨v15, e16, h⟩ := bindE h
      refine q_getI C fl_RX9_183 rfl e16 dX9_drops_29 ?_
      refine q_iconst (v := (1 : Int32)) C dX9_drops_32 (by decide) ?_
      refine q_isub C dX9_drops_33 ?_
      obtain ⟨v17, e18, h⟩ := bindE h
      refine q_iaload C e18 dX9_drops_34 ?_
      obtain ⟨v20, e19, h⟩ := bindE h
      refine q_callS (v := some (.int v20)) [.int v17] C hRO lk_RX9_189 sk_X9_strength rfl rfl (Nat.le_of_ble_eq_true rfl) (by decide) (by decide) dX9_drops_35 (k_X9_strength X.1.2.1 hl X.2.2.1 v17 M _ e19) ?_
      refine q_iload_n 1 C dX9_drops_38 rfl ?_
      refine q_icmp_lt (tgt := 68) C dX9_drops_39 (by decide) (fun c21 => ?_) (fun c21 => ?_)
      · have h := ifT c21 h
        exact q_sub (lv' := []) [] rfl (kx M (someI h))
      · have h := ifF c21 h
        refine q_aload_n 0 C dX9_drops_42 rfl ?_
        refine q_dup C dX9_drops_43 rfl ?_
        obtain ⟨v22, e23, h⟩ := bindE h
        refine q_getI C fl_RX9_183 rfl e23 dX9_drops_44 ?_
        refine q_iconst (v := (1 : Int32)) C dX9_drops_47 (by decide) ?_
        refine q_isub C dX9_drops_48 ?_
        obtain ⟨M24, e25, h⟩ := bindE h
        refine q_putI C fp_RX9_183 rfl e25 dX9_drops_49 ?_
        refine q_aload_n 0 C dX9_drops_52 rfl ?_
        refine q_aload_n 0 C dX9_drops_53 rfl ?_
        obtain ⟨v26, e27, h⟩ := bindE h
        refine q_getP C fl_RX9_59 rfl e27 dX9_drops_54 ?_
        refine q_aload_n 0 C dX9_drops_57 rfl ?_
        obtain ⟨v28, e29, h⟩ := bindE h
        refine q_getI C fl_RX9_183 rfl e29 dX9_drops_58 ?_
        obtain ⟨v30, e31, h⟩ := bindE h
        refine q_iaload C e31 dX9_drops_61 ?_
        obtain ⟨e32, h⟩ := ckOE h
        obtain ⟨M34, e33, h⟩ := bindE h
        refine q_callV (v := none) [.int v30] C hRO lk_RX9_192 vk_X9_puts e32 rfl rfl rfl (Nat.le_of_ble_eq_true rfl) (by decide) (by decide) dX9_drops_62 (k_X9_puts X.1.2.1 hl X.2.2.1 l0 v30 M24 _ e33) ?_
        refine q_goto (tgt := 0) C dX9_drops_65 (by decide) ?_
        exact q_sub (lv' := [(0, .ref l0), (1, .int l1)]) [0, 1] rfl (kc M34 (someI h))
theorem w_X9_drops_l0 {X : CX} {r : Mem} (C : CK X cX9_drops 2 RX9 8 161) (hRO : RO X.2.2.1 X.1.2.2.2.2.1 X.1.2.2.2.2.1.heap) (hl : X.1.2.1.stackTraces = false) (l0 : Nat) (l1 : Int32)  (M : Mem) (h : loop (fun s => F_X9_drops_s0 l0 l1 s) M = some r) (kx : ∀ e' : Mem, r = e' → wq X 2 68 [] [] e') : wq X 2 0 [(0, .ref l0), (1, .int l1)] [] M :=
  loop_ind (P := fun s => wq X 2 0 [(0, .ref l0), (1, .int l1)] [] s) h (fun s y hy kc kr => w_X9_drops_s0 C hRO hl l0 l1 s hy kc (fun e' he => kx e' (kr _ he).symm))
set_option maxRecDepth 100000 in
set_option maxHeartbeats 4000000 in
theorem w_X9_drops {X : CX} {y : Mem} (C : CK X cX9_drops 2 RX9 8 161) (hRO : RO X.2.2.1 X.1.2.2.2.2.1 X.1.2.2.2.2.1.heap) (hl : X.1.2.1.stackTraces = false) (l0 : Nat) (l1 : Int32) (M : Mem) (h : F_X9_drops l0 l1 M = some y) (kf : FIN X none (rs_mV y) (ms_mV y)) : wq X 2 0 [(0, .ref l0), (1, .int l1)] [] M := by
  unfold F_X9_drops at h
  obtain ⟨M38, e37, h⟩ := bindE h
  refine q_sub (lv' := [(0, .ref l0), (1, .int l1)]) [0, 1] rfl (w_X9_drops_l0 C hRO hl l0 l1 M e37 (fun r36 he => ?_))
  subst he
  show wq X 2 68 [] [] M38
  cases h
  exact q_vret C kf dX9_drops_68
theorem k_X9_drops (l : Launch) (hl : l.stackTraces = false) (G : GG) (l0 : Nat) (l1 : Int32) (M : Mem) (x : Mem) (h : F_X9_drops l0 l1 M = some x) : Ct l G yX9_drops (.code yX9_drops cX9_drops 2 none) 8 161 [.ref l0, .int l1] M (rs_mV x) (ms_mV x) := by
  refine Ct_of (by decide +kernel) (Nat.le_of_ble_eq_true rfl) fun X e1 e2 e3 C FN hnm => ?_
  subst e1; subst e2
  show wq X 2 0 [(0, .ref l0), (1, .int l1)] [] M
  exact w_X9_drops C FN.2.2.2 hl l0 l1 M h FN
/-! X9_closes -/
set_option maxRecDepth 100000 in
set_option maxHeartbeats 4000000 in
theorem w_X9_closes {X : CX} {y : Mem} (C : CK X cX9_closes 1 RX9 9 182) (hRO : RO X.2.2.1 X.1.2.2.2.2.1 X.1.2.2.2.2.1.heap) (hl : X.1.2.1.stackTraces = false) (l0 : Nat) (M : Mem) (h : F_X9_closes l0 M = some y) (kf : FIN X none (rs_mV y) (ms_mV y)) : wq X 1 0 [(0, .ref l0)] [] M := by
  unfold F_X9_closes at h
  refine q_aload_n 0 C dX9_closes_0 rfl ?_
  refine q_iconst (v := (0 : Int32)) C dX9_closes_1 (by decide) ?_
  obtain ⟨e1, h⟩ := ckOE h
  obtain ⟨M3, e2, h⟩ := bindE h
  refine q_callV (v := none) [.int (0 : Int32)] C hRO lk_RX9_217 vk_X9_drops e1 rfl rfl rfl (Nat.le_of_ble_eq_true rfl) (by decide) (by decide) dX9_closes_2 (k_X9_drops X.1.2.1 hl X.2.2.1 l0 (0 : Int32) M _ e2) ?_
  refine q_aload_n 0 C dX9_closes_5 rfl ?_
  refine q_dup C dX9_closes_6 rfl ?_
  obtain ⟨v5, e6, h⟩ := bindE h
  refine q_getI C fl_RX9_183 rfl e6 dX9_closes_7 ?_
  refine q_iconst (v := (1 : Int32)) C dX9_closes_10 (by decide) ?_
  refine q_isub C dX9_closes_11 ?_
  obtain ⟨M7, e8, h⟩ := bindE h
  refine q_putI C fp_RX9_183 rfl e8 dX9_closes_12 ?_
  refine q_aload_n 0 C dX9_closes_15 rfl ?_
  refine q_dup C dX9_closes_16 rfl ?_
  obtain ⟨v9, e10, h⟩ := bindE h
  refine q_getI C fl_RX9_202 rfl e10 dX9_closes_17 ?_
  refine q_iconst (v := (1 : Int32)) C dX9_closes_20 (by decide) ?_
  refine q_isub C dX9_closes_21 ?_
  obtain ⟨M11, e12, h⟩ := bindE h
  refine q_putI C fp_RX9_202 rfl e12 dX9_closes_22 ?_
  refine q_aload_n 0 C dX9_closes_25 rfl ?_
  obtain ⟨e13, h⟩ := ckOE h
  obtain ⟨M15, e14, h⟩ := bindE h
  refine q_callV (v := none) [] C hRO lk_RX9_174 vk_X9_takes e13 rfl rfl rfl (Nat.le_of_ble_eq_true rfl) (by decide) (by decide) dX9_closes_26 (k_X9_takes X.1.2.1 hl X.2.2.1 l0 M11 _ e14) ?_
  cases h
  exact q_vret C kf dX9_closes_29
theorem k_X9_closes (l : Launch) (hl : l.stackTraces = false) (G : GG) (l0 : Nat) (M : Mem) (x : Mem) (h : F_X9_closes l0 M = some x) : Ct l G yX9_closes (.code yX9_closes cX9_closes 1 none) 9 182 [.ref l0] M (rs_mV x) (ms_mV x) := by
  refine Ct_of (by decide +kernel) (Nat.le_of_ble_eq_true rfl) fun X e1 e2 e3 C FN hnm => ?_
  subst e1; subst e2
  show wq X 1 0 [(0, .ref l0)] [] M
  exact w_X9_closes C FN.2.2.2 hl l0 M h FN
/-! X9_copies -/
set_option maxRecDepth 100000 in
set_option maxHeartbeats 4000000 in
theorem w_X9_copies_s2 {X : CX} {y : (Int32 × Mem) ⊕ (Mem)} (C : CK X cX9_copies 4 RX9 7 140) (hRO : RO X.2.2.1 X.1.2.2.2.2.1 X.1.2.2.2.2.1.heap) (hl : X.1.2.1.stackTraces = false) (l1 : Nat) (l2 : Nat) (l3 : Int32) (M : Mem) (h : F_X9_copies_s2 l1 l2 l3 M = some y) (kc : ∀ s' : Int32 × Mem, y = .inl s' → wq X 4 2 [(1, .ref l1), (2, .ref l2), (3, .int (s'.1))] [] s'.2) (kx : ∀ e' : Mem, y = (.inr e') → wq X 4 20 [] [] e') : wq X 4 2 [(1, .ref l1), (2, .ref l2), (3, .int l3)] [] M := by
  unfold F_X9_copies_s2 at h
  refine q_iload_n 2 C dX9_copies_2 rfl ?_
  refine q_aload_n 0 C dX9_copies_3 rfl ?_
  obtain ⟨v1, e2, h⟩ := bindE h
  refine q_alen 0 100 C rfl (by decide) (by decide) e2 dX9_copies_4 ?_
  refine q_icmp_ge (tgt := 20) C dX9_copies_5 (by decide) (fun c3 => ?_) (fun c3 => ?_)
  · have h := ifT c3 h
    exact q_sub (lv' := []) [] rfl (kx M (someI h))
  · have h := ifF c3 h
    refine q_aload_n 1 C dX9_copies_8 rfl ?_
    refine q_iload_n 2 C dX9_copies_9 rfl ?_
    refine q_aload_n 0 C dX9_copies_10 rfl ?_
    refine q_iload_n 2 C dX9_copies_11 rfl ?_
    obtain ⟨v4, e5, h⟩ := bindE h
    refine q_iaload C e5 dX9_copies_12 ?_
    obtain ⟨M6, e7, h⟩ := bindE h
    refine q_iastore C e7 dX9_copies_13 ?_
    refine q_iinc 2 (v := (l3 + (1 : Int32))) (lv' := [(3, .int (l3 + (1 : Int32))), (1, .ref l1), (2, .ref l2)]) C dX9_copies_14 rfl rfl (by decide) rfl ?_
    refine q_goto (tgt := 2) C dX9_copies_17 (by decide) ?_
    exact q_sub (lv' := [(1, .ref l1), (2, .ref l2), (3, .int (l3 + (1 : Int32)))]) [1, 2, 0] rfl (kc ((l3 + (1 : Int32)), M6) (someI h))
theorem w_X9_copies_l2 {X : CX} {r : Mem} (C : CK X cX9_copies 4 RX9 7 140) (hRO : RO X.2.2.1 X.1.2.2.2.2.1 X.1.2.2.2.2.1.heap) (hl : X.1.2.1.stackTraces = false) (l1 : Nat) (l2 : Nat) (l3 : Int32) (M : Mem) (h : loop (fun s => F_X9_copies_s2 l1 l2 s.1 s.2) (l3, M) = some r) (kx : ∀ e' : Mem, r = e' → wq X 4 20 [] [] e') : wq X 4 2 [(1, .ref l1), (2, .ref l2), (3, .int l3)] [] M :=
  loop_ind (P := fun s => wq X 4 2 [(1, .ref l1), (2, .ref l2), (3, .int s.1)] [] s.2) h (fun s y hy kc kr => w_X9_copies_s2 C hRO hl l1 l2 s.1 s.2 hy kc (fun e' he => kx e' (kr _ he).symm))
set_option maxRecDepth 100000 in
set_option maxHeartbeats 4000000 in
theorem w_X9_copies {X : CX} {y : Mem} (C : CK X cX9_copies 4 RX9 7 140) (hRO : RO X.2.2.1 X.1.2.2.2.2.1 X.1.2.2.2.2.1.heap) (hl : X.1.2.1.stackTraces = false) (l0 : Nat) (l1 : Nat) (l2 : Nat) (M : Mem) (h : F_X9_copies l0 l1 l2 M = some y) (kf : FIN X none (rs_mV y) (ms_mV y)) : wq X 4 0 [(0, .ref l0), (1, .ref l1), (2, .ref l2)] [] M := by
  unfold F_X9_copies at h
  refine q_iconst (v := (0 : Int32)) C dX9_copies_0 (by decide) ?_
  refine q_istore_n (i := 3) (lv' := [(3, .int (0 : Int32)), (0, .ref l0), (1, .ref l1), (2, .ref l2)]) C dX9_copies_1 rfl (by decide) rfl ?_
  obtain ⟨M10, e9, h⟩ := bindE h
  refine q_sub (lv' := [(1, .ref l1), (2, .ref l2), (3, .int (0 : Int32))]) [2, 3, 0] rfl (w_X9_copies_l2 C hRO hl l1 l2 (0 : Int32) M e9 (fun r8 he => ?_))
  subst he
  show wq X 4 20 [] [] M10
  cases h
  exact q_vret C kf dX9_copies_20
theorem k_X9_copies (l : Launch) (hl : l.stackTraces = false) (G : GG) (l0 : Nat) (l1 : Nat) (l2 : Nat) (M : Mem) (x : Mem) (h : F_X9_copies l0 l1 l2 M = some x) : Ct l G yX9_copies (.code yX9_copies cX9_copies 4 none) 7 140 [.ref l0, .ref l1, .ref l2] M (rs_mV x) (ms_mV x) := by
  refine Ct_of (by decide +kernel) (Nat.le_of_ble_eq_true rfl) fun X e1 e2 e3 C FN hnm => ?_
  subst e1; subst e2
  show wq X 4 0 [(0, .ref l0), (1, .ref l1), (2, .ref l2)] [] M
  exact w_X9_copies C FN.2.2.2 hl l0 l1 l2 M h FN
/-! X9_laysMatch -/
set_option maxRecDepth 100000 in
set_option maxHeartbeats 4000000 in
theorem w_X9_laysMatch_s39 {X : CX} {y : (Int32 × Int32 × Mem) ⊕ (Int32 × Mem)} (C : CK X cX9_laysMatch 5 RX9 12 256) (hRO : RO X.2.2.1 X.1.2.2.2.2.1 X.1.2.2.2.2.1.heap) (hl : X.1.2.1.stackTraces = false) (l0 : Nat) (l1 : Int32) (l2 : Int32) (l3 : Int32) (l4 : Int32) (M : Mem) (h : F_X9_laysMatch_s39 l0 l1 l2 l3 l4 M = some y) (kc : ∀ s' : Int32 × Int32 × Mem, y = .inl s' → wq X 5 39 [(0, .ref l0), (1, .int l1), (2, .int l2), (3, .int (s'.1)), (4, .int (s'.2.1))] [] s'.2.2) (kx : ∀ e' : Int32 × Mem, y = (.inr e') → wq X 5 87 [(0, .ref l0), (1, .int l1), (2, .int l2), (3, .int (e'.1))] [] e'.2) : wq X 5 39 [(0, .ref l0), (1, .int l1), (2, .int l2), (3, .int l3), (4, .int l4)] [] M := by
  unfold F_X9_laysMatch_s39 at h
  refine q_iload 4 C dX9_laysMatch_39 rfl ?_
  refine q_aload_n 0 C dX9_laysMatch_41 rfl ?_
  obtain ⟨v10, e11, h⟩ := bindE h
  refine q_getI C fl_RX9_275 rfl e11 dX9_laysMatch_42 ?_
  refine q_icmp_ge (tgt := 87) C dX9_laysMatch_45 (by decide) (fun c12 => ?_) (fun c12 => ?_)
  · have h := ifT c12 h
    exact q_sub (lv' := [(0, .ref l0), (1, .int l1), (2, .int l2), (3, .int l3)]) [0, 1, 2, 3] rfl (kx (l3, M) (someI h))
  · have h := ifF c12 h
    refine q_iload_n 2 C dX9_laysMatch_48 rfl ?_
    refine q_iload 4 C dX9_laysMatch_49 rfl ?_
    refine q_ishr C dX9_laysMatch_51 ?_
    refine q_iconst (v := (1 : Int32)) C dX9_laysMatch_52 (by decide) ?_
    refine q_iand C dX9_laysMatch_53 ?_
    refine q_if_ne (tgt := 81) C dX9_laysMatch_54 (by decide) (fun c13 => ?_) (fun c13 => ?_)
    · have h := ifF c13 h
      refine q_iinc 4 (v := (l4 + (1 : Int32))) (lv' := [(4, .int (l4 + (1 : Int32))), (0, .ref l0), (1, .int l1), (2, .int l2), (3, .int l3)]) C dX9_laysMatch_81 rfl rfl (by decide) rfl ?_
      refine q_goto (tgt := 39) C dX9_laysMatch_84 (by decide) ?_
      exact q_sub (lv' := [(0, .ref l0), (1, .int l1), (2, .int l2), (3, .int l3), (4, .int (l4 + (1 : Int32)))]) [1, 2, 3, 4, 0] rfl (kc (l3, (l4 + (1 : Int32)), M) (someI h))
    · have h := ifT c13 h
      refine q_aload_n 0 C dX9_laysMatch_57 rfl ?_
      refine q_iconst (v := (0 : Int32)) C dX9_laysMatch_58 (by decide) ?_
      refine q_iload_n 1 C dX9_laysMatch_59 rfl ?_
      refine q_iload 4 C dX9_laysMatch_60 rfl ?_
      obtain ⟨e14, h⟩ := ckOE h
      obtain ⟨v17, M16, e15, h⟩ := bd2E h
      refine q_callV (v := some (.int v17)) [.int (0 : Int32), .int l1, .int l4] C hRO lk_RX9_388 vk_X9_wouldGo e14 rfl rfl rfl (Nat.le_of_ble_eq_true rfl) (by decide) (by decide) dX9_laysMatch_62 (k_X9_wouldGo X.1.2.1 hl X.2.2.1 l0 (0 : Int32) l1 l4 M _ e15) ?_
      refine q_if_eq (tgt := 81) C dX9_laysMatch_65 (by decide) (fun c18 => ?_) (fun c18 => ?_)
      · have h := ifT c18 h
        refine q_iinc 4 (v := (l4 + (1 : Int32))) (lv' := [(4, .int (l4 + (1 : Int32))), (0, .ref l0), (1, .int l1), (2, .int l2), (3, .int l3)]) C dX9_laysMatch_81 rfl rfl (by decide) rfl ?_
        refine q_goto (tgt := 39) C dX9_laysMatch_84 (by decide) ?_
        exact q_sub (lv' := [(0, .ref l0), (1, .int l1), (2, .int l2), (3, .int l3), (4, .int (l4 + (1 : Int32)))]) [1, 2, 3, 4, 0] rfl (kc (l3, (l4 + (1 : Int32)), M16) (someI h))
      · have h := ifF c18 h
        refine q_iload_n 3 C dX9_laysMatch_68 rfl ?_
        refine q_aload_n 0 C dX9_laysMatch_69 rfl ?_
        refine q_iload_n 1 C dX9_laysMatch_70 rfl ?_
        refine q_iload 4 C dX9_laysMatch_71 rfl ?_
        refine q_iload_n 2 C dX9_laysMatch_73 rfl ?_
        obtain ⟨e19, h⟩ := ckOE h
        obtain ⟨v21, e20, h⟩ := bindE h
        refine q_callV (v := some (.int v21)) [.int l1, .int l4, .int l2] C hRO lk_RX9_409 vk_X9_byHouse e19 rfl rfl rfl (Nat.le_of_ble_eq_true rfl) (by decide) (by decide) dX9_laysMatch_74 (k_X9_byHouse X.1.2.1 hl X.2.2.1 l0 l1 l4 l2 M16 _ e20) ?_
        obtain ⟨v23, e22, h⟩ := bindE h
        refine q_callS (v := some (.int v23)) [.int l3, .int v21] C hRO lk_RX9_329 sk_X9_lesser rfl rfl (Nat.le_of_ble_eq_true rfl) (by decide) (by decide) dX9_laysMatch_77 (k_X9_lesser X.1.2.1 hl X.2.2.1 l3 v21 M16 _ e22) ?_
        refine q_istore_n (i := 3) (lv' := [(3, .int v23), (0, .ref l0), (1, .int l1), (2, .int l2), (4, .int l4)]) C dX9_laysMatch_80 rfl (by decide) rfl ?_
        refine q_iinc 4 (v := (l4 + (1 : Int32))) (lv' := [(4, .int (l4 + (1 : Int32))), (3, .int v23), (0, .ref l0), (1, .int l1), (2, .int l2)]) C dX9_laysMatch_81 rfl rfl (by decide) rfl ?_
        refine q_goto (tgt := 39) C dX9_laysMatch_84 (by decide) ?_
        exact q_sub (lv' := [(0, .ref l0), (1, .int l1), (2, .int l2), (3, .int v23), (4, .int (l4 + (1 : Int32)))]) [2, 3, 4, 1, 0] rfl (kc (v23, (l4 + (1 : Int32)), M16) (someI h))
theorem w_X9_laysMatch_l39 {X : CX} {r : Int32 × Mem} (C : CK X cX9_laysMatch 5 RX9 12 256) (hRO : RO X.2.2.1 X.1.2.2.2.2.1 X.1.2.2.2.2.1.heap) (hl : X.1.2.1.stackTraces = false) (l0 : Nat) (l1 : Int32) (l2 : Int32) (l3 : Int32) (l4 : Int32) (M : Mem) (h : loop (fun s => F_X9_laysMatch_s39 l0 l1 l2 s.1 s.2.1 s.2.2) (l3, l4, M) = some r) (kx : ∀ e' : Int32 × Mem, r = e' → wq X 5 87 [(0, .ref l0), (1, .int l1), (2, .int l2), (3, .int (e'.1))] [] e'.2) : wq X 5 39 [(0, .ref l0), (1, .int l1), (2, .int l2), (3, .int l3), (4, .int l4)] [] M :=
  loop_ind (P := fun s => wq X 5 39 [(0, .ref l0), (1, .int l1), (2, .int l2), (3, .int s.1), (4, .int s.2.1)] [] s.2.2) h (fun s y hy kc kr => w_X9_laysMatch_s39 C hRO hl l0 l1 l2 s.1 s.2.1 s.2.2 hy kc (fun e' he => kx e' (kr _ he).symm))
set_option maxRecDepth 100000 in
set_option maxHeartbeats 4000000 in
theorem w_X9_laysMatch_s13 {X : CX} {y : (Int32 × Mem) ⊕ (Mem)} (C : CK X cX9_laysMatch 5 RX9 12 256) (hRO : RO X.2.2.1 X.1.2.2.2.2.1 X.1.2.2.2.2.1.heap) (hl : X.1.2.1.stackTraces = false) (l0 : Nat) (l1 : Int32) (l2 : Int32) (M : Mem) (h : F_X9_laysMatch_s13 l0 l1 l2 M = some y) (kc : ∀ s' : Int32 × Mem, y = .inl s' → wq X 5 13 [(0, .ref l0), (1, .int l1), (2, .int (s'.1))] [] s'.2) (kx : ∀ e' : Mem, y = (.inr e') → wq X 5 106 [(0, .ref l0), (1, .int l1)] [] e') : wq X 5 13 [(0, .ref l0), (1, .int l1), (2, .int l2)] [] M := by
  unfold F_X9_laysMatch_s13 at h
  refine q_iload_n 2 C dX9_laysMatch_13 rfl ?_
  refine q_iconst (v := (1 : Int32)) C dX9_laysMatch_14 (by decide) ?_
  refine q_aload_n 0 C dX9_laysMatch_15 rfl ?_
  obtain ⟨v4, e5, h⟩ := bindE h
  refine q_getI C fl_RX9_275 rfl e5 dX9_laysMatch_16 ?_
  refine q_ishl C dX9_laysMatch_19 ?_
  refine q_icmp_ge (tgt := 106) C dX9_laysMatch_20 (by decide) (fun c6 => ?_) (fun c6 => ?_)
  · have h := ifT c6 h
    exact q_sub (lv' := [(0, .ref l0), (1, .int l1)]) [0, 1] rfl (kx M (someI h))
  · have h := ifF c6 h
    refine q_sipush (v := (10000 : Int32)) C dX9_laysMatch_23 (by decide) ?_
    refine q_aload_n 0 C dX9_laysMatch_26 rfl ?_
    refine q_iload_n 1 C dX9_laysMatch_27 rfl ?_
    refine q_iconst (v := (1 : Int32)) C dX9_laysMatch_28 (by decide) ?_
    refine q_iadd C dX9_laysMatch_29 ?_
    refine q_iload_n 2 C dX9_laysMatch_30 rfl ?_
    obtain ⟨e7, h⟩ := ckOE h
    obtain ⟨v9, e8, h⟩ := bindE h
    refine q_callV (v := some (.int v9)) [.int (l1 + (1 : Int32)), .int l2] C hRO lk_RX9_406 vk_X9_leastOf e7 rfl rfl rfl (Nat.le_of_ble_eq_true rfl) (by decide) (by decide) dX9_laysMatch_31 (k_X9_leastOf X.1.2.1 hl X.2.2.1 l0 (l1 + (1 : Int32)) l2 M _ e8) ?_
    refine q_iadd C dX9_laysMatch_34 ?_
    refine q_istore_n (i := 3) (lv' := [(3, .int ((10000 : Int32) + v9)), (0, .ref l0), (1, .int l1), (2, .int l2)]) C dX9_laysMatch_35 rfl (by decide) rfl ?_
    refine q_iconst (v := (0 : Int32)) C dX9_laysMatch_36 (by decide) ?_
    refine q_istore (i := 4) (lv' := [(4, .int (0 : Int32)), (3, .int ((10000 : Int32) + v9)), (0, .ref l0), (1, .int l1), (2, .int l2)]) C dX9_laysMatch_37 (by decide) rfl ?_
    obtain ⟨⟨x26, M27⟩, e25, h⟩ := bindE h
    refine q_sub (lv' := [(0, .ref l0), (1, .int l1), (2, .int l2), (3, .int ((10000 : Int32) + v9)), (4, .int (0 : Int32))]) [2, 3, 4, 1, 0] rfl (w_X9_laysMatch_l39 C hRO hl l0 l1 l2 ((10000 : Int32) + v9) (0 : Int32) M e25 (fun r24 he => ?_))
    subst he
    have h := u2E h
    show wq X 5 87 [(0, .ref l0), (1, .int l1), (2, .int l2), (3, .int x26)] [] M27
    refine q_aload_n 0 C dX9_laysMatch_87 rfl ?_
    obtain ⟨v28, e29, h⟩ := bindE h
    refine q_getP C fl_RX9_81 rfl e29 dX9_laysMatch_88 ?_
    refine q_sipush (v := (256 : Int32)) C dX9_laysMatch_91 (by decide) ?_
    refine q_iload_n 1 C dX9_laysMatch_94 rfl ?_
    refine q_imul C dX9_laysMatch_95 ?_
    refine q_iload_n 2 C dX9_laysMatch_96 rfl ?_
    refine q_iadd C dX9_laysMatch_97 ?_
    refine q_iload_n 3 C dX9_laysMatch_98 rfl ?_
    obtain ⟨M30, e31, h⟩ := bindE h
    refine q_iastore C e31 dX9_laysMatch_99 ?_
    refine q_iinc 2 (v := (l2 + (1 : Int32))) (lv' := [(2, .int (l2 + (1 : Int32))), (0, .ref l0), (1, .int l1), (3, .int x26)]) C dX9_laysMatch_100 rfl rfl (by decide) rfl ?_
    refine q_goto (tgt := 13) C dX9_laysMatch_103 (by decide) ?_
    exact q_sub (lv' := [(0, .ref l0), (1, .int l1), (2, .int (l2 + (1 : Int32)))]) [1, 2, 0] rfl (kc ((l2 + (1 : Int32)), M30) (someI h))
theorem w_X9_laysMatch_l13 {X : CX} {r : Mem} (C : CK X cX9_laysMatch 5 RX9 12 256) (hRO : RO X.2.2.1 X.1.2.2.2.2.1 X.1.2.2.2.2.1.heap) (hl : X.1.2.1.stackTraces = false) (l0 : Nat) (l1 : Int32) (l2 : Int32) (M : Mem) (h : loop (fun s => F_X9_laysMatch_s13 l0 l1 s.1 s.2) (l2, M) = some r) (kx : ∀ e' : Mem, r = e' → wq X 5 106 [(0, .ref l0), (1, .int l1)] [] e') : wq X 5 13 [(0, .ref l0), (1, .int l1), (2, .int l2)] [] M :=
  loop_ind (P := fun s => wq X 5 13 [(0, .ref l0), (1, .int l1), (2, .int s.1)] [] s.2) h (fun s y hy kc kr => w_X9_laysMatch_s13 C hRO hl l0 l1 s.1 s.2 hy kc (fun e' he => kx e' (kr _ he).symm))
set_option maxRecDepth 100000 in
set_option maxHeartbeats 4000000 in
theorem w_X9_laysMatch_s7 {X : CX} {y : (Int32 × Mem) ⊕ (Mem)} (C : CK X cX9_laysMatch 5 RX9 12 256) (hRO : RO X.2.2.1 X.1.2.2.2.2.1 X.1.2.2.2.2.1.heap) (hl : X.1.2.1.stackTraces = false) (l0 : Nat) (l1 : Int32) (M : Mem) (h : F_X9_laysMatch_s7 l0 l1 M = some y) (kc : ∀ s' : Int32 × Mem, y = .inl s' → wq X 5 7 [(0, .ref l0), (1, .int (s'.1))] [] s'.2) (kx : ∀ e' : Mem, y = (.inr e') → wq X 5 112 [] [] e') : wq X 5 7 [(0, .ref l0), (1, .int l1)] [] M := by
  unfold F_X9_laysMatch_s7 at h
  refine q_iload_n 1 C dX9_laysMatch_7 rfl ?_
  refine q_if_lt (tgt := 112) C dX9_laysMatch_8 (by decide) (fun c3 => ?_) (fun c3 => ?_)
  · have h := ifT c3 h
    exact q_sub (lv' := []) [] rfl (kx M (someI h))
  · have h := ifF c3 h
    refine q_iconst (v := (0 : Int32)) C dX9_laysMatch_11 (by decide) ?_
    refine q_istore_n (i := 2) (lv' := [(2, .int (0 : Int32)), (0, .ref l0), (1, .int l1)]) C dX9_laysMatch_12 rfl (by decide) rfl ?_
    obtain ⟨M35, e34, h⟩ := bindE h
    refine q_sub (lv' := [(0, .ref l0), (1, .int l1), (2, .int (0 : Int32))]) [1, 2, 0] rfl (w_X9_laysMatch_l13 C hRO hl l0 l1 (0 : Int32) M e34 (fun r33 he => ?_))
    subst he
    show wq X 5 106 [(0, .ref l0), (1, .int l1)] [] M35
    refine q_iinc 1 (v := (l1 + (-1 : Int32))) (lv' := [(1, .int (l1 + (-1 : Int32))), (0, .ref l0)]) C dX9_laysMatch_106 rfl rfl (by decide) rfl ?_
    refine q_goto (tgt := 7) C dX9_laysMatch_109 (by decide) ?_
    exact q_sub (lv' := [(0, .ref l0), (1, .int (l1 + (-1 : Int32)))]) [1, 0] rfl (kc ((l1 + (-1 : Int32)), M35) (someI h))
theorem w_X9_laysMatch_l7 {X : CX} {r : Mem} (C : CK X cX9_laysMatch 5 RX9 12 256) (hRO : RO X.2.2.1 X.1.2.2.2.2.1 X.1.2.2.2.2.1.heap) (hl : X.1.2.1.stackTraces = false) (l0 : Nat) (l1 : Int32) (M : Mem) (h : loop (fun s => F_X9_laysMatch_s7 l0 s.1 s.2) (l1, M) = some r) (kx : ∀ e' : Mem, r = e' → wq X 5 112 [] [] e') : wq X 5 7 [(0, .ref l0), (1, .int l1)] [] M :=
  loop_ind (P := fun s => wq X 5 7 [(0, .ref l0), (1, .int s.1)] [] s.2) h (fun s y hy kc kr => w_X9_laysMatch_s7 C hRO hl l0 s.1 s.2 hy kc (fun e' he => kx e' (kr _ he).symm))
set_option maxRecDepth 100000 in
set_option maxHeartbeats 4000000 in
theorem w_X9_laysMatch {X : CX} {y : Mem} (C : CK X cX9_laysMatch 5 RX9 12 256) (hRO : RO X.2.2.1 X.1.2.2.2.2.1 X.1.2.2.2.2.1.heap) (hl : X.1.2.1.stackTraces = false) (l0 : Nat) (M : Mem) (h : F_X9_laysMatch l0 M = some y) (kf : FIN X none (rs_mV y) (ms_mV y)) : wq X 5 0 [(0, .ref l0)] [] M := by
  unfold F_X9_laysMatch at h
  refine q_aload_n 0 C dX9_laysMatch_0 rfl ?_
  obtain ⟨v1, e2, h⟩ := bindE h
  refine q_getI C fl_RX9_278 rfl e2 dX9_laysMatch_1 ?_
  refine q_iconst (v := (1 : Int32)) C dX9_laysMatch_4 (by decide) ?_
  refine q_isub C dX9_laysMatch_5 ?_
  refine q_istore_n (i := 1) (lv' := [(1, .int (v1 - (1 : Int32))), (0, .ref l0)]) C dX9_laysMatch_6 rfl (by decide) rfl ?_
  obtain ⟨M39, e38, h⟩ := bindE h
  refine q_sub (lv' := [(0, .ref l0), (1, .int (v1 - (1 : Int32)))]) [1, 0] rfl (w_X9_laysMatch_l7 C hRO hl l0 (v1 - (1 : Int32)) M e38 (fun r37 he => ?_))
  subst he
  show wq X 5 112 [] [] M39
  cases h
  exact q_vret C kf dX9_laysMatch_112
theorem k_X9_laysMatch (l : Launch) (hl : l.stackTraces = false) (G : GG) (l0 : Nat) (M : Mem) (x : Mem) (h : F_X9_laysMatch l0 M = some x) : Ct l G yX9_laysMatch (.code yX9_laysMatch cX9_laysMatch 5 none) 12 256 [.ref l0] M (rs_mV x) (ms_mV x) := by
  refine Ct_of (by decide +kernel) (Nat.le_of_ble_eq_true rfl) fun X e1 e2 e3 C FN hnm => ?_
  subst e1; subst e2
  show wq X 5 0 [(0, .ref l0)] [] M
  exact w_X9_laysMatch C FN.2.2.2 hl l0 M h FN
/-! X9_needed -/
set_option maxRecDepth 100000 in
set_option maxHeartbeats 4000000 in
theorem w_X9_needed_s19 {X : CX} {y : (Int32 × Int32) ⊕ (Int32)} (C : CK X cX9_needed 4 RX9 13 280) (hRO : RO X.2.2.1 X.1.2.2.2.2.1 X.1.2.2.2.2.1.heap) (hl : X.1.2.1.stackTraces = false) (l0 : Nat) (l1 : Int32) (M : Mem) (l2 : Int32) (l3 : Int32) (h : F_X9_needed_s19 l0 l1 M l2 l3 = some y) (kc : ∀ s' : Int32 × Int32, y = .inl s' → wq X 4 19 [(0, .ref l0), (1, .int l1), (2, .int (s'.1)), (3, .int (s'.2))] [] M) (kx : ∀ e' : Int32, y = (.inr e') → wq X 4 68 [(2, .int (e'))] [] M) : wq X 4 19 [(0, .ref l0), (1, .int l1), (2, .int l2), (3, .int l3)] [] M := by
  unfold F_X9_needed_s19 at h
  refine q_iload_n 3 C dX9_needed_19 rfl ?_
  refine q_aload_n 0 C dX9_needed_20 rfl ?_
  obtain ⟨v8, e9, h⟩ := bindE h
  refine q_getI C fl_RX9_275 rfl e9 dX9_needed_21 ?_
  refine q_icmp_ge (tgt := 68) C dX9_needed_24 (by decide) (fun c10 => ?_) (fun c10 => ?_)
  · have h := ifT c10 h
    exact q_sub (lv' := [(2, .int l2)]) [2] rfl (kx l2 (someI h))
  · have h := ifF c10 h
    refine q_iload_n 2 C dX9_needed_27 rfl ?_
    refine q_aload_n 0 C dX9_needed_28 rfl ?_
    refine q_iconst (v := (0 : Int32)) C dX9_needed_29 (by decide) ?_
    refine q_iload_n 3 C dX9_needed_30 rfl ?_
    obtain ⟨e11, h⟩ := ckOE h
    obtain ⟨v13, e12, h⟩ := bindE h
    refine q_callV (v := some (.int v13)) [.int (0 : Int32), .int l3] C hRO lk_RX9_322 vk_X9_isBurst e11 rfl rfl rfl (Nat.le_of_ble_eq_true rfl) (by decide) (by decide) dX9_needed_31 (k_X9_isBurst X.1.2.1 hl X.2.2.1 l0 (0 : Int32) l3 M _ e12) ?_
    refine q_if_ne (tgt := 59) C dX9_needed_34 (by decide) (fun c14 => ?_) (fun c14 => ?_)
    · have h := ifF c14 h
      refine q_iconst (v := (0 : Int32)) C dX9_needed_59 (by decide) ?_
      refine q_ior C dX9_needed_60 ?_
      refine q_istore_n (i := 2) (lv' := [(2, .int (l2 ||| (0 : Int32))), (0, .ref l0), (1, .int l1), (3, .int l3)]) C dX9_needed_61 rfl (by decide) rfl ?_
      refine q_iinc 3 (v := (l3 + (1 : Int32))) (lv' := [(3, .int (l3 + (1 : Int32))), (2, .int (l2 ||| (0 : Int32))), (0, .ref l0), (1, .int l1)]) C dX9_needed_62 rfl rfl (by decide) rfl ?_
      refine q_goto (tgt := 19) C dX9_needed_65 (by decide) ?_
      exact q_sub (lv' := [(0, .ref l0), (1, .int l1), (2, .int (l2 ||| (0 : Int32))), (3, .int (l3 + (1 : Int32)))]) [2, 3, 1, 0] rfl (kc ((l2 ||| (0 : Int32)), (l3 + (1 : Int32))) (someI h))
    · have h := ifT c14 h
      refine q_aload_n 0 C dX9_needed_37 rfl ?_
      refine q_iconst (v := (0 : Int32)) C dX9_needed_38 (by decide) ?_
      refine q_iconst (v := (1 : Int32)) C dX9_needed_39 (by decide) ?_
      refine q_iload_n 3 C dX9_needed_40 rfl ?_
      refine q_ishl C dX9_needed_41 ?_
      obtain ⟨e15, h⟩ := ckOE h
      obtain ⟨v17, e16, h⟩ := bindE h
      refine q_callV (v := some (.int v17)) [.int (0 : Int32), .int ((1 : Int32) <<< (l3 &&& 31))] C hRO lk_RX9_406 vk_X9_leastOf e15 rfl rfl rfl (Nat.le_of_ble_eq_true rfl) (by decide) (by decide) dX9_needed_42 (k_X9_leastOf X.1.2.1 hl X.2.2.1 l0 (0 : Int32) ((1 : Int32) <<< (l3 &&& 31)) M _ e16) ?_
      refine q_sipush (v := (10000 : Int32)) C dX9_needed_45 (by decide) ?_
      refine q_idiv C (by decide) dX9_needed_48 ?_
      refine q_iload_n 1 C dX9_needed_49 rfl ?_
      refine q_icmp_le (tgt := 59) C dX9_needed_50 (by decide) (fun c18 => ?_) (fun c18 => ?_)
      · have h := ifT c18 h
        refine q_iconst (v := (0 : Int32)) C dX9_needed_59 (by decide) ?_
        refine q_ior C dX9_needed_60 ?_
        refine q_istore_n (i := 2) (lv' := [(2, .int (l2 ||| (0 : Int32))), (0, .ref l0), (1, .int l1), (3, .int l3)]) C dX9_needed_61 rfl (by decide) rfl ?_
        refine q_iinc 3 (v := (l3 + (1 : Int32))) (lv' := [(3, .int (l3 + (1 : Int32))), (2, .int (l2 ||| (0 : Int32))), (0, .ref l0), (1, .int l1)]) C dX9_needed_62 rfl rfl (by decide) rfl ?_
        refine q_goto (tgt := 19) C dX9_needed_65 (by decide) ?_
        exact q_sub (lv' := [(0, .ref l0), (1, .int l1), (2, .int (l2 ||| (0 : Int32))), (3, .int (l3 + (1 : Int32)))]) [2, 3, 1, 0] rfl (kc ((l2 ||| (0 : Int32)), (l3 + (1 : Int32))) (someI h))
      · have h := ifF c18 h
        refine q_iconst (v := (1 : Int32)) C dX9_needed_53 (by decide) ?_
        refine q_iload_n 3 C dX9_needed_54 rfl ?_
        refine q_ishl C dX9_needed_55 ?_
        refine q_goto (tgt := 60) C dX9_needed_56 (by decide) ?_
        refine q_ior C dX9_needed_60 ?_
        obtain ⟨n19, e20, h⟩ := nmE h
        refine q_topI e20 ?_
        refine q_istore_n (i := 2) (lv' := [(2, .int n19), (0, .ref l0), (1, .int l1), (3, .int l3)]) C dX9_needed_61 rfl (by decide) rfl ?_
        refine q_iinc 3 (v := (l3 + (1 : Int32))) (lv' := [(3, .int (l3 + (1 : Int32))), (2, .int n19), (0, .ref l0), (1, .int l1)]) C dX9_needed_62 rfl rfl (by decide) rfl ?_
        refine q_goto (tgt := 19) C dX9_needed_65 (by decide) ?_
        exact q_sub (lv' := [(0, .ref l0), (1, .int l1), (2, .int n19), (3, .int (l3 + (1 : Int32)))]) [2, 3, 1, 0] rfl (kc (n19, (l3 + (1 : Int32))) (someI h))
theorem w_X9_needed_l19 {X : CX} {r : Int32} (C : CK X cX9_needed 4 RX9 13 280) (hRO : RO X.2.2.1 X.1.2.2.2.2.1 X.1.2.2.2.2.1.heap) (hl : X.1.2.1.stackTraces = false) (l0 : Nat) (l1 : Int32) (M : Mem) (l2 : Int32) (l3 : Int32) (h : loop (fun s => F_X9_needed_s19 l0 l1 M s.1 s.2) (l2, l3) = some r) (kx : ∀ e' : Int32, r = e' → wq X 4 68 [(2, .int (e'))] [] M) : wq X 4 19 [(0, .ref l0), (1, .int l1), (2, .int l2), (3, .int l3)] [] M :=
  loop_ind (P := fun s => wq X 4 19 [(0, .ref l0), (1, .int l1), (2, .int s.1), (3, .int s.2)] [] M) h (fun s y hy kc kr => w_X9_needed_s19 C hRO hl l0 l1 M s.1 s.2 hy kc (fun e' he => kx e' (kr _ he).symm))
set_option maxRecDepth 100000 in
set_option maxHeartbeats 4000000 in
theorem w_X9_needed {X : CX} {y : Int32 × Mem} (C : CK X cX9_needed 4 RX9 13 280) (hRO : RO X.2.2.1 X.1.2.2.2.2.1 X.1.2.2.2.2.1.heap) (hl : X.1.2.1.stackTraces = false) (l0 : Nat) (M : Mem) (h : F_X9_needed l0 M = some y) (kf : FIN X (some .int) (rs_mI y) (ms_mI y)) : wq X 4 0 [(0, .ref l0)] [] M := by
  unfold F_X9_needed at h
  refine q_aload_n 0 C dX9_needed_0 rfl ?_
  obtain ⟨e1, h⟩ := ckOE h
  obtain ⟨M3, e2, h⟩ := bindE h
  refine q_callV (v := none) [] C hRO lk_RX9_412 vk_X9_laysMatch e1 rfl rfl rfl (Nat.le_of_ble_eq_true rfl) (by decide) (by decide) dX9_needed_1 (k_X9_laysMatch X.1.2.1 hl X.2.2.1 l0 M _ e2) ?_
  refine q_aload_n 0 C dX9_needed_4 rfl ?_
  refine q_iconst (v := (0 : Int32)) C dX9_needed_5 (by decide) ?_
  refine q_iconst (v := (0 : Int32)) C dX9_needed_6 (by decide) ?_
  obtain ⟨e5, h⟩ := ckOE h
  obtain ⟨v7, e6, h⟩ := bindE h
  refine q_callV (v := some (.int v7)) [.int (0 : Int32), .int (0 : Int32)] C hRO lk_RX9_406 vk_X9_leastOf e5 rfl rfl rfl (Nat.le_of_ble_eq_true rfl) (by decide) (by decide) dX9_needed_7 (k_X9_leastOf X.1.2.1 hl X.2.2.1 l0 (0 : Int32) (0 : Int32) M3 _ e6) ?_
  refine q_sipush (v := (10000 : Int32)) C dX9_needed_10 (by decide) ?_
  refine q_idiv C (by decide) dX9_needed_13 ?_
  refine q_istore_n (i := 1) (lv' := [(1, .int (v7 / (10000 : Int32))), (0, .ref l0)]) C dX9_needed_14 rfl (by decide) rfl ?_
  refine q_iconst (v := (0 : Int32)) C dX9_needed_15 (by decide) ?_
  refine q_istore_n (i := 2) (lv' := [(2, .int (0 : Int32)), (1, .int (v7 / (10000 : Int32))), (0, .ref l0)]) C dX9_needed_16 rfl (by decide) rfl ?_
  refine q_iconst (v := (0 : Int32)) C dX9_needed_17 (by decide) ?_
  refine q_istore_n (i := 3) (lv' := [(3, .int (0 : Int32)), (2, .int (0 : Int32)), (1, .int (v7 / (10000 : Int32))), (0, .ref l0)]) C dX9_needed_18 rfl (by decide) rfl ?_
  obtain ⟨x23, e22, h⟩ := bindE h
  refine q_sub (lv' := [(0, .ref l0), (1, .int (v7 / (10000 : Int32))), (2, .int (0 : Int32)), (3, .int (0 : Int32))]) [3, 2, 1, 0] rfl (w_X9_needed_l19 C hRO hl l0 (v7 / (10000 : Int32)) M3 (0 : Int32) (0 : Int32) e22 (fun r21 he => ?_))
  subst he
  show wq X 4 68 [(2, .int x23)] [] M3
  refine q_iload_n 0 C dX9_needed_68 rfl ?_
  cases h
  exact q_iret C kf dX9_needed_69
theorem k_X9_needed (l : Launch) (hl : l.stackTraces = false) (G : GG) (l0 : Nat) (M : Mem) (x : Int32 × Mem) (h : F_X9_needed l0 M = some x) : Ct l G yX9_needed (.code yX9_needed cX9_needed 4 (some .int)) 13 280 [.ref l0] M (rs_mI x) (ms_mI x) := by
  refine Ct_of (by decide +kernel) (Nat.le_of_ble_eq_true rfl) fun X e1 e2 e3 C FN hnm => ?_
  subst e1; subst e2
  show wq X 4 0 [(0, .ref l0)] [] M
  exact w_X9_needed C FN.2.2.2 hl l0 M h FN
/-! X9_soreIn -/
set_option maxRecDepth 100000 in
set_option maxHeartbeats 4000000 in
theorem w_X9_soreIn_s4 {X : CX} {y : (Int32 × Int32) ⊕ (Int32)} (C : CK X cX9_soreIn 4 RX9 7 140) (hRO : RO X.2.2.1 X.1.2.2.2.2.1 X.1.2.2.2.2.1.heap) (hl : X.1.2.1.stackTraces = false) (l0 : Nat) (l1 : Int32) (M : Mem) (l2 : Int32) (l3 : Int32) (h : F_X9_soreIn_s4 l0 l1 M l2 l3 = some y) (kc : ∀ s' : Int32 × Int32, y = .inl s' → wq X 4 4 [(0, .ref l0), (1, .int l1), (2, .int (s'.1)), (3, .int (s'.2))] [] M) (kx : ∀ e' : Int32, y = (.inr e') → wq X 4 32 [(2, .int (e'))] [] M) : wq X 4 4 [(0, .ref l0), (1, .int l1), (2, .int l2), (3, .int l3)] [] M := by
  unfold F_X9_soreIn_s4 at h
  refine q_iload_n 3 C dX9_soreIn_4 rfl ?_
  refine q_aload_n 0 C dX9_soreIn_5 rfl ?_
  obtain ⟨v1, e2, h⟩ := bindE h
  refine q_getI C fl_RX9_278 rfl e2 dX9_soreIn_6 ?_
  refine q_icmp_ge (tgt := 32) C dX9_soreIn_9 (by decide) (fun c3 => ?_) (fun c3 => ?_)
  · have h := ifT c3 h
    exact q_sub (lv' := [(2, .int l2)]) [2] rfl (kx l2 (someI h))
  · have h := ifF c3 h
    refine q_iload_n 2 C dX9_soreIn_12 rfl ?_
    refine q_aload_n 0 C dX9_soreIn_13 rfl ?_
    obtain ⟨v4, e5, h⟩ := bindE h
    refine q_getP C fl_RX9_66 rfl e5 dX9_soreIn_14 ?_
    refine q_iload_n 1 C dX9_soreIn_17 rfl ?_
    refine q_bipush (v := (35 : Int32)) C dX9_soreIn_18 (by decide) ?_
    refine q_iadd C dX9_soreIn_20 ?_
    refine q_iload_n 3 C dX9_soreIn_21 rfl ?_
    refine q_iadd C dX9_soreIn_22 ?_
    obtain ⟨v6, e7, h⟩ := bindE h
    refine q_iaload C e7 dX9_soreIn_23 ?_
    refine q_iadd C dX9_soreIn_24 ?_
    refine q_istore_n (i := 2) (lv' := [(2, .int (l2 + v6)), (0, .ref l0), (1, .int l1), (3, .int l3)]) C dX9_soreIn_25 rfl (by decide) rfl ?_
    refine q_iinc 3 (v := (l3 + (1 : Int32))) (lv' := [(3, .int (l3 + (1 : Int32))), (2, .int (l2 + v6)), (0, .ref l0), (1, .int l1)]) C dX9_soreIn_26 rfl rfl (by decide) rfl ?_
    refine q_goto (tgt := 4) C dX9_soreIn_29 (by decide) ?_
    exact q_sub (lv' := [(0, .ref l0), (1, .int l1), (2, .int (l2 + v6)), (3, .int (l3 + (1 : Int32)))]) [2, 3, 1, 0] rfl (kc ((l2 + v6), (l3 + (1 : Int32))) (someI h))
theorem w_X9_soreIn_l4 {X : CX} {r : Int32} (C : CK X cX9_soreIn 4 RX9 7 140) (hRO : RO X.2.2.1 X.1.2.2.2.2.1 X.1.2.2.2.2.1.heap) (hl : X.1.2.1.stackTraces = false) (l0 : Nat) (l1 : Int32) (M : Mem) (l2 : Int32) (l3 : Int32) (h : loop (fun s => F_X9_soreIn_s4 l0 l1 M s.1 s.2) (l2, l3) = some r) (kx : ∀ e' : Int32, r = e' → wq X 4 32 [(2, .int (e'))] [] M) : wq X 4 4 [(0, .ref l0), (1, .int l1), (2, .int l2), (3, .int l3)] [] M :=
  loop_ind (P := fun s => wq X 4 4 [(0, .ref l0), (1, .int l1), (2, .int s.1), (3, .int s.2)] [] M) h (fun s y hy kc kr => w_X9_soreIn_s4 C hRO hl l0 l1 M s.1 s.2 hy kc (fun e' he => kx e' (kr _ he).symm))
set_option maxRecDepth 100000 in
set_option maxHeartbeats 4000000 in
theorem w_X9_soreIn {X : CX} {y : Int32} (C : CK X cX9_soreIn 4 RX9 7 140) (hRO : RO X.2.2.1 X.1.2.2.2.2.1 X.1.2.2.2.2.1.heap) (hl : X.1.2.1.stackTraces = false) (l0 : Nat) (l1 : Int32) (M : Mem) (h : F_X9_soreIn l0 l1 M = some y) (kf : FIN X (some .int) (rs_pI y) M) : wq X 4 0 [(0, .ref l0), (1, .int l1)] [] M := by
  unfold F_X9_soreIn at h
  refine q_iconst (v := (0 : Int32)) C dX9_soreIn_0 (by decide) ?_
  refine q_istore_n (i := 2) (lv' := [(2, .int (0 : Int32)), (0, .ref l0), (1, .int l1)]) C dX9_soreIn_1 rfl (by decide) rfl ?_
  refine q_iconst (v := (0 : Int32)) C dX9_soreIn_2 (by decide) ?_
  refine q_istore_n (i := 3) (lv' := [(3, .int (0 : Int32)), (2, .int (0 : Int32)), (0, .ref l0), (1, .int l1)]) C dX9_soreIn_3 rfl (by decide) rfl ?_
  obtain ⟨x10, e9, h⟩ := bindE h
  refine q_sub (lv' := [(0, .ref l0), (1, .int l1), (2, .int (0 : Int32)), (3, .int (0 : Int32))]) [2, 3, 1, 0] rfl (w_X9_soreIn_l4 C hRO hl l0 l1 M (0 : Int32) (0 : Int32) e9 (fun r8 he => ?_))
  subst he
  show wq X 4 32 [(2, .int x10)] [] M
  refine q_iload_n 0 C dX9_soreIn_32 rfl ?_
  cases h
  exact q_iret C kf dX9_soreIn_33
theorem k_X9_soreIn (l : Launch) (hl : l.stackTraces = false) (G : GG) (l0 : Nat) (l1 : Int32) (M : Mem) (x : Int32) (h : F_X9_soreIn l0 l1 M = some x) : Ct l G yX9_soreIn (.code yX9_soreIn cX9_soreIn 4 (some .int)) 7 140 [.ref l0, .int l1] M (rs_pI x) M := by
  refine Ct_of (by decide +kernel) (Nat.le_of_ble_eq_true rfl) fun X e1 e2 e3 C FN hnm => ?_
  subst e1; subst e2
  show wq X 4 0 [(0, .ref l0), (1, .int l1)] [] M
  exact w_X9_soreIn C FN.2.2.2 hl l0 l1 M h FN
/-! X9_taken -/
set_option maxRecDepth 100000 in
set_option maxHeartbeats 4000000 in
theorem w_X9_taken_s4 {X : CX} {y : (Int32 × Int32) ⊕ (Int32)} (C : CK X cX9_taken 3 RX9 7 140) (hRO : RO X.2.2.1 X.1.2.2.2.2.1 X.1.2.2.2.2.1.heap) (hl : X.1.2.1.stackTraces = false) (l0 : Nat) (M : Mem) (l1 : Int32) (l2 : Int32) (h : F_X9_taken_s4 l0 M l1 l2 = some y) (kc : ∀ s' : Int32 × Int32, y = .inl s' → wq X 3 4 [(0, .ref l0), (1, .int (s'.1)), (2, .int (s'.2))] [] M) (kx : ∀ e' : Int32, y = (.inr e') → wq X 3 41 [(1, .int (e'))] [] M) : wq X 3 4 [(0, .ref l0), (1, .int l1), (2, .int l2)] [] M := by
  unfold F_X9_taken_s4 at h
  refine q_iload_n 2 C dX9_taken_4 rfl ?_
  refine q_aload_n 0 C dX9_taken_5 rfl ?_
  obtain ⟨v1, e2, h⟩ := bindE h
  refine q_getI C fl_RX9_275 rfl e2 dX9_taken_6 ?_
  refine q_icmp_ge (tgt := 41) C dX9_taken_9 (by decide) (fun c3 => ?_) (fun c3 => ?_)
  · have h := ifT c3 h
    exact q_sub (lv' := [(1, .int l1)]) [1] rfl (kx l1 (someI h))
  · have h := ifF c3 h
    refine q_iload_n 1 C dX9_taken_12 rfl ?_
    refine q_aload_n 0 C dX9_taken_13 rfl ?_
    obtain ⟨v4, e5, h⟩ := bindE h
    refine q_getP C fl_RX9_66 rfl e5 dX9_taken_14 ?_
    refine q_bipush (v := (19 : Int32)) C dX9_taken_17 (by decide) ?_
    refine q_iload_n 2 C dX9_taken_19 rfl ?_
    refine q_iadd C dX9_taken_20 ?_
    obtain ⟨v6, e7, h⟩ := bindE h
    refine q_iaload C e7 dX9_taken_21 ?_
    refine q_iconst (v := (-1 : Int32)) C dX9_taken_22 (by decide) ?_
    refine q_icmp_eq (tgt := 32) C dX9_taken_23 (by decide) (fun c8 => ?_) (fun c8 => ?_)
    · have h := ifT c8 h
      refine q_iconst (v := (0 : Int32)) C dX9_taken_32 (by decide) ?_
      refine q_ior C dX9_taken_33 ?_
      refine q_istore_n (i := 1) (lv' := [(1, .int (l1 ||| (0 : Int32))), (0, .ref l0), (2, .int l2)]) C dX9_taken_34 rfl (by decide) rfl ?_
      refine q_iinc 2 (v := (l2 + (1 : Int32))) (lv' := [(2, .int (l2 + (1 : Int32))), (1, .int (l1 ||| (0 : Int32))), (0, .ref l0)]) C dX9_taken_35 rfl rfl (by decide) rfl ?_
      refine q_goto (tgt := 4) C dX9_taken_38 (by decide) ?_
      exact q_sub (lv' := [(0, .ref l0), (1, .int (l1 ||| (0 : Int32))), (2, .int (l2 + (1 : Int32)))]) [2, 1, 0] rfl (kc ((l1 ||| (0 : Int32)), (l2 + (1 : Int32))) (someI h))
    · have h := ifF c8 h
      refine q_iconst (v := (1 : Int32)) C dX9_taken_26 (by decide) ?_
      refine q_iload_n 2 C dX9_taken_27 rfl ?_
      refine q_ishl C dX9_taken_28 ?_
      refine q_goto (tgt := 33) C dX9_taken_29 (by decide) ?_
      refine q_ior C dX9_taken_33 ?_
      obtain ⟨n9, e10, h⟩ := nmE h
      refine q_topI e10 ?_
      refine q_istore_n (i := 1) (lv' := [(1, .int n9), (0, .ref l0), (2, .int l2)]) C dX9_taken_34 rfl (by decide) rfl ?_
      refine q_iinc 2 (v := (l2 + (1 : Int32))) (lv' := [(2, .int (l2 + (1 : Int32))), (1, .int n9), (0, .ref l0)]) C dX9_taken_35 rfl rfl (by decide) rfl ?_
      refine q_goto (tgt := 4) C dX9_taken_38 (by decide) ?_
      exact q_sub (lv' := [(0, .ref l0), (1, .int n9), (2, .int (l2 + (1 : Int32)))]) [2, 1, 0] rfl (kc (n9, (l2 + (1 : Int32))) (someI h))
theorem w_X9_taken_l4 {X : CX} {r : Int32} (C : CK X cX9_taken 3 RX9 7 140) (hRO : RO X.2.2.1 X.1.2.2.2.2.1 X.1.2.2.2.2.1.heap) (hl : X.1.2.1.stackTraces = false) (l0 : Nat) (M : Mem) (l1 : Int32) (l2 : Int32) (h : loop (fun s => F_X9_taken_s4 l0 M s.1 s.2) (l1, l2) = some r) (kx : ∀ e' : Int32, r = e' → wq X 3 41 [(1, .int (e'))] [] M) : wq X 3 4 [(0, .ref l0), (1, .int l1), (2, .int l2)] [] M :=
  loop_ind (P := fun s => wq X 3 4 [(0, .ref l0), (1, .int s.1), (2, .int s.2)] [] M) h (fun s y hy kc kr => w_X9_taken_s4 C hRO hl l0 M s.1 s.2 hy kc (fun e' he => kx e' (kr _ he).symm))
set_option maxRecDepth 100000 in
set_option maxHeartbeats 4000000 in
theorem w_X9_taken {X : CX} {y : Int32} (C : CK X cX9_taken 3 RX9 7 140) (hRO : RO X.2.2.1 X.1.2.2.2.2.1 X.1.2.2.2.2.1.heap) (hl : X.1.2.1.stackTraces = false) (l0 : Nat) (M : Mem) (h : F_X9_taken l0 M = some y) (kf : FIN X (some .int) (rs_pI y) M) : wq X 3 0 [(0, .ref l0)] [] M := by
  unfold F_X9_taken at h
  refine q_iconst (v := (0 : Int32)) C dX9_taken_0 (by decide) ?_
  refine q_istore_n (i := 1) (lv' := [(1, .int (0 : Int32)), (0, .ref l0)]) C dX9_taken_1 rfl (by decide) rfl ?_
  refine q_iconst (v := (0 : Int32)) C dX9_taken_2 (by decide) ?_
  refine q_istore_n (i := 2) (lv' := [(2, .int (0 : Int32)), (1, .int (0 : Int32)), (0, .ref l0)]) C dX9_taken_3 rfl (by decide) rfl ?_
  obtain ⟨x13, e12, h⟩ := bindE h
  refine q_sub (lv' := [(0, .ref l0), (1, .int (0 : Int32)), (2, .int (0 : Int32))]) [2, 1, 0] rfl (w_X9_taken_l4 C hRO hl l0 M (0 : Int32) (0 : Int32) e12 (fun r11 he => ?_))
  subst he
  show wq X 3 41 [(1, .int x13)] [] M
  refine q_iload_n 0 C dX9_taken_41 rfl ?_
  cases h
  exact q_iret C kf dX9_taken_42
theorem k_X9_taken (l : Launch) (hl : l.stackTraces = false) (G : GG) (l0 : Nat) (M : Mem) (x : Int32) (h : F_X9_taken l0 M = some x) : Ct l G yX9_taken (.code yX9_taken cX9_taken 3 (some .int)) 7 140 [.ref l0] M (rs_pI x) M := by
  refine Ct_of (by decide +kernel) (Nat.le_of_ble_eq_true rfl) fun X e1 e2 e3 C FN hnm => ?_
  subst e1; subst e2
  show wq X 3 0 [(0, .ref l0)] [] M
  exact w_X9_taken C FN.2.2.2 hl l0 M h FN
/-! X9_tightNow -/
set_option maxRecDepth 100000 in
set_option maxHeartbeats 4000000 in
theorem w_X9_tightNow {X : CX} {y : Int32} (C : CK X cX9_tightNow 3 RX9 9 185) (hRO : RO X.2.2.1 X.1.2.2.2.2.1 X.1.2.2.2.2.1.heap) (hl : X.1.2.1.stackTraces = false) (l0 : Nat) (l1 : Int32) (M : Mem) (h : F_X9_tightNow l0 l1 M = some y) (kf : FIN X (some .int) (rs_pI y) M) : wq X 3 0 [(0, .ref l0), (1, .int l1)] [] M := by
  unfold F_X9_tightNow at h
  refine q_aload_n 0 C dX9_tightNow_0 rfl ?_
  refine q_iconst (v := (0 : Int32)) C dX9_tightNow_1 (by decide) ?_
  refine q_iload_n 1 C dX9_tightNow_2 rfl ?_
  obtain ⟨e1, h⟩ := ckOE h
  obtain ⟨v3, e2, h⟩ := bindE h
  refine q_callV (v := some (.int v3)) [.int (0 : Int32), .int l1] C hRO lk_RX9_339 vk_X9_houseOf e1 rfl rfl rfl (Nat.le_of_ble_eq_true rfl) (by decide) (by decide) dX9_tightNow_3 (k_X9_houseOf X.1.2.1 hl X.2.2.1 l0 (0 : Int32) l1 M _ e2) ?_
  refine q_istore_n (i := 2) (lv' := [(2, .int v3), (0, .ref l0), (1, .int l1)]) C dX9_tightNow_6 rfl (by decide) rfl ?_
  refine q_iload_n 0 C dX9_tightNow_7 rfl ?_
  refine q_iconst (v := (-1 : Int32)) C dX9_tightNow_8 (by decide) ?_
  refine q_icmp_ne (tgt := 16) C dX9_tightNow_9 (by decide) (fun c4 => ?_) (fun c4 => ?_)
  · have h := ifF c4 h
    refine q_aload_n 1 C dX9_tightNow_16 rfl ?_
    refine q_iconst (v := (0 : Int32)) C dX9_tightNow_17 (by decide) ?_
    refine q_iload_n 2 C dX9_tightNow_18 rfl ?_
    refine q_iload_n 0 C dX9_tightNow_19 rfl ?_
    obtain ⟨e5, h⟩ := ckOE h
    obtain ⟨v7, e6, h⟩ := bindE h
    refine q_callV (v := some (.int v7)) [.int (0 : Int32), .int l1, .int v3] C hRO lk_RX9_312 vk_X9_tightOf e5 rfl rfl rfl (Nat.le_of_ble_eq_true rfl) (by decide) (by decide) dX9_tightNow_20 (k_X9_tightOf X.1.2.1 hl X.2.2.1 l0 (0 : Int32) l1 v3 M _ e6) ?_
    cases h
    exact q_iret C kf dX9_tightNow_23
  · have h := ifT c4 h
    refine q_iconst (v := (0 : Int32)) C dX9_tightNow_12 (by decide) ?_
    refine q_goto (tgt := 23) C dX9_tightNow_13 (by decide) ?_
    cases h
    exact q_iret C kf dX9_tightNow_23
theorem k_X9_tightNow (l : Launch) (hl : l.stackTraces = false) (G : GG) (l0 : Nat) (l1 : Int32) (M : Mem) (x : Int32) (h : F_X9_tightNow l0 l1 M = some x) : Ct l G yX9_tightNow (.code yX9_tightNow cX9_tightNow 3 (some .int)) 9 185 [.ref l0, .int l1] M (rs_pI x) M := by
  refine Ct_of (by decide +kernel) (Nat.le_of_ble_eq_true rfl) fun X e1 e2 e3 C FN hnm => ?_
  subst e1; subst e2
  show wq X 3 0 [(0, .ref l0), (1, .int l1)] [] M
  exact w_X9_tightNow C FN.2.2.2 hl l0 l1 M h FN
/-! X9_tightest -/
set_option maxRecDepth 100000 in
set_option maxHeartbeats 4000000 in
theorem w_X9_tightest_s4 {X : CX} {y : (Int32 × Int32) ⊕ (Int32)} (C : CK X cX9_tightest 3 RX9 10 207) (hRO : RO X.2.2.1 X.1.2.2.2.2.1 X.1.2.2.2.2.1.heap) (hl : X.1.2.1.stackTraces = false) (l0 : Nat) (M : Mem) (l1 : Int32) (l2 : Int32) (h : F_X9_tightest_s4 l0 M l1 l2 = some y) (kc : ∀ s' : Int32 × Int32, y = .inl s' → wq X 3 4 [(0, .ref l0), (1, .int (s'.1)), (2, .int (s'.2))] [] M) (kx : ∀ e' : Int32, y = (.inr e') → wq X 3 42 [(1, .int (e'))] [] M) : wq X 3 4 [(0, .ref l0), (1, .int l1), (2, .int l2)] [] M := by
  unfold F_X9_tightest_s4 at h
  refine q_iload_n 2 C dX9_tightest_4 rfl ?_
  refine q_aload_n 0 C dX9_tightest_5 rfl ?_
  obtain ⟨v1, e2, h⟩ := bindE h
  refine q_getI C fl_RX9_278 rfl e2 dX9_tightest_6 ?_
  refine q_icmp_ge (tgt := 42) C dX9_tightest_9 (by decide) (fun c3 => ?_) (fun c3 => ?_)
  · have h := ifT c3 h
    exact q_sub (lv' := [(1, .int l1)]) [1] rfl (kx l1 (someI h))
  · have h := ifF c3 h
    refine q_aload_n 0 C dX9_tightest_12 rfl ?_
    refine q_iload_n 2 C dX9_tightest_13 rfl ?_
    obtain ⟨e4, h⟩ := ckOE h
    obtain ⟨v6, e5, h⟩ := bindE h
    refine q_callV (v := some (.int v6)) [.int l2] C hRO lk_RX9_342 vk_X9_tightNow e4 rfl rfl rfl (Nat.le_of_ble_eq_true rfl) (by decide) (by decide) dX9_tightest_14 (k_X9_tightNow X.1.2.1 hl X.2.2.1 l0 l2 M _ e5) ?_
    refine q_iload_n 1 C dX9_tightest_17 rfl ?_
    refine q_iconst (v := (-1 : Int32)) C dX9_tightest_18 (by decide) ?_
    refine q_icmp_ne (tgt := 26) C dX9_tightest_19 (by decide) (fun c7 => ?_) (fun c7 => ?_)
    · have h := ifF c7 h
      refine q_aload_n 0 C dX9_tightest_26 rfl ?_
      refine q_iload_n 1 C dX9_tightest_27 rfl ?_
      obtain ⟨e8, h⟩ := ckOE h
      obtain ⟨v10, e9, h⟩ := bindE h
      refine q_callV (v := some (.int v10)) [.int l1] C hRO lk_RX9_342 vk_X9_tightNow e8 rfl rfl rfl (Nat.le_of_ble_eq_true rfl) (by decide) (by decide) dX9_tightest_28 (k_X9_tightNow X.1.2.1 hl X.2.2.1 l0 l1 M _ e9) ?_
      refine q_icmp_le (tgt := 36) C dX9_tightest_31 (by decide) (fun c11 => ?_) (fun c11 => ?_)
      · have h := ifT c11 h
        refine q_iinc 2 (v := (l2 + (1 : Int32))) (lv' := [(2, .int (l2 + (1 : Int32))), (0, .ref l0), (1, .int l1)]) C dX9_tightest_36 rfl rfl (by decide) rfl ?_
        refine q_goto (tgt := 4) C dX9_tightest_39 (by decide) ?_
        exact q_sub (lv' := [(0, .ref l0), (1, .int l1), (2, .int (l2 + (1 : Int32)))]) [1, 2, 0] rfl (kc (l1, (l2 + (1 : Int32))) (someI h))
      · have h := ifF c11 h
        refine q_iload_n 2 C dX9_tightest_34 rfl ?_
        refine q_istore_n (i := 1) (lv' := [(1, .int l2), (0, .ref l0), (2, .int l2)]) C dX9_tightest_35 rfl (by decide) rfl ?_
        refine q_iinc 2 (v := (l2 + (1 : Int32))) (lv' := [(2, .int (l2 + (1 : Int32))), (1, .int l2), (0, .ref l0)]) C dX9_tightest_36 rfl rfl (by decide) rfl ?_
        refine q_goto (tgt := 4) C dX9_tightest_39 (by decide) ?_
        exact q_sub (lv' := [(0, .ref l0), (1, .int l2), (2, .int (l2 + (1 : Int32)))]) [2, 1, 0] rfl (kc (l2, (l2 + (1 : Int32))) (someI h))
    · have h := ifT c7 h
      refine q_iconst (v := (0 : Int32)) C dX9_tightest_22 (by decide) ?_
      refine q_goto (tgt := 31) C dX9_tightest_23 (by decide) ?_
      refine q_icmp_le (tgt := 36) C dX9_tightest_31 (by decide) (fun c12 => ?_) (fun c12 => ?_)
      · have h := ifT c12 h
        refine q_iinc 2 (v := (l2 + (1 : Int32))) (lv' := [(2, .int (l2 + (1 : Int32))), (0, .ref l0), (1, .int l1)]) C dX9_tightest_36 rfl rfl (by decide) rfl ?_
        refine q_goto (tgt := 4) C dX9_tightest_39 (by decide) ?_
        exact q_sub (lv' := [(0, .ref l0), (1, .int l1), (2, .int (l2 + (1 : Int32)))]) [1, 2, 0] rfl (kc (l1, (l2 + (1 : Int32))) (someI h))
      · have h := ifF c12 h
        refine q_iload_n 2 C dX9_tightest_34 rfl ?_
        refine q_istore_n (i := 1) (lv' := [(1, .int l2), (0, .ref l0), (2, .int l2)]) C dX9_tightest_35 rfl (by decide) rfl ?_
        refine q_iinc 2 (v := (l2 + (1 : Int32))) (lv' := [(2, .int (l2 + (1 : Int32))), (1, .int l2), (0, .ref l0)]) C dX9_tightest_36 rfl rfl (by decide) rfl ?_
        refine q_goto (tgt := 4) C dX9_tightest_39 (by decide) ?_
        exact q_sub (lv' := [(0, .ref l0), (1, .int l2), (2, .int (l2 + (1 : Int32)))]) [2, 1, 0] rfl (kc (l2, (l2 + (1 : Int32))) (someI h))
theorem w_X9_tightest_l4 {X : CX} {r : Int32} (C : CK X cX9_tightest 3 RX9 10 207) (hRO : RO X.2.2.1 X.1.2.2.2.2.1 X.1.2.2.2.2.1.heap) (hl : X.1.2.1.stackTraces = false) (l0 : Nat) (M : Mem) (l1 : Int32) (l2 : Int32) (h : loop (fun s => F_X9_tightest_s4 l0 M s.1 s.2) (l1, l2) = some r) (kx : ∀ e' : Int32, r = e' → wq X 3 42 [(1, .int (e'))] [] M) : wq X 3 4 [(0, .ref l0), (1, .int l1), (2, .int l2)] [] M :=
  loop_ind (P := fun s => wq X 3 4 [(0, .ref l0), (1, .int s.1), (2, .int s.2)] [] M) h (fun s y hy kc kr => w_X9_tightest_s4 C hRO hl l0 M s.1 s.2 hy kc (fun e' he => kx e' (kr _ he).symm))
set_option maxRecDepth 100000 in
set_option maxHeartbeats 4000000 in
theorem w_X9_tightest {X : CX} {y : Int32} (C : CK X cX9_tightest 3 RX9 10 207) (hRO : RO X.2.2.1 X.1.2.2.2.2.1 X.1.2.2.2.2.1.heap) (hl : X.1.2.1.stackTraces = false) (l0 : Nat) (M : Mem) (h : F_X9_tightest l0 M = some y) (kf : FIN X (some .int) (rs_pI y) M) : wq X 3 0 [(0, .ref l0)] [] M := by
  unfold F_X9_tightest at h
  refine q_iconst (v := (-1 : Int32)) C dX9_tightest_0 (by decide) ?_
  refine q_istore_n (i := 1) (lv' := [(1, .int (-1 : Int32)), (0, .ref l0)]) C dX9_tightest_1 rfl (by decide) rfl ?_
  refine q_iconst (v := (0 : Int32)) C dX9_tightest_2 (by decide) ?_
  refine q_istore_n (i := 2) (lv' := [(2, .int (0 : Int32)), (1, .int (-1 : Int32)), (0, .ref l0)]) C dX9_tightest_3 rfl (by decide) rfl ?_
  obtain ⟨x15, e14, h⟩ := bindE h
  refine q_sub (lv' := [(0, .ref l0), (1, .int (-1 : Int32)), (2, .int (0 : Int32))]) [2, 1, 0] rfl (w_X9_tightest_l4 C hRO hl l0 M (-1 : Int32) (0 : Int32) e14 (fun r13 he => ?_))
  subst he
  show wq X 3 42 [(1, .int x15)] [] M
  refine q_iload_n 0 C dX9_tightest_42 rfl ?_
  cases h
  exact q_iret C kf dX9_tightest_43
theorem k_X9_tightest (l : Launch) (hl : l.stackTraces = false) (G : GG) (l0 : Nat) (M : Mem) (x : Int32) (h : F_X9_tightest l0 M = some x) : Ct l G yX9_tightest (.code yX9_tightest cX9_tightest 3 (some .int)) 10 207 [.ref l0] M (rs_pI x) M := by
  refine Ct_of (by decide +kernel) (Nat.le_of_ble_eq_true rfl) fun X e1 e2 e3 C FN hnm => ?_
  subst e1; subst e2
  show wq X 3 0 [(0, .ref l0)] [] M
  exact w_X9_tightest C FN.2.2.2 hl l0 M h FN
/-! X9_count -/
set_option maxRecDepth 100000 in
set_option maxHeartbeats 4000000 in
theorem w_X9_count {X : CX} {y : Int32 × Mem} (C : CK X cX9_count 2 RX9 14 303) (hRO : RO X.2.2.1 X.1.2.2.2.2.1 X.1.2.2.2.2.1.heap) (hl : X.1.2.1.stackTraces = false) (l0 : Nat) (l1 : Int32) (M : Mem) (h : F_X9_count l0 l1 M = some y) (kf : FIN X (some .int) (rs_mI y) (ms_mI y)) : wq X 2 0 [(0, .ref l0), (1, .int l1)] [] M := by
  unfold F_X9_count at h
  refine q_aload_n 0 C dX9_count_0 rfl ?_
  refine q_iconst (v := (0 : Int32)) C dX9_count_1 (by decide) ?_
  obtain ⟨M1, e2, h⟩ := bindE h
  refine q_putI C fp_RX9_111 rfl e2 dX9_count_2 ?_
  refine q_aload_n 0 C dX9_count_5 rfl ?_
  refine q_iload_n 1 C dX9_count_6 rfl ?_
  refine q_iconst (v := (0 : Int32)) C dX9_count_7 (by decide) ?_
  refine q_bipush (v := (15 : Int32)) C dX9_count_8 (by decide) ?_
  obtain ⟨v4, e3, h⟩ := bindE h
  refine q_callS (v := some (.int v4)) [.int l1, .int (0 : Int32), .int (15 : Int32)] C hRO lk_RX9_345 sk_X9_within rfl rfl (Nat.le_of_ble_eq_true rfl) (by decide) (by decide) dX9_count_10 (k_X9_within X.1.2.1 hl X.2.2.1 l1 (0 : Int32) (15 : Int32) M1 _ e3) ?_
  refine q_iconst (v := (1 : Int32)) C dX9_count_13 (by decide) ?_
  obtain ⟨e5, h⟩ := ckOE h
  obtain ⟨v8, M7, e6, h⟩ := bd2E h
  refine q_callV (v := some (.int v8)) [.int v4, .int (1 : Int32)] C hRO lk_RX9_268 vk_X9_right e5 rfl rfl rfl (Nat.le_of_ble_eq_true rfl) (by decide) (by decide) dX9_count_14 (k_X9_right X.1.2.1 hl X.2.2.1 l0 v4 (1 : Int32) M1 _ e6) ?_
  refine q_if_ne (tgt := 22) C dX9_count_17 (by decide) (fun c9 => ?_) (fun c9 => ?_)
  · have h := ifF c9 h
    refine q_iload_n 1 C dX9_count_22 rfl ?_
    by_cases c10 : l1 = (0 : Int32)
    · have h := ifT c10 h
      refine q_tableIn (off := 65) (tgt := 88) C dX9_count_23 (by rw [c10]; decide) (by rw [c10]; decide) (by rw [c10]; rfl) (by decide) ?_
      refine q_aload_n 0 C dX9_count_88 rfl ?_
      obtain ⟨v11, e12, h⟩ := bindE h
      refine q_getI C fl_RX9_275 rfl e12 dX9_count_89 ?_
      cases h
      exact q_iret C kf dX9_count_92
    have h := ifF c10 h
    by_cases c13 : l1 = (1 : Int32)
    · have h := ifT c13 h
      refine q_tableIn (off := 70) (tgt := 93) C dX9_count_23 (by rw [c13]; decide) (by rw [c13]; decide) (by rw [c13]; rfl) (by decide) ?_
      refine q_aload_n 0 C dX9_count_93 rfl ?_
      obtain ⟨v14, e15, h⟩ := bindE h
      refine q_getI C fl_RX9_278 rfl e15 dX9_count_94 ?_
      cases h
      exact q_iret C kf dX9_count_97
    have h := ifF c13 h
    by_cases c16 : l1 = (2 : Int32)
    · have h := ifT c16 h
      refine q_tableIn (off := 75) (tgt := 98) C dX9_count_23 (by rw [c16]; decide) (by rw [c16]; decide) (by rw [c16]; rfl) (by decide) ?_
      refine q_aload_n 0 C dX9_count_98 rfl ?_
      obtain ⟨v17, e18, h⟩ := bindE h
      refine q_getP C fl_RX9_66 rfl e18 dX9_count_99 ?_
      refine q_iconst (v := (0 : Int32)) C dX9_count_102 (by decide) ?_
      obtain ⟨v19, e20, h⟩ := bindE h
      refine q_iaload C e20 dX9_count_103 ?_
      cases h
      exact q_iret C kf dX9_count_104
    have h := ifF c16 h
    by_cases c21 : l1 = (3 : Int32)
    · have h := ifT c21 h
      refine q_tableIn (off := 82) (tgt := 105) C dX9_count_23 (by rw [c21]; decide) (by rw [c21]; decide) (by rw [c21]; rfl) (by decide) ?_
      refine q_aload_n 0 C dX9_count_105 rfl ?_
      refine q_iconst (v := (0 : Int32)) C dX9_count_106 (by decide) ?_
      obtain ⟨e22, h⟩ := ckOE h
      obtain ⟨v24, e23, h⟩ := bindE h
      refine q_callV (v := some (.int v24)) [.int (0 : Int32)] C hRO lk_RX9_309 vk_X9_dampIn e22 rfl rfl rfl (Nat.le_of_ble_eq_true rfl) (by decide) (by decide) dX9_count_107 (k_X9_dampIn X.1.2.1 hl X.2.2.1 l0 (0 : Int32) M7 _ e23) ?_
      cases h
      exact q_iret C kf dX9_count_110
    have h := ifF c21 h
    by_cases c25 : l1 = (4 : Int32)
    · have h := ifT c25 h
      refine q_tableIn (off := 88) (tgt := 111) C dX9_count_23 (by rw [c25]; decide) (by rw [c25]; decide) (by rw [c25]; rfl) (by decide) ?_
      refine q_aload_n 0 C dX9_count_111 rfl ?_
      obtain ⟨v26, e27, h⟩ := bindE h
      refine q_getP C fl_RX9_66 rfl e27 dX9_count_112 ?_
      refine q_iconst (v := (1 : Int32)) C dX9_count_115 (by decide) ?_
      obtain ⟨v28, e29, h⟩ := bindE h
      refine q_iaload C e29 dX9_count_116 ?_
      cases h
      exact q_iret C kf dX9_count_117
    have h := ifF c25 h
    by_cases c30 : l1 = (5 : Int32)
    · have h := ifT c30 h
      refine q_tableIn (off := 95) (tgt := 118) C dX9_count_23 (by rw [c30]; decide) (by rw [c30]; decide) (by rw [c30]; rfl) (by decide) ?_
      refine q_aload_n 0 C dX9_count_118 rfl ?_
      obtain ⟨e31, h⟩ := ckOE h
      obtain ⟨v33, e32, h⟩ := bindE h
      refine q_callV (v := some (.int v33)) [] C hRO lk_RX9_349 vk_X9_taken e31 rfl rfl rfl (Nat.le_of_ble_eq_true rfl) (by decide) (by decide) dX9_count_119 (k_X9_taken X.1.2.1 hl X.2.2.1 l0 M7 _ e32) ?_
      cases h
      exact q_iret C kf dX9_count_122
    have h := ifF c30 h
    by_cases c34 : l1 = (6 : Int32)
    · have h := ifT c34 h
      refine q_tableIn (off := 100) (tgt := 123) C dX9_count_23 (by rw [c34]; decide) (by rw [c34]; decide) (by rw [c34]; rfl) (by decide) ?_
      refine q_aload_n 0 C dX9_count_123 rfl ?_
      refine q_iconst (v := (0 : Int32)) C dX9_count_124 (by decide) ?_
      obtain ⟨e35, h⟩ := ckOE h
      obtain ⟨v37, e36, h⟩ := bindE h
      refine q_callV (v := some (.int v37)) [.int (0 : Int32)] C hRO lk_RX9_352 vk_X9_lodgersIn e35 rfl rfl rfl (Nat.le_of_ble_eq_true rfl) (by decide) (by decide) dX9_count_125 (k_X9_lodgersIn X.1.2.1 hl X.2.2.1 l0 (0 : Int32) M7 _ e36) ?_
      cases h
      exact q_iret C kf dX9_count_128
    have h := ifF c34 h
    by_cases c38 : l1 = (7 : Int32)
    · have h := ifT c38 h
      refine q_tableIn (off := 106) (tgt := 129) C dX9_count_23 (by rw [c38]; decide) (by rw [c38]; decide) (by rw [c38]; rfl) (by decide) ?_
      refine q_aload_n 0 C dX9_count_129 rfl ?_
      refine q_iconst (v := (0 : Int32)) C dX9_count_130 (by decide) ?_
      obtain ⟨e39, h⟩ := ckOE h
      obtain ⟨v41, e40, h⟩ := bindE h
      refine q_callV (v := some (.int v41)) [.int (0 : Int32)] C hRO lk_RX9_355 vk_X9_soreIn e39 rfl rfl rfl (Nat.le_of_ble_eq_true rfl) (by decide) (by decide) dX9_count_131 (k_X9_soreIn X.1.2.1 hl X.2.2.1 l0 (0 : Int32) M7 _ e40) ?_
      cases h
      exact q_iret C kf dX9_count_134
    have h := ifF c38 h
    by_cases c42 : l1 = (8 : Int32)
    · have h := ifT c42 h
      refine q_tableIn (off := 112) (tgt := 135) C dX9_count_23 (by rw [c42]; decide) (by rw [c42]; decide) (by rw [c42]; rfl) (by decide) ?_
      refine q_aload_n 0 C dX9_count_135 rfl ?_
      obtain ⟨e43, h⟩ := ckOE h
      obtain ⟨v45, e44, h⟩ := bindE h
      refine q_callV (v := some (.int v45)) [] C hRO lk_RX9_358 vk_X9_tightest e43 rfl rfl rfl (Nat.le_of_ble_eq_true rfl) (by decide) (by decide) dX9_count_136 (k_X9_tightest X.1.2.1 hl X.2.2.1 l0 M7 _ e44) ?_
      cases h
      exact q_iret C kf dX9_count_139
    have h := ifF c42 h
    by_cases c46 : l1 = (9 : Int32)
    · have h := ifT c46 h
      refine q_tableIn (off := 117) (tgt := 140) C dX9_count_23 (by rw [c46]; decide) (by rw [c46]; decide) (by rw [c46]; rfl) (by decide) ?_
      refine q_aload_n 0 C dX9_count_140 rfl ?_
      obtain ⟨e47, h⟩ := ckOE h
      obtain ⟨v50, M49, e48, h⟩ := bd2E h
      refine q_callV (v := some (.int v50)) [] C hRO lk_RX9_361 vk_X9_needed e47 rfl rfl rfl (Nat.le_of_ble_eq_true rfl) (by decide) (by decide) dX9_count_141 (k_X9_needed X.1.2.1 hl X.2.2.1 l0 M7 _ e48) ?_
      cases h
      exact q_iret C kf dX9_count_144
    have h := ifF c46 h
    by_cases c51 : l1 = (10 : Int32)
    · have h := ifT c51 h
      refine q_tableIn (off := 122) (tgt := 145) C dX9_count_23 (by rw [c51]; decide) (by rw [c51]; decide) (by rw [c51]; rfl) (by decide) ?_
      refine q_aload_n 0 C dX9_count_145 rfl ?_
      obtain ⟨v52, e53, h⟩ := bindE h
      refine q_getI C fl_RX9_288 rfl e53 dX9_count_146 ?_
      cases h
      exact q_iret C kf dX9_count_149
    have h := ifF c51 h
    by_cases c54 : l1 = (11 : Int32)
    · have h := ifT c54 h
      refine q_tableIn (off := 127) (tgt := 150) C dX9_count_23 (by rw [c54]; decide) (by rw [c54]; decide) (by rw [c54]; rfl) (by decide) ?_
      refine q_aload_n 0 C dX9_count_150 rfl ?_
      obtain ⟨v55, e56, h⟩ := bindE h
      refine q_getI C fl_RX9_291 rfl e56 dX9_count_151 ?_
      cases h
      exact q_iret C kf dX9_count_154
    have h := ifF c54 h
    by_cases c57 : l1 = (12 : Int32)
    · have h := ifT c57 h
      refine q_tableIn (off := 132) (tgt := 155) C dX9_count_23 (by rw [c57]; decide) (by rw [c57]; decide) (by rw [c57]; rfl) (by decide) ?_
      refine q_aload_n 0 C dX9_count_155 rfl ?_
      obtain ⟨v58, e59, h⟩ := bindE h
      refine q_getI C fl_RX9_114 rfl e59 dX9_count_156 ?_
      cases h
      exact q_iret C kf dX9_count_159
    have h := ifF c57 h
    refine q_tableOut (tgt := 160) C dX9_count_23 (by have z0 := neI c10; have z1 := neI c13; have z2 := neI c16; have z3 := neI c21; have z4 := neI c25; have z5 := neI c30; have z6 := neI c34; have z7 := neI c38; have z8 := neI c42; have z9 := neI c46; have z10 := neI c51; have z11 := neI c54; have z12 := neI c57; simp only [Int32.reduceToInt] at *; omega) (by decide) ?_
    refine q_aload_n 0 C dX9_count_160 rfl ?_
    obtain ⟨v60, e61, h⟩ := bindE h
    refine q_getP C fl_RX9_38 rfl e61 dX9_count_161 ?_
    refine q_iload_n 1 C dX9_count_164 rfl ?_
    refine q_bipush (v := (13 : Int32)) C dX9_count_165 (by decide) ?_
    refine q_isub C dX9_count_167 ?_
    obtain ⟨v62, e63, h⟩ := bindE h
    refine q_iaload C e63 dX9_count_168 ?_
    cases h
    exact q_iret C kf dX9_count_169
  · have h := ifT c9 h
    refine q_iconst (v := (0 : Int32)) C dX9_count_20 (by decide) ?_
    cases h
    exact q_iret C kf dX9_count_21
theorem k_X9_count (l : Launch) (hl : l.stackTraces = false) (G : GG) (l0 : Nat) (l1 : Int32) (M : Mem) (x : Int32 × Mem) (h : F_X9_count l0 l1 M = some x) : Ct l G yX9_count (.code yX9_count cX9_count 2 (some .int)) 14 303 [.ref l0, .int l1] M (rs_mI x) (ms_mI x) := by
  refine Ct_of (by decide +kernel) (Nat.le_of_ble_eq_true rfl) fun X e1 e2 e3 C FN hnm => ?_
  subst e1; subst e2
  show wq X 2 0 [(0, .ref l0), (1, .int l1)] [] M
  exact w_X9_count C FN.2.2.2 hl l0 l1 M h FN
/-! X9_dampest -/
set_option maxRecDepth 100000 in
set_option maxHeartbeats 4000000 in
theorem w_X9_dampest_s28 {X : CX} {y : (Int32 × Int32 × Int32) ⊕ (Int32)} (C : CK X cX9_dampest 6 RX9 9 185) (hRO : RO X.2.2.1 X.1.2.2.2.2.1 X.1.2.2.2.2.1.heap) (hl : X.1.2.1.stackTraces = false) (l0 : Nat) (l1 : Int32) (M : Mem) (l2 : Int32) (l3 : Int32) (l4 : Int32) (h : F_X9_dampest_s28 l0 l1 M l2 l3 l4 = some y) (kc : ∀ s' : Int32 × Int32 × Int32, y = .inl s' → wq X 6 28 [(0, .ref l0), (1, .int l1), (2, .int (s'.1)), (3, .int (s'.2.1)), (4, .int (s'.2.2))] [] M) (kx : ∀ e' : Int32, y = (.inr e') → wq X 6 70 [(2, .int (e'))] [] M) : wq X 6 28 [(0, .ref l0), (1, .int l1), (2, .int l2), (3, .int l3), (4, .int l4)] [] M := by
  unfold F_X9_dampest_s28 at h
  refine q_iload 4 C dX9_dampest_28 rfl ?_
  refine q_iload_n 1 C dX9_dampest_30 rfl ?_
  refine q_icmp_ge (tgt := 70) C dX9_dampest_31 (by decide) (fun c11 => ?_) (fun c11 => ?_)
  · have h := ifT c11 h
    exact q_sub (lv' := [(2, .int l2)]) [2] rfl (kx l2 (someI h))
  · have h := ifF c11 h
    refine q_aload_n 0 C dX9_dampest_34 rfl ?_
    refine q_aload_n 0 C dX9_dampest_35 rfl ?_
    obtain ⟨v12, e13, h⟩ := bindE h
    refine q_getP C fl_RX9_66 rfl e13 dX9_dampest_36 ?_
    refine q_iconst (v := (0 : Int32)) C dX9_dampest_39 (by decide) ?_
    obtain ⟨v14, e15, h⟩ := bindE h
    refine q_iaload C e15 dX9_dampest_40 ?_
    refine q_iload 4 C dX9_dampest_41 rfl ?_
    refine q_iadd C dX9_dampest_43 ?_
    obtain ⟨e16, h⟩ := ckOE h
    obtain ⟨v18, e17, h⟩ := bindE h
    refine q_callV (v := some (.int v18)) [.int (v14 + l4)] C hRO lk_RX9_302 vk_X9_toldDamp e16 rfl rfl rfl (Nat.le_of_ble_eq_true rfl) (by decide) (by decide) dX9_dampest_44 (k_X9_toldDamp X.1.2.1 hl X.2.2.1 l0 (v14 + l4) M _ e17) ?_
    refine q_istore (i := 5) (lv' := [(5, .int v18), (0, .ref l0), (1, .int l1), (2, .int l2), (3, .int l3), (4, .int l4)]) C dX9_dampest_47 (by decide) rfl ?_
    refine q_iload 0 C dX9_dampest_49 rfl ?_
    refine q_iload_n 4 C dX9_dampest_51 rfl ?_
    refine q_icmp_gt (tgt := 58) C dX9_dampest_52 (by decide) (fun c19 => ?_) (fun c19 => ?_)
    · have h := ifT c19 h
      refine q_iload 5 C dX9_dampest_58 rfl ?_
      refine q_istore_n (i := 2) (lv' := [(2, .int l4), (5, .int v18), (0, .ref l0), (1, .int l1), (3, .int l3), (4, .int l4)]) C dX9_dampest_60 rfl (by decide) rfl ?_
      refine q_iload 1 C dX9_dampest_61 rfl ?_
      refine q_istore_n (i := 3) (lv' := [(3, .int v18), (2, .int l4), (5, .int v18), (0, .ref l0), (1, .int l1), (4, .int l4)]) C dX9_dampest_63 rfl (by decide) rfl ?_
      refine q_iinc 5 (v := (l4 + (1 : Int32))) (lv' := [(4, .int (l4 + (1 : Int32))), (3, .int v18), (2, .int l4), (5, .int v18), (0, .ref l0), (1, .int l1)]) C dX9_dampest_64 rfl rfl (by decide) rfl ?_
      refine q_goto (tgt := 28) C dX9_dampest_67 (by decide) ?_
      exact q_sub (lv' := [(0, .ref l0), (1, .int l1), (2, .int l4), (3, .int v18), (4, .int (l4 + (1 : Int32)))]) [4, 5, 2, 1, 0] rfl (kc (l4, v18, (l4 + (1 : Int32))) (someI h))
    · have h := ifF c19 h
      refine q_goto (tgt := 64) C dX9_dampest_55 (by decide) ?_
      refine q_iinc 5 (v := (l4 + (1 : Int32))) (lv' := [(4, .int (l4 + (1 : Int32))), (5, .int v18), (0, .ref l0), (1, .int l1), (2, .int l2), (3, .int l3)]) C dX9_dampest_64 rfl rfl (by decide) rfl ?_
      refine q_goto (tgt := 28) C dX9_dampest_67 (by decide) ?_
      exact q_sub (lv' := [(0, .ref l0), (1, .int l1), (2, .int l2), (3, .int l3), (4, .int (l4 + (1 : Int32)))]) [2, 3, 4, 5, 0] rfl (kc (l2, l3, (l4 + (1 : Int32))) (someI h))
theorem w_X9_dampest_l28 {X : CX} {r : Int32} (C : CK X cX9_dampest 6 RX9 9 185) (hRO : RO X.2.2.1 X.1.2.2.2.2.1 X.1.2.2.2.2.1.heap) (hl : X.1.2.1.stackTraces = false) (l0 : Nat) (l1 : Int32) (M : Mem) (l2 : Int32) (l3 : Int32) (l4 : Int32) (h : loop (fun s => F_X9_dampest_s28 l0 l1 M s.1 s.2.1 s.2.2) (l2, l3, l4) = some r) (kx : ∀ e' : Int32, r = e' → wq X 6 70 [(2, .int (e'))] [] M) : wq X 6 28 [(0, .ref l0), (1, .int l1), (2, .int l2), (3, .int l3), (4, .int l4)] [] M :=
  loop_ind (P := fun s => wq X 6 28 [(0, .ref l0), (1, .int l1), (2, .int s.1), (3, .int s.2.1), (4, .int s.2.2)] [] M) h (fun s y hy kc kr => w_X9_dampest_s28 C hRO hl l0 l1 M s.1 s.2.1 s.2.2 hy kc (fun e' he => kx e' (kr _ he).symm))
set_option maxRecDepth 100000 in
set_option maxHeartbeats 4000000 in
theorem w_X9_dampest {X : CX} {y : Int32 × Mem} (C : CK X cX9_dampest 6 RX9 9 185) (hRO : RO X.2.2.1 X.1.2.2.2.2.1 X.1.2.2.2.2.1.heap) (hl : X.1.2.1.stackTraces = false) (l0 : Nat) (l1 : Int32) (M : Mem) (h : F_X9_dampest l0 l1 M = some y) (kf : FIN X (some .int) (rs_mI y) (ms_mI y)) : wq X 6 0 [(0, .ref l0), (1, .int l1)] [] M := by
  unfold F_X9_dampest at h
  refine q_aload_n 0 C dX9_dampest_0 rfl ?_
  refine q_iconst (v := (0 : Int32)) C dX9_dampest_1 (by decide) ?_
  obtain ⟨M1, e2, h⟩ := bindE h
  refine q_putI C fp_RX9_111 rfl e2 dX9_dampest_2 ?_
  refine q_aload_n 0 C dX9_dampest_5 rfl ?_
  refine q_iload_n 1 C dX9_dampest_6 rfl ?_
  refine q_iconst (v := (1 : Int32)) C dX9_dampest_7 (by decide) ?_
  refine q_iconst (v := (1 : Int32)) C dX9_dampest_8 (by decide) ?_
  obtain ⟨e3, h⟩ := ckOE h
  obtain ⟨v6, M5, e4, h⟩ := bd2E h
  refine q_callV (v := some (.int v6)) [.int l1, .int (1 : Int32), .int (1 : Int32)] C hRO lk_RX9_397 vk_X9_isDays e3 rfl rfl rfl (Nat.le_of_ble_eq_true rfl) (by decide) (by decide) dX9_dampest_9 (k_X9_isDays X.1.2.1 hl X.2.2.1 l0 l1 (1 : Int32) (1 : Int32) M1 _ e4) ?_
  refine q_if_ne (tgt := 17) C dX9_dampest_12 (by decide) (fun c7 => ?_) (fun c7 => ?_)
  · have h := ifF c7 h
    refine q_iconst (v := (0 : Int32)) C dX9_dampest_17 (by decide) ?_
    refine q_istore_n (i := 2) (lv' := [(2, .int (0 : Int32)), (0, .ref l0), (1, .int l1)]) C dX9_dampest_18 rfl (by decide) rfl ?_
    refine q_aload_n 1 C dX9_dampest_19 rfl ?_
    refine q_iconst (v := (0 : Int32)) C dX9_dampest_20 (by decide) ?_
    obtain ⟨e8, h⟩ := ckOE h
    obtain ⟨v10, e9, h⟩ := bindE h
    refine q_callV (v := some (.int v10)) [.int (0 : Int32)] C hRO lk_RX9_309 vk_X9_dampIn e8 rfl rfl rfl (Nat.le_of_ble_eq_true rfl) (by decide) (by decide) dX9_dampest_21 (k_X9_dampIn X.1.2.1 hl X.2.2.1 l0 (0 : Int32) M5 _ e9) ?_
    refine q_istore_n (i := 3) (lv' := [(3, .int v10), (2, .int (0 : Int32)), (0, .ref l0), (1, .int l1)]) C dX9_dampest_24 rfl (by decide) rfl ?_
    refine q_iconst (v := (1 : Int32)) C dX9_dampest_25 (by decide) ?_
    refine q_istore (i := 4) (lv' := [(4, .int (1 : Int32)), (3, .int v10), (2, .int (0 : Int32)), (0, .ref l0), (1, .int l1)]) C dX9_dampest_26 (by decide) rfl ?_
    obtain ⟨x22, e21, h⟩ := bindE h
    refine q_sub (lv' := [(0, .ref l0), (1, .int l1), (2, .int (0 : Int32)), (3, .int v10), (4, .int (1 : Int32))]) [3, 4, 2, 1, 0] rfl (w_X9_dampest_l28 C hRO hl l0 l1 M5 (0 : Int32) v10 (1 : Int32) e21 (fun r20 he => ?_))
    subst he
    show wq X 6 70 [(2, .int x22)] [] M5
    refine q_iload_n 0 C dX9_dampest_70 rfl ?_
    cases h
    exact q_iret C kf dX9_dampest_71
  · have h := ifT c7 h
    refine q_iconst (v := (0 : Int32)) C dX9_dampest_15 (by decide) ?_
    cases h
    exact q_iret C kf dX9_dampest_16
theorem k_X9_dampest (l : Launch) (hl : l.stackTraces = false) (G : GG) (l0 : Nat) (l1 : Int32) (M : Mem) (x : Int32 × Mem) (h : F_X9_dampest l0 l1 M = some x) : Ct l G yX9_dampest (.code yX9_dampest cX9_dampest 6 (some .int)) 9 185 [.ref l0, .int l1] M (rs_mI x) (ms_mI x) := by
  refine Ct_of (by decide +kernel) (Nat.le_of_ble_eq_true rfl) fun X e1 e2 e3 C FN hnm => ?_
  subst e1; subst e2
  show wq X 6 0 [(0, .ref l0), (1, .int l1)] [] M
  exact w_X9_dampest C FN.2.2.2 hl l0 l1 M h FN
/-! X9_days -/
set_option maxRecDepth 100000 in
set_option maxHeartbeats 4000000 in
theorem w_X9_days_s41 {X : CX} {y : (Int32 × Mem) ⊕ (Mem)} (C : CK X cX9_days 3 RX9 12 257) (hRO : RO X.2.2.1 X.1.2.2.2.2.1 X.1.2.2.2.2.1.heap) (hl : X.1.2.1.stackTraces = false) (l0 : Nat) (l1 : Int32) (l2 : Int32) (M : Mem) (h : F_X9_days_s41 l0 l1 l2 M = some y) (kc : ∀ s' : Int32 × Mem, y = .inl s' → wq X 3 41 [(0, .ref l0), (1, .int l1), (2, .int (s'.1))] [] s'.2) (kx : ∀ e' : Mem, y = (.inr e') → wq X 3 57 [(0, .ref l0)] [] e') : wq X 3 41 [(0, .ref l0), (1, .int l1), (2, .int l2)] [] M := by
  unfold F_X9_days_s41 at h
  refine q_iload_n 2 C dX9_days_41 rfl ?_
  refine q_iload_n 1 C dX9_days_42 rfl ?_
  refine q_icmp_ge (tgt := 57) C dX9_days_43 (by decide) (fun c19 => ?_) (fun c19 => ?_)
  · have h := ifT c19 h
    exact q_sub (lv' := [(0, .ref l0)]) [0] rfl (kx M (someI h))
  · have h := ifF c19 h
    refine q_aload_n 0 C dX9_days_46 rfl ?_
    refine q_iconst (v := (0 : Int32)) C dX9_days_47 (by decide) ?_
    obtain ⟨e20, h⟩ := ckOE h
    obtain ⟨M22, e21, h⟩ := bindE h
    refine q_callV (v := none) [.int (0 : Int32)] C hRO lk_RX9_336 vk_X9_dayGoes e20 rfl rfl rfl (Nat.le_of_ble_eq_true rfl) (by decide) (by decide) dX9_days_48 (k_X9_dayGoes X.1.2.1 hl X.2.2.1 l0 (0 : Int32) M _ e21) ?_
    refine q_iinc 2 (v := (l2 + (1 : Int32))) (lv' := [(2, .int (l2 + (1 : Int32))), (0, .ref l0), (1, .int l1)]) C dX9_days_51 rfl rfl (by decide) rfl ?_
    refine q_goto (tgt := 41) C dX9_days_54 (by decide) ?_
    exact q_sub (lv' := [(0, .ref l0), (1, .int l1), (2, .int (l2 + (1 : Int32)))]) [1, 2, 0] rfl (kc ((l2 + (1 : Int32)), M22) (someI h))
theorem w_X9_days_l41 {X : CX} {r : Mem} (C : CK X cX9_days 3 RX9 12 257) (hRO : RO X.2.2.1 X.1.2.2.2.2.1 X.1.2.2.2.2.1.heap) (hl : X.1.2.1.stackTraces = false) (l0 : Nat) (l1 : Int32) (l2 : Int32) (M : Mem) (h : loop (fun s => F_X9_days_s41 l0 l1 s.1 s.2) (l2, M) = some r) (kx : ∀ e' : Mem, r = e' → wq X 3 57 [(0, .ref l0)] [] e') : wq X 3 41 [(0, .ref l0), (1, .int l1), (2, .int l2)] [] M :=
  loop_ind (P := fun s => wq X 3 41 [(0, .ref l0), (1, .int l1), (2, .int s.1)] [] s.2) h (fun s y hy kc kr => w_X9_days_s41 C hRO hl l0 l1 s.1 s.2 hy kc (fun e' he => kx e' (kr _ he).symm))
set_option maxRecDepth 100000 in
set_option maxHeartbeats 4000000 in
theorem w_X9_days {X : CX} {y : Int32 × Mem} (C : CK X cX9_days 3 RX9 12 257) (hRO : RO X.2.2.1 X.1.2.2.2.2.1 X.1.2.2.2.2.1.heap) (hl : X.1.2.1.stackTraces = false) (l0 : Nat) (l1 : Int32) (M : Mem) (h : F_X9_days l0 l1 M = some y) (kf : FIN X (some .int) (rs_mI y) (ms_mI y)) : wq X 3 0 [(0, .ref l0), (1, .int l1)] [] M := by
  unfold F_X9_days at h
  refine q_aload_n 0 C dX9_days_0 rfl ?_
  refine q_iconst (v := (0 : Int32)) C dX9_days_1 (by decide) ?_
  obtain ⟨M1, e2, h⟩ := bindE h
  refine q_putI C fp_RX9_111 rfl e2 dX9_days_2 ?_
  refine q_iload_n 1 C dX9_days_5 rfl ?_
  refine q_iconst (v := (1 : Int32)) C dX9_days_6 (by decide) ?_
  refine q_bipush (v := (20 : Int32)) C dX9_days_7 (by decide) ?_
  obtain ⟨v4, e3, h⟩ := bindE h
  refine q_callS (v := some (.int v4)) [.int l1, .int (1 : Int32), .int (20 : Int32)] C hRO lk_RX9_345 sk_X9_within rfl rfl (Nat.le_of_ble_eq_true rfl) (by decide) (by decide) dX9_days_9 (k_X9_within X.1.2.1 hl X.2.2.1 l1 (1 : Int32) (20 : Int32) M1 _ e3) ?_
  refine q_if_eq (tgt := 29) C dX9_days_12 (by decide) (fun c5 => ?_) (fun c5 => ?_)
  · have h := ifT c5 h
    refine q_aload_n 0 C dX9_days_29 rfl ?_
    refine q_iconst (v := (1 : Int32)) C dX9_days_30 (by decide) ?_
    obtain ⟨e6, h⟩ := ckOE h
    obtain ⟨v9, M8, e7, h⟩ := bd2E h
    refine q_callV (v := some (.int v9)) [.int (1 : Int32)] C hRO lk_RX9_382 vk_X9_refuses e6 rfl rfl rfl (Nat.le_of_ble_eq_true rfl) (by decide) (by decide) dX9_days_31 (k_X9_refuses X.1.2.1 hl X.2.2.1 l0 (1 : Int32) M1 _ e7) ?_
    cases h
    exact q_iret C kf dX9_days_34
  · have h := ifF c5 h
    refine q_aload_n 0 C dX9_days_15 rfl ?_
    obtain ⟨v10, e11, h⟩ := bindE h
    refine q_getP C fl_RX9_66 rfl e11 dX9_days_16 ?_
    refine q_iconst (v := (0 : Int32)) C dX9_days_19 (by decide) ?_
    obtain ⟨v12, e13, h⟩ := bindE h
    refine q_iaload C e13 dX9_days_20 ?_
    refine q_iload_n 1 C dX9_days_21 rfl ?_
    refine q_iadd C dX9_days_22 ?_
    refine q_sipush (v := (999 : Int32)) C dX9_days_23 (by decide) ?_
    refine q_icmp_le (tgt := 35) C dX9_days_26 (by decide) (fun c14 => ?_) (fun c14 => ?_)
    · have h := ifT c14 h
      refine q_aload_n 0 C dX9_days_35 rfl ?_
      obtain ⟨e15, h⟩ := ckOE h
      obtain ⟨M17, e16, h⟩ := bindE h
      refine q_callV (v := none) [] C hRO lk_RX9_385 vk_X9_keeps e15 rfl rfl rfl (Nat.le_of_ble_eq_true rfl) (by decide) (by decide) dX9_days_36 (k_X9_keeps X.1.2.1 hl X.2.2.1 l0 M1 _ e16) ?_
      refine q_iconst (v := (0 : Int32)) C dX9_days_39 (by decide) ?_
      refine q_istore_n (i := 2) (lv' := [(2, .int (0 : Int32)), (0, .ref l0), (1, .int l1)]) C dX9_days_40 rfl (by decide) rfl ?_
      obtain ⟨M26, e25, h⟩ := bindE h
      refine q_sub (lv' := [(0, .ref l0), (1, .int l1), (2, .int (0 : Int32))]) [1, 2, 0] rfl (w_X9_days_l41 C hRO hl l0 l1 (0 : Int32) M17 e25 (fun r24 he => ?_))
      subst he
      show wq X 3 57 [(0, .ref l0)] [] M26
      refine q_aload_n 0 C dX9_days_57 rfl ?_
      obtain ⟨v27, e28, h⟩ := bindE h
      refine q_getP C fl_RX9_66 rfl e28 dX9_days_58 ?_
      refine q_iconst (v := (0 : Int32)) C dX9_days_61 (by decide) ?_
      obtain ⟨v29, e30, h⟩ := bindE h
      refine q_iaload C e30 dX9_days_62 ?_
      cases h
      exact q_iret C kf dX9_days_63
    · have h := ifF c14 h
      refine q_aload_n 0 C dX9_days_29 rfl ?_
      refine q_iconst (v := (1 : Int32)) C dX9_days_30 (by decide) ?_
      obtain ⟨e32, h⟩ := ckOE h
      obtain ⟨v35, M34, e33, h⟩ := bd2E h
      refine q_callV (v := some (.int v35)) [.int (1 : Int32)] C hRO lk_RX9_382 vk_X9_refuses e32 rfl rfl rfl (Nat.le_of_ble_eq_true rfl) (by decide) (by decide) dX9_days_31 (k_X9_refuses X.1.2.1 hl X.2.2.1 l0 (1 : Int32) M1 _ e33) ?_
      cases h
      exact q_iret C kf dX9_days_34
theorem k_X9_days (l : Launch) (hl : l.stackTraces = false) (G : GG) (l0 : Nat) (l1 : Int32) (M : Mem) (x : Int32 × Mem) (h : F_X9_days l0 l1 M = some x) : Ct l G yX9_days (.code yX9_days cX9_days 3 (some .int)) 12 257 [.ref l0, .int l1] M (rs_mI x) (ms_mI x) := by
  refine Ct_of (by decide +kernel) (Nat.le_of_ble_eq_true rfl) fun X e1 e2 e3 C FN hnm => ?_
  subst e1; subst e2
  show wq X 3 0 [(0, .ref l0), (1, .int l1)] [] M
  exact w_X9_days C FN.2.2.2 hl l0 l1 M h FN
/-! X9_isSign -/
set_option maxRecDepth 100000 in
set_option maxHeartbeats 4000000 in
theorem w_X9_isSign {X : CX} {y : Int32} (C : CK X cX9_isSign 2 RX9 7 140) (hRO : RO X.2.2.1 X.1.2.2.2.2.1 X.1.2.2.2.2.1.heap) (hl : X.1.2.1.stackTraces = false) (l0 : Nat) (l1 : Int32) (M : Mem) (h : F_X9_isSign l0 l1 M = some y) (kf : FIN X (some .boolean) (rs_pI y) M) : wq X 2 0 [(0, .ref l0), (1, .int l1)] [] M := by
  unfold F_X9_isSign at h
  refine q_aload_n 0 C dX9_isSign_0 rfl ?_
  obtain ⟨v1, e2, h⟩ := bindE h
  refine q_getI C fl_RX9_144 rfl e2 dX9_isSign_1 ?_
  refine q_iconst (v := (3 : Int32)) C dX9_isSign_4 (by decide) ?_
  refine q_icmp_ne (tgt := 20) C dX9_isSign_5 (by decide) (fun c3 => ?_) (fun c3 => ?_)
  · have h := ifF c3 h
    refine q_iconst (v := (0 : Int32)) C dX9_isSign_20 (by decide) ?_
    cases h
    exact q_zretE (w := (0 : Int32)) (by decide) C kf dX9_isSign_21
  · have h := ifT c3 h
    refine q_aload_n 0 C dX9_isSign_8 rfl ?_
    obtain ⟨v4, e5, h⟩ := bindE h
    refine q_getI C fl_RX9_141 rfl e5 dX9_isSign_9 ?_
    refine q_iload_n 1 C dX9_isSign_12 rfl ?_
    refine q_icmp_ne (tgt := 20) C dX9_isSign_13 (by decide) (fun c6 => ?_) (fun c6 => ?_)
    · have h := ifF c6 h
      refine q_iconst (v := (0 : Int32)) C dX9_isSign_20 (by decide) ?_
      cases h
      exact q_zretE (w := (0 : Int32)) (by decide) C kf dX9_isSign_21
    · have h := ifT c6 h
      refine q_iconst (v := (1 : Int32)) C dX9_isSign_16 (by decide) ?_
      refine q_goto (tgt := 21) C dX9_isSign_17 (by decide) ?_
      cases h
      exact q_zretE (w := (1 : Int32)) (by decide) C kf dX9_isSign_21
theorem k_X9_isSign (l : Launch) (hl : l.stackTraces = false) (G : GG) (l0 : Nat) (l1 : Int32) (M : Mem) (x : Int32) (h : F_X9_isSign l0 l1 M = some x) : Ct l G yX9_isSign (.code yX9_isSign cX9_isSign 2 (some .boolean)) 7 140 [.ref l0, .int l1] M (rs_pI x) M := by
  refine Ct_of (by decide +kernel) (Nat.le_of_ble_eq_true rfl) fun X e1 e2 e3 C FN hnm => ?_
  subst e1; subst e2
  show wq X 2 0 [(0, .ref l0), (1, .int l1)] [] M
  exact w_X9_isSign C FN.2.2.2 hl l0 l1 M h FN
/-! X9_deeper -/
set_option maxRecDepth 100000 in
set_option maxHeartbeats 4000000 in
theorem w_X9_deeper {X : CX} {y : Mem} (C : CK X cX9_deeper 1 RX9 8 161) (hRO : RO X.2.2.1 X.1.2.2.2.2.1 X.1.2.2.2.2.1.heap) (hl : X.1.2.1.stackTraces = false) (l0 : Nat) (M : Mem) (h : F_X9_deeper l0 M = some y) (kf : FIN X none (rs_mV y) (ms_mV y)) : wq X 1 0 [(0, .ref l0)] [] M := by
  unfold F_X9_deeper at h
  refine q_aload_n 0 C dX9_deeper_0 rfl ?_
  obtain ⟨v1, e2, h⟩ := bindE h
  refine q_getI C fl_RX9_202 rfl e2 dX9_deeper_1 ?_
  refine q_bipush (v := (6 : Int32)) C dX9_deeper_4 (by decide) ?_
  refine q_icmp_ge (tgt := 30) C dX9_deeper_6 (by decide) (fun c3 => ?_) (fun c3 => ?_)
  · have h := ifT c3 h
    refine q_aload_n 0 C dX9_deeper_30 rfl ?_
    refine q_aload_n 0 C dX9_deeper_31 rfl ?_
    obtain ⟨v4, e5, h⟩ := bindE h
    refine q_getI C fl_RX9_144 rfl e5 dX9_deeper_32 ?_
    refine q_iconst (v := (2 : Int32)) C dX9_deeper_35 (by decide) ?_
    refine q_icmp_eq (tgt := 56) C dX9_deeper_36 (by decide) (fun c6 => ?_) (fun c6 => ?_)
    · have h := ifT c6 h
      refine q_iconst (v := (2 : Int32)) C dX9_deeper_56 (by decide) ?_
      refine q_goto (tgt := 61) C dX9_deeper_57 (by decide) ?_
      obtain ⟨e7, h⟩ := ckOE h
      obtain ⟨M9, e8, h⟩ := bindE h
      refine q_callV (v := none) [.int (2 : Int32)] C hRO lk_RX9_177 vk_X9_wrong e7 rfl rfl rfl (Nat.le_of_ble_eq_true rfl) (by decide) (by decide) dX9_deeper_61 (k_X9_wrong X.1.2.1 hl X.2.2.1 l0 (2 : Int32) M _ e8) ?_
      cases h
      exact q_vret C kf dX9_deeper_64
    · have h := ifF c6 h
      refine q_aload_n 0 C dX9_deeper_39 rfl ?_
      obtain ⟨v11, e12, h⟩ := bindE h
      refine q_getI C fl_RX9_144 rfl e12 dX9_deeper_40 ?_
      refine q_iconst (v := (1 : Int32)) C dX9_deeper_43 (by decide) ?_
      refine q_icmp_eq (tgt := 56) C dX9_deeper_44 (by decide) (fun c13 => ?_) (fun c13 => ?_)
      · have h := ifT c13 h
        refine q_iconst (v := (2 : Int32)) C dX9_deeper_56 (by decide) ?_
        refine q_goto (tgt := 61) C dX9_deeper_57 (by decide) ?_
        obtain ⟨e14, h⟩ := ckOE h
        obtain ⟨M16, e15, h⟩ := bindE h
        refine q_callV (v := none) [.int (2 : Int32)] C hRO lk_RX9_177 vk_X9_wrong e14 rfl rfl rfl (Nat.le_of_ble_eq_true rfl) (by decide) (by decide) dX9_deeper_61 (k_X9_wrong X.1.2.1 hl X.2.2.1 l0 (2 : Int32) M _ e15) ?_
        cases h
        exact q_vret C kf dX9_deeper_64
      · have h := ifF c13 h
        refine q_aload_n 0 C dX9_deeper_47 rfl ?_
        refine q_bipush (v := (40 : Int32)) C dX9_deeper_48 (by decide) ?_
        obtain ⟨e18, h⟩ := ckOE h
        obtain ⟨v20, e19, h⟩ := bindE h
        refine q_callV (v := some (.int v20)) [.int (40 : Int32)] C hRO lk_RX9_205 vk_X9_isSign e18 rfl rfl rfl (Nat.le_of_ble_eq_true rfl) (by decide) (by decide) dX9_deeper_50 (k_X9_isSign X.1.2.1 hl X.2.2.1 l0 (40 : Int32) M _ e19) ?_
        refine q_if_eq (tgt := 60) C dX9_deeper_53 (by decide) (fun c21 => ?_) (fun c21 => ?_)
        · have h := ifT c21 h
          refine q_iconst (v := (1 : Int32)) C dX9_deeper_60 (by decide) ?_
          obtain ⟨e22, h⟩ := ckOE h
          obtain ⟨M24, e23, h⟩ := bindE h
          refine q_callV (v := none) [.int (1 : Int32)] C hRO lk_RX9_177 vk_X9_wrong e22 rfl rfl rfl (Nat.le_of_ble_eq_true rfl) (by decide) (by decide) dX9_deeper_61 (k_X9_wrong X.1.2.1 hl X.2.2.1 l0 (1 : Int32) M _ e23) ?_
          cases h
          exact q_vret C kf dX9_deeper_64
        · have h := ifF c21 h
          refine q_iconst (v := (2 : Int32)) C dX9_deeper_56 (by decide) ?_
          refine q_goto (tgt := 61) C dX9_deeper_57 (by decide) ?_
          obtain ⟨e26, h⟩ := ckOE h
          obtain ⟨M28, e27, h⟩ := bindE h
          refine q_callV (v := none) [.int (2 : Int32)] C hRO lk_RX9_177 vk_X9_wrong e26 rfl rfl rfl (Nat.le_of_ble_eq_true rfl) (by decide) (by decide) dX9_deeper_61 (k_X9_wrong X.1.2.1 hl X.2.2.1 l0 (2 : Int32) M _ e27) ?_
          cases h
          exact q_vret C kf dX9_deeper_64
  · have h := ifF c3 h
    refine q_aload_n 0 C dX9_deeper_9 rfl ?_
    refine q_dup C dX9_deeper_10 rfl ?_
    obtain ⟨v30, e31, h⟩ := bindE h
    refine q_getI C fl_RX9_202 rfl e31 dX9_deeper_11 ?_
    refine q_iconst (v := (1 : Int32)) C dX9_deeper_14 (by decide) ?_
    refine q_iadd C dX9_deeper_15 ?_
    obtain ⟨M32, e33, h⟩ := bindE h
    refine q_putI C fp_RX9_202 rfl e33 dX9_deeper_16 ?_
    refine q_aload_n 0 C dX9_deeper_19 rfl ?_
    obtain ⟨v34, e35, h⟩ := bindE h
    refine q_getP C fl_RX9_62 rfl e35 dX9_deeper_20 ?_
    refine q_aload_n 0 C dX9_deeper_23 rfl ?_
    obtain ⟨v36, e37, h⟩ := bindE h
    refine q_getI C fl_RX9_202 rfl e37 dX9_deeper_24 ?_
    refine q_iconst (v := (0 : Int32)) C dX9_deeper_27 (by decide) ?_
    obtain ⟨M38, e39, h⟩ := bindE h
    refine q_zastore C e39 dX9_deeper_28 ?_
    cases h
    exact q_vret C kf dX9_deeper_29
theorem k_X9_deeper (l : Launch) (hl : l.stackTraces = false) (G : GG) (l0 : Nat) (M : Mem) (x : Mem) (h : F_X9_deeper l0 M = some x) : Ct l G yX9_deeper (.code yX9_deeper cX9_deeper 1 none) 8 161 [.ref l0] M (rs_mV x) (ms_mV x) := by
  refine Ct_of (by decide +kernel) (Nat.le_of_ble_eq_true rfl) fun X e1 e2 e3 C FN hnm => ?_
  subst e1; subst e2
  show wq X 1 0 [(0, .ref l0)] [] M
  exact w_X9_deeper C FN.2.2.2 hl l0 M h FN
/-! X9_draw -/
set_option maxRecDepth 100000 in
set_option maxHeartbeats 4000000 in
theorem w_X9_draw {X : CX} {y : Int32 × Mem} (C : CK X cX9_draw 2 RX9 7 140) (hRO : RO X.2.2.1 X.1.2.2.2.2.1 X.1.2.2.2.2.1.heap) (hl : X.1.2.1.stackTraces = false) (l0 : Nat) (l1 : Int32) (M : Mem) (h : F_X9_draw l0 l1 M = some y) (kf : FIN X (some .int) (rs_mI y) (ms_mI y)) : wq X 2 0 [(0, .ref l0), (1, .int l1)] [] M := by
  unfold F_X9_draw at h
  refine q_aload_n 0 C dX9_draw_0 rfl ?_
  refine q_aload_n 0 C dX9_draw_1 rfl ?_
  obtain ⟨v1, e2, h⟩ := bindE h
  refine q_getI C fl_RX9_434 rfl e2 dX9_draw_2 ?_
  refine q_ldcw (v := (1103515245 : Int32)) C cn_RX9_437 dX9_draw_5 ?_
  refine q_imul C dX9_draw_8 ?_
  refine q_sipush (v := (12345 : Int32)) C dX9_draw_9 (by decide) ?_
  refine q_iadd C dX9_draw_12 ?_
  obtain ⟨M3, e4, h⟩ := bindE h
  refine q_putI C fp_RX9_434 rfl e4 dX9_draw_13 ?_
  refine q_aload_n 0 C dX9_draw_16 rfl ?_
  obtain ⟨v5, e6, h⟩ := bindE h
  refine q_getI C fl_RX9_434 rfl e6 dX9_draw_17 ?_
  refine q_bipush (v := (16 : Int32)) C dX9_draw_20 (by decide) ?_
  refine q_ishr C dX9_draw_22 ?_
  refine q_sipush (v := (32767 : Int32)) C dX9_draw_23 (by decide) ?_
  refine q_iand C dX9_draw_26 ?_
  refine q_iload_n 1 C dX9_draw_27 rfl ?_
  have c7 : ¬ l1 = 0 := fun c => nomatch ifT c h
  have h := ifF c7 h
  refine q_irem C c7 dX9_draw_28 ?_
  cases h
  exact q_iret C kf dX9_draw_29
theorem k_X9_draw (l : Launch) (hl : l.stackTraces = false) (G : GG) (l0 : Nat) (l1 : Int32) (M : Mem) (x : Int32 × Mem) (h : F_X9_draw l0 l1 M = some x) : Ct l G yX9_draw (.code yX9_draw cX9_draw 2 (some .int)) 7 140 [.ref l0, .int l1] M (rs_mI x) (ms_mI x) := by
  refine Ct_of (by decide +kernel) (Nat.le_of_ble_eq_true rfl) fun X e1 e2 e3 C FN hnm => ?_
  subst e1; subst e2
  show wq X 2 0 [(0, .ref l0), (1, .int l1)] [] M
  exact w_X9_draw C FN.2.2.2 hl l0 l1 M h FN
/-! X9_eased -/
set_option maxRecDepth 100000 in
set_option maxHeartbeats 4000000 in
theorem w_X9_eased_s46 {X : CX} {y : (Int32 × Int32 × Int32 × Mem) ⊕ (Int32 × Mem)} (C : CK X cX9_eased 8 RX9 12 257) (hRO : RO X.2.2.1 X.1.2.2.2.2.1 X.1.2.2.2.2.1.heap) (hl : X.1.2.1.stackTraces = false) (l0 : Nat) (l1 : Int32) (l2 : Int32) (l3 : Int32) (l4 : Int32) (l5 : Int32) (l6 : Int32) (M : Mem) (h : F_X9_eased_s46 l0 l1 l2 l3 l4 l5 l6 M = some y) (kc : ∀ s' : Int32 × Int32 × Int32 × Mem, y = .inl s' → wq X 8 46 [(0, .ref l0), (1, .int l1), (2, .int l2), (3, .int l3), (4, .int (s'.1)), (5, .int (s'.2.1)), (6, .int (s'.2.2.1))] [] s'.2.2.2) (kx : ∀ e' : Int32 × Mem, y = (.inr e') → wq X 8 89 [(4, .int (e'.1))] [] e'.2) : wq X 8 46 [(0, .ref l0), (1, .int l1), (2, .int l2), (3, .int l3), (4, .int l4), (5, .int l5), (6, .int l6)] [] M := by
  unfold F_X9_eased_s46 at h
  refine q_iload 6 C dX9_eased_46 rfl ?_
  refine q_iload_n 3 C dX9_eased_48 rfl ?_
  refine q_icmp_ge (tgt := 89) C dX9_eased_49 (by decide) (fun c22 => ?_) (fun c22 => ?_)
  · have h := ifT c22 h
    exact q_sub (lv' := [(4, .int l4)]) [4] rfl (kx (l4, M) (someI h))
  · have h := ifF c22 h
    refine q_aload_n 0 C dX9_eased_52 rfl ?_
    refine q_bipush (v := (43 : Int32)) C dX9_eased_53 (by decide) ?_
    refine q_iload_n 1 C dX9_eased_55 rfl ?_
    refine q_iload_n 2 C dX9_eased_56 rfl ?_
    obtain ⟨e23, h⟩ := ckOE h
    obtain ⟨v26, M25, e24, h⟩ := bd2E h
    refine q_callV (v := some (.int v26)) [.int (43 : Int32), .int l1, .int l2] C hRO lk_RX9_326 vk_X9_easesOf e23 rfl rfl rfl (Nat.le_of_ble_eq_true rfl) (by decide) (by decide) dX9_eased_57 (k_X9_easesOf X.1.2.1 hl X.2.2.1 l0 (43 : Int32) l1 l2 M _ e24) ?_
    refine q_istore (i := 7) (lv' := [(7, .int v26), (0, .ref l0), (1, .int l1), (2, .int l2), (3, .int l3), (4, .int l4), (5, .int l5), (6, .int l6)]) C dX9_eased_60 (by decide) rfl ?_
    refine q_iload 0 C dX9_eased_62 rfl ?_
    refine q_iload 6 C dX9_eased_64 rfl ?_
    refine q_icmp_le (tgt := 77) C dX9_eased_66 (by decide) (fun c27 => ?_) (fun c27 => ?_)
    · have h := ifT c27 h
      refine q_aload_n 1 C dX9_eased_77 rfl ?_
      refine q_bipush (v := (43 : Int32)) C dX9_eased_78 (by decide) ?_
      obtain ⟨e28, h⟩ := ckOE h
      obtain ⟨M30, e29, h⟩ := bindE h
      refine q_callV (v := none) [.int (43 : Int32)] C hRO lk_RX9_336 vk_X9_dayGoes e28 rfl rfl rfl (Nat.le_of_ble_eq_true rfl) (by decide) (by decide) dX9_eased_80 (k_X9_dayGoes X.1.2.1 hl X.2.2.1 l0 (43 : Int32) M25 _ e29) ?_
      refine q_iinc 7 (v := (l6 + (1 : Int32))) (lv' := [(6, .int (l6 + (1 : Int32))), (7, .int v26), (0, .ref l0), (1, .int l1), (2, .int l2), (3, .int l3), (4, .int l4), (5, .int l5)]) C dX9_eased_83 rfl rfl (by decide) rfl ?_
      refine q_goto (tgt := 46) C dX9_eased_86 (by decide) ?_
      exact q_sub (lv' := [(0, .ref l0), (1, .int l1), (2, .int l2), (3, .int l3), (4, .int l4), (5, .int l5), (6, .int (l6 + (1 : Int32)))]) [2, 3, 4, 5, 6, 7, 0] rfl (kc (l4, l5, (l6 + (1 : Int32)), M30) (someI h))
    · have h := ifF c27 h
      refine q_iload 7 C dX9_eased_69 rfl ?_
      refine q_istore (i := 4) (lv' := [(4, .int l6), (7, .int v26), (0, .ref l0), (1, .int l1), (2, .int l2), (3, .int l3), (5, .int l5), (6, .int l6)]) C dX9_eased_71 (by decide) rfl ?_
      refine q_iload 1 C dX9_eased_73 rfl ?_
      refine q_istore (i := 5) (lv' := [(5, .int v26), (4, .int l6), (7, .int v26), (0, .ref l0), (1, .int l1), (2, .int l2), (3, .int l3), (6, .int l6)]) C dX9_eased_75 (by decide) rfl ?_
      refine q_aload_n 3 C dX9_eased_77 rfl ?_
      refine q_bipush (v := (43 : Int32)) C dX9_eased_78 (by decide) ?_
      obtain ⟨e32, h⟩ := ckOE h
      obtain ⟨M34, e33, h⟩ := bindE h
      refine q_callV (v := none) [.int (43 : Int32)] C hRO lk_RX9_336 vk_X9_dayGoes e32 rfl rfl rfl (Nat.le_of_ble_eq_true rfl) (by decide) (by decide) dX9_eased_80 (k_X9_dayGoes X.1.2.1 hl X.2.2.1 l0 (43 : Int32) M25 _ e33) ?_
      refine q_iinc 7 (v := (l6 + (1 : Int32))) (lv' := [(6, .int (l6 + (1 : Int32))), (5, .int v26), (4, .int l6), (7, .int v26), (0, .ref l0), (1, .int l1), (2, .int l2), (3, .int l3)]) C dX9_eased_83 rfl rfl (by decide) rfl ?_
      refine q_goto (tgt := 46) C dX9_eased_86 (by decide) ?_
      exact q_sub (lv' := [(0, .ref l0), (1, .int l1), (2, .int l2), (3, .int l3), (4, .int l6), (5, .int v26), (6, .int (l6 + (1 : Int32)))]) [4, 5, 6, 7, 2, 1, 0] rfl (kc (l6, v26, (l6 + (1 : Int32)), M34) (someI h))
theorem w_X9_eased_l46 {X : CX} {r : Int32 × Mem} (C : CK X cX9_eased 8 RX9 12 257) (hRO : RO X.2.2.1 X.1.2.2.2.2.1 X.1.2.2.2.2.1.heap) (hl : X.1.2.1.stackTraces = false) (l0 : Nat) (l1 : Int32) (l2 : Int32) (l3 : Int32) (l4 : Int32) (l5 : Int32) (l6 : Int32) (M : Mem) (h : loop (fun s => F_X9_eased_s46 l0 l1 l2 l3 s.1 s.2.1 s.2.2.1 s.2.2.2) (l4, l5, l6, M) = some r) (kx : ∀ e' : Int32 × Mem, r = e' → wq X 8 89 [(4, .int (e'.1))] [] e'.2) : wq X 8 46 [(0, .ref l0), (1, .int l1), (2, .int l2), (3, .int l3), (4, .int l4), (5, .int l5), (6, .int l6)] [] M :=
  loop_ind (P := fun s => wq X 8 46 [(0, .ref l0), (1, .int l1), (2, .int l2), (3, .int l3), (4, .int s.1), (5, .int s.2.1), (6, .int s.2.2.1)] [] s.2.2.2) h (fun s y hy kc kr => w_X9_eased_s46 C hRO hl l0 l1 l2 l3 s.1 s.2.1 s.2.2.1 s.2.2.2 hy kc (fun e' he => kx e' (kr _ he).symm))
set_option maxRecDepth 100000 in
set_option maxHeartbeats 4000000 in
theorem w_X9_eased {X : CX} {y : Int32 × Mem} (C : CK X cX9_eased 8 RX9 12 257) (hRO : RO X.2.2.1 X.1.2.2.2.2.1 X.1.2.2.2.2.1.heap) (hl : X.1.2.1.stackTraces = false) (l0 : Nat) (l1 : Int32) (l2 : Int32) (l3 : Int32) (M : Mem) (h : F_X9_eased l0 l1 l2 l3 M = some y) (kf : FIN X (some .int) (rs_mI y) (ms_mI y)) : wq X 8 0 [(0, .ref l0), (1, .int l1), (2, .int l2), (3, .int l3)] [] M := by
  unfold F_X9_eased at h
  refine q_aload_n 0 C dX9_eased_0 rfl ?_
  refine q_iconst (v := (0 : Int32)) C dX9_eased_1 (by decide) ?_
  obtain ⟨M1, e2, h⟩ := bindE h
  refine q_putI C fp_RX9_111 rfl e2 dX9_eased_2 ?_
  refine q_aload_n 0 C dX9_eased_5 rfl ?_
  refine q_iload_n 1 C dX9_eased_6 rfl ?_
  obtain ⟨e3, h⟩ := ckOE h
  obtain ⟨v6, M5, e4, h⟩ := bd2E h
  refine q_callV (v := some (.int v6)) [.int l1] C hRO lk_RX9_379 vk_X9_isPerson e3 rfl rfl rfl (Nat.le_of_ble_eq_true rfl) (by decide) (by decide) dX9_eased_7 (k_X9_isPerson X.1.2.1 hl X.2.2.1 l0 l1 M1 _ e4) ?_
  refine q_if_eq (tgt := 31) C dX9_eased_10 (by decide) (fun c7 => ?_) (fun c7 => ?_)
  · have h := ifT c7 h
    refine q_iconst (v := (0 : Int32)) C dX9_eased_31 (by decide) ?_
    cases h
    exact q_iret C kf dX9_eased_32
  · have h := ifF c7 h
    refine q_aload_n 0 C dX9_eased_13 rfl ?_
    refine q_iload_n 2 C dX9_eased_14 rfl ?_
    obtain ⟨e8, h⟩ := ckOE h
    obtain ⟨v11, M10, e9, h⟩ := bd2E h
    refine q_callV (v := some (.int v11)) [.int l2] C hRO lk_RX9_367 vk_X9_isHouse e8 rfl rfl rfl (Nat.le_of_ble_eq_true rfl) (by decide) (by decide) dX9_eased_15 (k_X9_isHouse X.1.2.1 hl X.2.2.1 l0 l2 M5 _ e9) ?_
    refine q_if_eq (tgt := 31) C dX9_eased_18 (by decide) (fun c12 => ?_) (fun c12 => ?_)
    · have h := ifT c12 h
      refine q_iconst (v := (0 : Int32)) C dX9_eased_31 (by decide) ?_
      cases h
      exact q_iret C kf dX9_eased_32
    · have h := ifF c12 h
      refine q_aload_n 0 C dX9_eased_21 rfl ?_
      refine q_iload_n 3 C dX9_eased_22 rfl ?_
      refine q_iconst (v := (1 : Int32)) C dX9_eased_23 (by decide) ?_
      refine q_iconst (v := (2 : Int32)) C dX9_eased_24 (by decide) ?_
      obtain ⟨e13, h⟩ := ckOE h
      obtain ⟨v16, M15, e14, h⟩ := bd2E h
      refine q_callV (v := some (.int v16)) [.int l3, .int (1 : Int32), .int (2 : Int32)] C hRO lk_RX9_397 vk_X9_isDays e13 rfl rfl rfl (Nat.le_of_ble_eq_true rfl) (by decide) (by decide) dX9_eased_25 (k_X9_isDays X.1.2.1 hl X.2.2.1 l0 l3 (1 : Int32) (2 : Int32) M10 _ e14) ?_
      refine q_if_ne (tgt := 33) C dX9_eased_28 (by decide) (fun c17 => ?_) (fun c17 => ?_)
      · have h := ifF c17 h
        refine q_iconst (v := (-1 : Int32)) C dX9_eased_33 (by decide) ?_
        refine q_istore (i := 4) (lv' := [(4, .int (-1 : Int32)), (0, .ref l0), (1, .int l1), (2, .int l2), (3, .int l3)]) C dX9_eased_34 (by decide) rfl ?_
        refine q_iconst (v := (-1 : Int32)) C dX9_eased_36 (by decide) ?_
        refine q_istore (i := 5) (lv' := [(5, .int (-1 : Int32)), (4, .int (-1 : Int32)), (0, .ref l0), (1, .int l1), (2, .int l2), (3, .int l3)]) C dX9_eased_37 (by decide) rfl ?_
        refine q_aload_n 2 C dX9_eased_39 rfl ?_
        obtain ⟨e18, h⟩ := ckOE h
        obtain ⟨M20, e19, h⟩ := bindE h
        refine q_callV (v := none) [] C hRO lk_RX9_391 vk_X9_tries e18 rfl rfl rfl (Nat.le_of_ble_eq_true rfl) (by decide) (by decide) dX9_eased_40 (k_X9_tries X.1.2.1 hl X.2.2.1 l0 M15 _ e19) ?_
        refine q_iconst (v := (0 : Int32)) C dX9_eased_43 (by decide) ?_
        refine q_istore (i := 6) (lv' := [(6, .int (0 : Int32)), (5, .int (-1 : Int32)), (4, .int (-1 : Int32)), (0, .ref l0), (1, .int l1), (2, .int l2), (3, .int l3)]) C dX9_eased_44 (by decide) rfl ?_
        obtain ⟨⟨x38, M39⟩, e37, h⟩ := bindE h
        refine q_sub (lv' := [(0, .ref l0), (1, .int l1), (2, .int l2), (3, .int l3), (4, .int (-1 : Int32)), (5, .int (-1 : Int32)), (6, .int (0 : Int32))]) [3, 4, 5, 6, 2, 1, 0] rfl (w_X9_eased_l46 C hRO hl l0 l1 l2 l3 (-1 : Int32) (-1 : Int32) (0 : Int32) M20 e37 (fun r36 he => ?_))
        subst he
        have h := u2E h
        show wq X 8 89 [(4, .int x38)] [] M39
        refine q_iload 0 C dX9_eased_89 rfl ?_
        cases h
        exact q_iret C kf dX9_eased_91
      · have h := ifT c17 h
        refine q_iconst (v := (0 : Int32)) C dX9_eased_31 (by decide) ?_
        cases h
        exact q_iret C kf dX9_eased_32
theorem k_X9_eased (l : Launch) (hl : l.stackTraces = false) (G : GG) (l0 : Nat) (l1 : Int32) (l2 : Int32) (l3 : Int32) (M : Mem) (x : Int32 × Mem) (h : F_X9_eased l0 l1 l2 l3 M = some x) : Ct l G yX9_eased (.code yX9_eased cX9_eased 8 (some .int)) 12 257 [.ref l0, .int l1, .int l2, .int l3] M (rs_mI x) (ms_mI x) := by
  refine Ct_of (by decide +kernel) (Nat.le_of_ble_eq_true rfl) fun X e1 e2 e3 C FN hnm => ?_
  subst e1; subst e2
  show wq X 8 0 [(0, .ref l0), (1, .int l1), (2, .int l2), (3, .int l3)] [] M
  exact w_X9_eased C FN.2.2.2 hl l0 l1 l2 l3 M h FN
/-! X9_eases -/
set_option maxRecDepth 100000 in
set_option maxHeartbeats 4000000 in
theorem w_X9_eases {X : CX} {y : Int32 × Mem} (C : CK X cX9_eases 3 RX9 11 233) (hRO : RO X.2.2.1 X.1.2.2.2.2.1 X.1.2.2.2.2.1.heap) (hl : X.1.2.1.stackTraces = false) (l0 : Nat) (l1 : Int32) (l2 : Int32) (M : Mem) (h : F_X9_eases l0 l1 l2 M = some y) (kf : FIN X (some .int) (rs_mI y) (ms_mI y)) : wq X 3 0 [(0, .ref l0), (1, .int l1), (2, .int l2)] [] M := by
  unfold F_X9_eases at h
  refine q_aload_n 0 C dX9_eases_0 rfl ?_
  refine q_iconst (v := (0 : Int32)) C dX9_eases_1 (by decide) ?_
  obtain ⟨M1, e2, h⟩ := bindE h
  refine q_putI C fp_RX9_111 rfl e2 dX9_eases_2 ?_
  refine q_aload_n 0 C dX9_eases_5 rfl ?_
  refine q_iload_n 1 C dX9_eases_6 rfl ?_
  obtain ⟨e3, h⟩ := ckOE h
  obtain ⟨v6, M5, e4, h⟩ := bd2E h
  refine q_callV (v := some (.int v6)) [.int l1] C hRO lk_RX9_379 vk_X9_isPerson e3 rfl rfl rfl (Nat.le_of_ble_eq_true rfl) (by decide) (by decide) dX9_eases_7 (k_X9_isPerson X.1.2.1 hl X.2.2.1 l0 l1 M1 _ e4) ?_
  refine q_if_eq (tgt := 31) C dX9_eases_10 (by decide) (fun c7 => ?_) (fun c7 => ?_)
  · have h := ifT c7 h
    refine q_iconst (v := (0 : Int32)) C dX9_eases_31 (by decide) ?_
    cases h
    exact q_iret C kf dX9_eases_32
  · have h := ifF c7 h
    refine q_aload_n 0 C dX9_eases_13 rfl ?_
    refine q_iload_n 2 C dX9_eases_14 rfl ?_
    obtain ⟨e8, h⟩ := ckOE h
    obtain ⟨v11, M10, e9, h⟩ := bd2E h
    refine q_callV (v := some (.int v11)) [.int l2] C hRO lk_RX9_367 vk_X9_isHouse e8 rfl rfl rfl (Nat.le_of_ble_eq_true rfl) (by decide) (by decide) dX9_eases_15 (k_X9_isHouse X.1.2.1 hl X.2.2.1 l0 l2 M5 _ e9) ?_
    refine q_if_eq (tgt := 31) C dX9_eases_18 (by decide) (fun c12 => ?_) (fun c12 => ?_)
    · have h := ifT c12 h
      refine q_iconst (v := (0 : Int32)) C dX9_eases_31 (by decide) ?_
      cases h
      exact q_iret C kf dX9_eases_32
    · have h := ifF c12 h
      refine q_aload_n 0 C dX9_eases_21 rfl ?_
      refine q_iconst (v := (0 : Int32)) C dX9_eases_22 (by decide) ?_
      refine q_iload_n 1 C dX9_eases_23 rfl ?_
      refine q_iload_n 2 C dX9_eases_24 rfl ?_
      obtain ⟨e13, h⟩ := ckOE h
      obtain ⟨v16, M15, e14, h⟩ := bd2E h
      refine q_callV (v := some (.int v16)) [.int (0 : Int32), .int l1, .int l2] C hRO lk_RX9_326 vk_X9_easesOf e13 rfl rfl rfl (Nat.le_of_ble_eq_true rfl) (by decide) (by decide) dX9_eases_25 (k_X9_easesOf X.1.2.1 hl X.2.2.1 l0 (0 : Int32) l1 l2 M10 _ e14) ?_
      refine q_goto (tgt := 32) C dX9_eases_28 (by decide) ?_
      cases h
      exact q_iret C kf dX9_eases_32
theorem k_X9_eases (l : Launch) (hl : l.stackTraces = false) (G : GG) (l0 : Nat) (l1 : Int32) (l2 : Int32) (M : Mem) (x : Int32 × Mem) (h : F_X9_eases l0 l1 l2 M = some x) : Ct l G yX9_eases (.code yX9_eases cX9_eases 3 (some .int)) 11 233 [.ref l0, .int l1, .int l2] M (rs_mI x) (ms_mI x) := by
  refine Ct_of (by decide +kernel) (Nat.le_of_ble_eq_true rfl) fun X e1 e2 e3 C FN hnm => ?_
  subst e1; subst e2
  show wq X 3 0 [(0, .ref l0), (1, .int l1), (2, .int l2)] [] M
  exact w_X9_eases C FN.2.2.2 hl l0 l1 l2 M h FN
/-! X9_endures -/
set_option maxRecDepth 100000 in
set_option maxHeartbeats 4000000 in
theorem w_X9_endures_s73 {X : CX} {y : (Int32 × Mem) ⊕ ((Mem) ⊕ (Int32 × Mem))} (C : CK X cX9_endures 5 RX9 12 257) (hRO : RO X.2.2.1 X.1.2.2.2.2.1 X.1.2.2.2.2.1.heap) (hl : X.1.2.1.stackTraces = false) (l0 : Nat) (l2 : Int32) (l4 : Int32) (M : Mem) (h : F_X9_endures_s73 l0 l2 l4 M = some y) (kc : ∀ s' : Int32 × Mem, y = .inl s' → wq X 5 73 [(0, .ref l0), (2, .int l2), (4, .int (s'.1))] [] s'.2) (kx : ∀ e' : Mem, y = (.inr (.inl e')) → wq X 5 105 [] [] e') (kf : ∀ f' : Int32 × Mem, y = (.inr (.inr f')) → FIN X (some .int) (rs_mI f') (ms_mI f')) : wq X 5 73 [(0, .ref l0), (2, .int l2), (4, .int l4)] [] M := by
  unfold F_X9_endures_s73 at h
  refine q_iload 2 C dX9_endures_73 rfl ?_
  refine q_bipush (v := (40 : Int32)) C dX9_endures_75 (by decide) ?_
  refine q_icmp_gt (tgt := 105) C dX9_endures_77 (by decide) (fun c29 => ?_) (fun c29 => ?_)
  · have h := ifT c29 h
    exact q_sub (lv' := []) [] rfl (kx M (someI h))
  · have h := ifF c29 h
    refine q_aload_n 0 C dX9_endures_80 rfl ?_
    refine q_bipush (v := (43 : Int32)) C dX9_endures_81 (by decide) ?_
    obtain ⟨e30, h⟩ := ckOE h
    obtain ⟨M32, e31, h⟩ := bindE h
    refine q_callV (v := none) [.int (43 : Int32)] C hRO lk_RX9_336 vk_X9_dayGoes e30 rfl rfl rfl (Nat.le_of_ble_eq_true rfl) (by decide) (by decide) dX9_endures_83 (k_X9_dayGoes X.1.2.1 hl X.2.2.1 l0 (43 : Int32) M _ e31) ?_
    refine q_aload_n 0 C dX9_endures_86 rfl ?_
    refine q_bipush (v := (43 : Int32)) C dX9_endures_87 (by decide) ?_
    refine q_iload_n 1 C dX9_endures_89 rfl ?_
    obtain ⟨e34, h⟩ := ckOE h
    obtain ⟨v36, e35, h⟩ := bindE h
    refine q_callV (v := some (.int v36)) [.int (43 : Int32), .int l2] C hRO lk_RX9_322 vk_X9_isBurst e34 rfl rfl rfl (Nat.le_of_ble_eq_true rfl) (by decide) (by decide) dX9_endures_90 (k_X9_isBurst X.1.2.1 hl X.2.2.1 l0 (43 : Int32) l2 M32 _ e35) ?_
    refine q_if_eq (tgt := 99) C dX9_endures_93 (by decide) (fun c37 => ?_) (fun c37 => ?_)
    · have h := ifT c37 h
      refine q_iinc 2 (v := (l4 + (1 : Int32))) (lv' := [(4, .int (l4 + (1 : Int32))), (0, .ref l0), (2, .int l2)]) C dX9_endures_99 rfl rfl (by decide) rfl ?_
      refine q_goto (tgt := 73) C dX9_endures_102 (by decide) ?_
      exact q_sub (lv' := [(0, .ref l0), (2, .int l2), (4, .int (l4 + (1 : Int32)))]) [1, 2, 0] rfl (kc ((l4 + (1 : Int32)), M32) (someI h))
    · have h := ifF c37 h
      refine q_iload 2 C dX9_endures_96 rfl ?_
      exact q_iret C (kf _ (someI h)) dX9_endures_98
theorem w_X9_endures_l73 {X : CX} {r : (Mem) ⊕ (Int32 × Mem)} (C : CK X cX9_endures 5 RX9 12 257) (hRO : RO X.2.2.1 X.1.2.2.2.2.1 X.1.2.2.2.2.1.heap) (hl : X.1.2.1.stackTraces = false) (l0 : Nat) (l2 : Int32) (l4 : Int32) (M : Mem) (h : loop (fun s => F_X9_endures_s73 l0 l2 s.1 s.2) (l4, M) = some r) (kx : ∀ e' : Mem, r = .inl e' → wq X 5 105 [] [] e') (kf : ∀ f' : Int32 × Mem, r = .inr f' → FIN X (some .int) (rs_mI f') (ms_mI f')) : wq X 5 73 [(0, .ref l0), (2, .int l2), (4, .int l4)] [] M :=
  loop_ind (P := fun s => wq X 5 73 [(0, .ref l0), (2, .int l2), (4, .int s.1)] [] s.2) h (fun s y hy kc kr => w_X9_endures_s73 C hRO hl l0 l2 s.1 s.2 hy kc (fun e' he => kx e' (kr _ he).symm) (fun f' he => kf f' (kr _ he).symm))
set_option maxRecDepth 100000 in
set_option maxHeartbeats 4000000 in
theorem w_X9_endures_j60 {X : CX} {y : Int32 × Mem} (C : CK X cX9_endures 5 RX9 12 257) (hRO : RO X.2.2.1 X.1.2.2.2.2.1 X.1.2.2.2.2.1.heap) (hl : X.1.2.1.stackTraces = false) (l0 : Nat) (l1 : Int32) (l2 : Int32) (M : Mem) (h : F_X9_endures_j60 l0 l1 l2 M = some y) (kf : FIN X (some .int) (rs_mI y) (ms_mI y)) : wq X 5 60 [(0, .ref l0), (1, .int l1), (2, .int l2)] [] M := by
  unfold F_X9_endures_j60 at h
  refine q_aload_n 0 C dX9_endures_60 rfl ?_
  obtain ⟨v25, e26, h⟩ := bindE h
  refine q_getP C fl_RX9_66 rfl e26 dX9_endures_61 ?_
  refine q_bipush (v := (62 : Int32)) C dX9_endures_64 (by decide) ?_
  refine q_iload_n 2 C dX9_endures_66 rfl ?_
  refine q_iadd C dX9_endures_67 ?_
  refine q_iload_n 1 C dX9_endures_68 rfl ?_
  obtain ⟨M27, e28, h⟩ := bindE h
  refine q_iastore C e28 dX9_endures_69 ?_
  refine q_iconst (v := (1 : Int32)) C dX9_endures_70 (by decide) ?_
  refine q_istore (i := 4) (lv' := [(4, .int (1 : Int32)), (0, .ref l0), (1, .int l1), (2, .int l2)]) C dX9_endures_71 (by decide) rfl ?_
  obtain ⟨r38, e39, h⟩ := bindE h
  refine q_sub (lv' := [(0, .ref l0), (2, .int l2), (4, .int (1 : Int32))]) [1, 3, 0] rfl (w_X9_endures_l73 C hRO hl l0 l2 (1 : Int32) M27 e39 (fun M40 he => ?_) (fun f42 he => ?_))
  · subst he
    have h := elimL h
    show wq X 5 105 [] [] M40
    refine q_iconst (v := (-1 : Int32)) C dX9_endures_105 (by decide) ?_
    cases h
    exact q_iret C kf dX9_endures_106
  · subst he
    have h := elimR h
    cases h
    exact kf
set_option maxRecDepth 100000 in
set_option maxHeartbeats 4000000 in
theorem w_X9_endures {X : CX} {y : Int32 × Mem} (C : CK X cX9_endures 5 RX9 12 257) (hRO : RO X.2.2.1 X.1.2.2.2.2.1 X.1.2.2.2.2.1.heap) (hl : X.1.2.1.stackTraces = false) (l0 : Nat) (l1 : Int32) (l2 : Int32) (M : Mem) (h : F_X9_endures l0 l1 l2 M = some y) (kf : FIN X (some .int) (rs_mI y) (ms_mI y)) : wq X 5 0 [(0, .ref l0), (1, .int l1), (2, .int l2)] [] M := by
  unfold F_X9_endures at h
  refine q_aload_n 0 C dX9_endures_0 rfl ?_
  refine q_iconst (v := (0 : Int32)) C dX9_endures_1 (by decide) ?_
  obtain ⟨M1, e2, h⟩ := bindE h
  refine q_putI C fp_RX9_111 rfl e2 dX9_endures_2 ?_
  refine q_aload_n 0 C dX9_endures_5 rfl ?_
  refine q_iload_n 1 C dX9_endures_6 rfl ?_
  obtain ⟨e3, h⟩ := ckOE h
  obtain ⟨v6, M5, e4, h⟩ := bd2E h
  refine q_callV (v := some (.int v6)) [.int l1] C hRO lk_RX9_379 vk_X9_isPerson e3 rfl rfl rfl (Nat.le_of_ble_eq_true rfl) (by decide) (by decide) dX9_endures_7 (k_X9_isPerson X.1.2.1 hl X.2.2.1 l0 l1 M1 _ e4) ?_
  refine q_if_eq (tgt := 21) C dX9_endures_10 (by decide) (fun c7 => ?_) (fun c7 => ?_)
  · have h := ifT c7 h
    refine q_iconst (v := (0 : Int32)) C dX9_endures_21 (by decide) ?_
    cases h
    exact q_iret C kf dX9_endures_22
  · have h := ifF c7 h
    refine q_aload_n 0 C dX9_endures_13 rfl ?_
    refine q_iload_n 2 C dX9_endures_14 rfl ?_
    obtain ⟨e8, h⟩ := ckOE h
    obtain ⟨v11, M10, e9, h⟩ := bd2E h
    refine q_callV (v := some (.int v11)) [.int l2] C hRO lk_RX9_367 vk_X9_isHouse e8 rfl rfl rfl (Nat.le_of_ble_eq_true rfl) (by decide) (by decide) dX9_endures_15 (k_X9_isHouse X.1.2.1 hl X.2.2.1 l0 l2 M5 _ e9) ?_
    refine q_if_ne (tgt := 23) C dX9_endures_18 (by decide) (fun c12 => ?_) (fun c12 => ?_)
    · have h := ifF c12 h
      refine q_aload_n 0 C dX9_endures_23 rfl ?_
      refine q_iconst (v := (0 : Int32)) C dX9_endures_24 (by decide) ?_
      refine q_iload_n 2 C dX9_endures_25 rfl ?_
      obtain ⟨e13, h⟩ := ckOE h
      obtain ⟨v15, e14, h⟩ := bindE h
      refine q_callV (v := some (.int v15)) [.int (0 : Int32), .int l2] C hRO lk_RX9_322 vk_X9_isBurst e13 rfl rfl rfl (Nat.le_of_ble_eq_true rfl) (by decide) (by decide) dX9_endures_26 (k_X9_isBurst X.1.2.1 hl X.2.2.1 l0 (0 : Int32) l2 M10 _ e14) ?_
      refine q_if_eq (tgt := 34) C dX9_endures_29 (by decide) (fun c16 => ?_) (fun c16 => ?_)
      · have h := ifT c16 h
        refine q_aload_n 0 C dX9_endures_34 rfl ?_
        obtain ⟨e17, h⟩ := ckOE h
        obtain ⟨M19, e18, h⟩ := bindE h
        refine q_callV (v := none) [] C hRO lk_RX9_391 vk_X9_tries e17 rfl rfl rfl (Nat.le_of_ble_eq_true rfl) (by decide) (by decide) dX9_endures_35 (k_X9_tries X.1.2.1 hl X.2.2.1 l0 M10 _ e18) ?_
        refine q_aload_n 0 C dX9_endures_38 rfl ?_
        refine q_iconst (v := (0 : Int32)) C dX9_endures_39 (by decide) ?_
        refine q_iload_n 1 C dX9_endures_40 rfl ?_
        obtain ⟨e21, h⟩ := ckOE h
        obtain ⟨v23, e22, h⟩ := bindE h
        refine q_callV (v := some (.int v23)) [.int (0 : Int32), .int l1] C hRO lk_RX9_339 vk_X9_houseOf e21 rfl rfl rfl (Nat.le_of_ble_eq_true rfl) (by decide) (by decide) dX9_endures_41 (k_X9_houseOf X.1.2.1 hl X.2.2.1 l0 (0 : Int32) l1 M19 _ e22) ?_
        refine q_istore_n (i := 3) (lv' := [(3, .int v23), (0, .ref l0), (1, .int l1), (2, .int l2)]) C dX9_endures_44 rfl (by decide) rfl ?_
        refine q_iload_n 0 C dX9_endures_45 rfl ?_
        refine q_iconst (v := (-1 : Int32)) C dX9_endures_46 (by decide) ?_
        refine q_icmp_eq (tgt := 60) C dX9_endures_47 (by decide) (fun c24 => ?_) (fun c24 => ?_)
        · have h := ifT c24 h
          exact q_sub (lv' := [(0, .ref l0), (1, .int l1), (2, .int l2)]) [1, 2, 3] rfl (w_X9_endures_j60 C hRO hl l0 l1 l2 M19 h kf)
        · have h := ifF c24 h
          refine q_aload_n 1 C dX9_endures_50 rfl ?_
          obtain ⟨v43, e44, h⟩ := bindE h
          refine q_getP C fl_RX9_66 rfl e44 dX9_endures_51 ?_
          refine q_bipush (v := (62 : Int32)) C dX9_endures_54 (by decide) ?_
          refine q_iload_n 0 C dX9_endures_56 rfl ?_
          refine q_iadd C dX9_endures_57 ?_
          refine q_iconst (v := (-1 : Int32)) C dX9_endures_58 (by decide) ?_
          obtain ⟨M45, e46, h⟩ := bindE h
          refine q_iastore C e46 dX9_endures_59 ?_
          exact q_sub (lv' := [(0, .ref l0), (1, .int l1), (2, .int l2)]) [1, 2, 3] rfl (w_X9_endures_j60 C hRO hl l0 l1 l2 M45 h kf)
      · have h := ifF c16 h
        refine q_iconst (v := (-1 : Int32)) C dX9_endures_32 (by decide) ?_
        cases h
        exact q_iret C kf dX9_endures_33
    · have h := ifT c12 h
      refine q_iconst (v := (0 : Int32)) C dX9_endures_21 (by decide) ?_
      cases h
      exact q_iret C kf dX9_endures_22
theorem k_X9_endures (l : Launch) (hl : l.stackTraces = false) (G : GG) (l0 : Nat) (l1 : Int32) (l2 : Int32) (M : Mem) (x : Int32 × Mem) (h : F_X9_endures l0 l1 l2 M = some x) : Ct l G yX9_endures (.code yX9_endures cX9_endures 5 (some .int)) 12 257 [.ref l0, .int l1, .int l2] M (rs_mI x) (ms_mI x) := by
  refine Ct_of (by decide +kernel) (Nat.le_of_ble_eq_true rfl) fun X e1 e2 e3 C FN hnm => ?_
  subst e1; subst e2
  show wq X 5 0 [(0, .ref l0), (1, .int l1), (2, .int l2)] [] M
  exact w_X9_endures C FN.2.2.2 hl l0 l1 l2 M h FN
/-! X9_isOpened -/
set_option maxRecDepth 100000 in
set_option maxHeartbeats 4000000 in
theorem w_X9_isOpened_s7 {X : CX} {y : (Int32) ⊕ (Int32)} (C : CK X cX9_isOpened 2 RX9 8 160) (hRO : RO X.2.2.1 X.1.2.2.2.2.1 X.1.2.2.2.2.1.heap) (hl : X.1.2.1.stackTraces = false) (l0 : Nat) (M : Mem) (l1 : Int32) (h : F_X9_isOpened_s7 l0 M l1 = some y) (kc : ∀ s' : Int32, y = .inl s' → wq X 2 7 [(0, .ref l0), (1, .int (s'))] [] M) (kx : ∀ e' : Int32, y = (.inr e') → wq X 2 29 [(1, .int (e'))] [] M) : wq X 2 7 [(0, .ref l0), (1, .int l1)] [] M := by
  unfold F_X9_isOpened_s7 at h
  refine q_iload_n 1 C dX9_isOpened_7 rfl ?_
  refine q_if_lt (tgt := 29) C dX9_isOpened_8 (by decide) (fun c3 => ?_) (fun c3 => ?_)
  · have h := ifT c3 h
    exact q_sub (lv' := [(1, .int l1)]) [1] rfl (kx l1 (someI h))
  · have h := ifF c3 h
    refine q_aload_n 0 C dX9_isOpened_11 rfl ?_
    obtain ⟨v4, e5, h⟩ := bindE h
    refine q_getP C fl_RX9_59 rfl e5 dX9_isOpened_12 ?_
    refine q_iload_n 1 C dX9_isOpened_15 rfl ?_
    obtain ⟨v6, e7, h⟩ := bindE h
    refine q_iaload C e7 dX9_isOpened_16 ?_
    obtain ⟨v9, e8, h⟩ := bindE h
    refine q_callS (v := some (.int v9)) [.int v6] C hRO lk_RX9_186 sk_X9_isOpen rfl rfl (Nat.le_of_ble_eq_true rfl) (by decide) (by decide) dX9_isOpened_17 (k_X9_isOpen X.1.2.1 hl X.2.2.1 v6 M _ e8) ?_
    refine q_if_ne (tgt := 29) C dX9_isOpened_20 (by decide) (fun c10 => ?_) (fun c10 => ?_)
    · have h := ifF c10 h
      exact q_sub (lv' := [(1, .int l1)]) [1] rfl (kx l1 (someI h))
    · have h := ifT c10 h
      refine q_iinc 1 (v := (l1 + (-1 : Int32))) (lv' := [(1, .int (l1 + (-1 : Int32))), (0, .ref l0)]) C dX9_isOpened_23 rfl rfl (by decide) rfl ?_
      refine q_goto (tgt := 7) C dX9_isOpened_26 (by decide) ?_
      exact q_sub (lv' := [(0, .ref l0), (1, .int (l1 + (-1 : Int32)))]) [1, 0] rfl (kc (l1 + (-1 : Int32)) (someI h))
theorem w_X9_isOpened_l7 {X : CX} {r : Int32} (C : CK X cX9_isOpened 2 RX9 8 160) (hRO : RO X.2.2.1 X.1.2.2.2.2.1 X.1.2.2.2.2.1.heap) (hl : X.1.2.1.stackTraces = false) (l0 : Nat) (M : Mem) (l1 : Int32) (h : loop (fun s => F_X9_isOpened_s7 l0 M s) l1 = some r) (kx : ∀ e' : Int32, r = e' → wq X 2 29 [(1, .int (e'))] [] M) : wq X 2 7 [(0, .ref l0), (1, .int l1)] [] M :=
  loop_ind (P := fun s => wq X 2 7 [(0, .ref l0), (1, .int s)] [] M) h (fun s y hy kc kr => w_X9_isOpened_s7 C hRO hl l0 M s hy kc (fun e' he => kx e' (kr _ he).symm))
set_option maxRecDepth 100000 in
set_option maxHeartbeats 4000000 in
theorem w_X9_isOpened_j29 {X : CX} {y : Int32} (C : CK X cX9_isOpened 2 RX9 8 160) (hRO : RO X.2.2.1 X.1.2.2.2.2.1 X.1.2.2.2.2.1.heap) (hl : X.1.2.1.stackTraces = false) (l1 : Int32) (M : Mem) (h : F_X9_isOpened_j29 l1 M = some y) (kf : FIN X (some .boolean) (rs_pI y) M) : wq X 2 29 [(1, .int l1)] [] M := by
  unfold F_X9_isOpened_j29 at h
  refine q_iload_n 0 C dX9_isOpened_29 rfl ?_
  refine q_if_lt (tgt := 37) C dX9_isOpened_30 (by decide) (fun c14 => ?_) (fun c14 => ?_)
  · have h := ifT c14 h
    refine q_iconst (v := (0 : Int32)) C dX9_isOpened_37 (by decide) ?_
    cases h
    exact q_zretE (w := (0 : Int32)) (by decide) C kf dX9_isOpened_38
  · have h := ifF c14 h
    refine q_iconst (v := (1 : Int32)) C dX9_isOpened_33 (by decide) ?_
    refine q_goto (tgt := 38) C dX9_isOpened_34 (by decide) ?_
    cases h
    exact q_zretE (w := (1 : Int32)) (by decide) C kf dX9_isOpened_38
set_option maxRecDepth 100000 in
set_option maxHeartbeats 4000000 in
theorem w_X9_isOpened {X : CX} {y : Int32} (C : CK X cX9_isOpened 2 RX9 8 160) (hRO : RO X.2.2.1 X.1.2.2.2.2.1 X.1.2.2.2.2.1.heap) (hl : X.1.2.1.stackTraces = false) (l0 : Nat) (M : Mem) (h : F_X9_isOpened l0 M = some y) (kf : FIN X (some .boolean) (rs_pI y) M) : wq X 2 0 [(0, .ref l0)] [] M := by
  unfold F_X9_isOpened at h
  refine q_aload_n 0 C dX9_isOpened_0 rfl ?_
  obtain ⟨v1, e2, h⟩ := bindE h
  refine q_getI C fl_RX9_183 rfl e2 dX9_isOpened_1 ?_
  refine q_iconst (v := (1 : Int32)) C dX9_isOpened_4 (by decide) ?_
  refine q_isub C dX9_isOpened_5 ?_
  refine q_istore_n (i := 1) (lv' := [(1, .int (v1 - (1 : Int32))), (0, .ref l0)]) C dX9_isOpened_6 rfl (by decide) rfl ?_
  obtain ⟨x13, e12, h⟩ := bindE h
  refine q_sub (lv' := [(0, .ref l0), (1, .int (v1 - (1 : Int32)))]) [1, 0] rfl (w_X9_isOpened_l7 C hRO hl l0 M (v1 - (1 : Int32)) e12 (fun r11 he => ?_))
  subst he
  show wq X 2 29 [(1, .int x13)] [] M
  exact q_sub (lv' := [(1, .int x13)]) [0] rfl (w_X9_isOpened_j29 C hRO hl x13 M h kf)
theorem k_X9_isOpened (l : Launch) (hl : l.stackTraces = false) (G : GG) (l0 : Nat) (M : Mem) (x : Int32) (h : F_X9_isOpened l0 M = some x) : Ct l G yX9_isOpened (.code yX9_isOpened cX9_isOpened 2 (some .boolean)) 8 160 [.ref l0] M (rs_pI x) M := by
  refine Ct_of (by decide +kernel) (Nat.le_of_ble_eq_true rfl) fun X e1 e2 e3 C FN hnm => ?_
  subst e1; subst e2
  show wq X 2 0 [(0, .ref l0)] [] M
  exact w_X9_isOpened C FN.2.2.2 hl l0 M h FN
/-! X9_spelled -/
set_option maxRecDepth 100000 in
set_option maxHeartbeats 4000000 in
theorem w_X9_spelled_j66 {X : CX} {y : Int64} (C : CK X cX9_spelled 8 RX9 7 140) (hRO : RO X.2.2.1 X.1.2.2.2.2.1 X.1.2.2.2.2.1.heap) (hl : X.1.2.1.stackTraces = false) (l5 : Int32) (l6 : Int64) (M : Mem) (h : F_X9_spelled_j66 l5 l6 M = some y) (kf : FIN X (some .long) (rs_pL y) M) : wq X 8 66 [(5, .int l5), (6, .long l6)] [] M := by
  unfold F_X9_spelled_j66 at h
  refine q_iload 0 C dX9_spelled_66 rfl ?_
  refine q_if_eq (tgt := 84) C dX9_spelled_68 (by decide) (fun c6 => ?_) (fun c6 => ?_)
  · have h := ifT c6 h
    refine q_lload 1 C dX9_spelled_84 rfl ?_
    cases h
    exact q_lret C kf dX9_spelled_86
  · have h := ifF c6 h
    refine q_lload 1 C dX9_spelled_71 rfl ?_
    refine q_iconst (v := (5 : Int32)) C dX9_spelled_73 (by decide) ?_
    refine q_lshl C dX9_spelled_74 ?_
    refine q_iload 0 C dX9_spelled_75 rfl ?_
    refine q_bipush (v := (96 : Int32)) C dX9_spelled_77 (by decide) ?_
    refine q_isub C dX9_spelled_79 ?_
    refine q_i2l C dX9_spelled_80 ?_
    refine q_lor C dX9_spelled_81 ?_
    obtain ⟨n7, e8, h⟩ := nmE h
    refine q_topL e8 ?_
    refine q_lstore (i := 6) (lv' := [(6, .long n7), (5, .int l5)]) C dX9_spelled_82 (by decide) rfl ?_
    refine q_lload 0 C dX9_spelled_84 rfl ?_
    cases h
    exact q_lret C kf dX9_spelled_86
set_option maxRecDepth 100000 in
set_option maxHeartbeats 4000000 in
theorem w_X9_spelled_j48 {X : CX} {y : Int64} (C : CK X cX9_spelled 8 RX9 7 140) (hRO : RO X.2.2.1 X.1.2.2.2.2.1 X.1.2.2.2.2.1.heap) (hl : X.1.2.1.stackTraces = false) (l4 : Int32) (l5 : Int32) (l6 : Int64) (M : Mem) (h : F_X9_spelled_j48 l4 l5 l6 M = some y) (kf : FIN X (some .long) (rs_pL y) M) : wq X 8 48 [(4, .int l4), (5, .int l5), (6, .long l6)] [] M := by
  unfold F_X9_spelled_j48 at h
  refine q_iload 0 C dX9_spelled_48 rfl ?_
  refine q_if_eq (tgt := 66) C dX9_spelled_50 (by decide) (fun c5 => ?_) (fun c5 => ?_)
  · have h := ifT c5 h
    exact q_sub (lv' := [(5, .int l5), (6, .long l6)]) [1, 2] rfl (w_X9_spelled_j66 C hRO hl l5 l6 M h kf)
  · have h := ifF c5 h
    refine q_lload 2 C dX9_spelled_53 rfl ?_
    refine q_iconst (v := (5 : Int32)) C dX9_spelled_55 (by decide) ?_
    refine q_lshl C dX9_spelled_56 ?_
    refine q_iload 0 C dX9_spelled_57 rfl ?_
    refine q_bipush (v := (96 : Int32)) C dX9_spelled_59 (by decide) ?_
    refine q_isub C dX9_spelled_61 ?_
    refine q_i2l C dX9_spelled_62 ?_
    refine q_lor C dX9_spelled_63 ?_
    obtain ⟨n9, e10, h⟩ := nmE h
    refine q_topL e10 ?_
    refine q_lstore (i := 6) (lv' := [(6, .long n9), (4, .int l4), (5, .int l5)]) C dX9_spelled_64 (by decide) rfl ?_
    exact q_sub (lv' := [(5, .int l5), (6, .long n9)]) [2, 0] rfl (w_X9_spelled_j66 C hRO hl l5 n9 M h kf)
set_option maxRecDepth 100000 in
set_option maxHeartbeats 4000000 in
theorem w_X9_spelled_j32 {X : CX} {y : Int64} (C : CK X cX9_spelled 8 RX9 7 140) (hRO : RO X.2.2.1 X.1.2.2.2.2.1 X.1.2.2.2.2.1.heap) (hl : X.1.2.1.stackTraces = false) (l3 : Int32) (l4 : Int32) (l5 : Int32) (l6 : Int64) (M : Mem) (h : F_X9_spelled_j32 l3 l4 l5 l6 M = some y) (kf : FIN X (some .long) (rs_pL y) M) : wq X 8 32 [(3, .int l3), (4, .int l4), (5, .int l5), (6, .long l6)] [] M := by
  unfold F_X9_spelled_j32 at h
  refine q_iload_n 0 C dX9_spelled_32 rfl ?_
  refine q_if_eq (tgt := 48) C dX9_spelled_33 (by decide) (fun c4 => ?_) (fun c4 => ?_)
  · have h := ifT c4 h
    exact q_sub (lv' := [(4, .int l4), (5, .int l5), (6, .long l6)]) [1, 2, 3] rfl (w_X9_spelled_j48 C hRO hl l4 l5 l6 M h kf)
  · have h := ifF c4 h
    refine q_lload 3 C dX9_spelled_36 rfl ?_
    refine q_iconst (v := (5 : Int32)) C dX9_spelled_38 (by decide) ?_
    refine q_lshl C dX9_spelled_39 ?_
    refine q_iload_n 0 C dX9_spelled_40 rfl ?_
    refine q_bipush (v := (96 : Int32)) C dX9_spelled_41 (by decide) ?_
    refine q_isub C dX9_spelled_43 ?_
    refine q_i2l C dX9_spelled_44 ?_
    refine q_lor C dX9_spelled_45 ?_
    obtain ⟨n11, e12, h⟩ := nmE h
    refine q_topL e12 ?_
    refine q_lstore (i := 6) (lv' := [(6, .long n11), (3, .int l3), (4, .int l4), (5, .int l5)]) C dX9_spelled_46 (by decide) rfl ?_
    exact q_sub (lv' := [(4, .int l4), (5, .int l5), (6, .long n11)]) [2, 3, 0] rfl (w_X9_spelled_j48 C hRO hl l4 l5 n11 M h kf)
set_option maxRecDepth 100000 in
set_option maxHeartbeats 4000000 in
theorem w_X9_spelled {X : CX} {y : Int64} (C : CK X cX9_spelled 8 RX9 7 140) (hRO : RO X.2.2.1 X.1.2.2.2.2.1 X.1.2.2.2.2.1.heap) (hl : X.1.2.1.stackTraces = false) (l0 : Int32) (l1 : Int32) (l2 : Int32) (l3 : Int32) (l4 : Int32) (l5 : Int32) (M : Mem) (h : F_X9_spelled l0 l1 l2 l3 l4 l5 M = some y) (kf : FIN X (some .long) (rs_pL y) M) : wq X 8 0 [(0, .int l0), (1, .int l1), (2, .int l2), (3, .int l3), (4, .int l4), (5, .int l5)] [] M := by
  unfold F_X9_spelled at h
  refine q_iload_n 0 C dX9_spelled_0 rfl ?_
  refine q_i2l C dX9_spelled_1 ?_
  refine q_ldc2 (v := (96 : Int64)) C cn_RX9_157 dX9_spelled_2 ?_
  refine q_lsub C dX9_spelled_5 ?_
  refine q_iconst (v := (5 : Int32)) C dX9_spelled_6 (by decide) ?_
  refine q_lshl C dX9_spelled_7 ?_
  refine q_iload_n 1 C dX9_spelled_8 rfl ?_
  refine q_bipush (v := (96 : Int32)) C dX9_spelled_9 (by decide) ?_
  refine q_isub C dX9_spelled_11 ?_
  refine q_i2l C dX9_spelled_12 ?_
  refine q_lor C dX9_spelled_13 ?_
  obtain ⟨n1, e2, h⟩ := nmE h
  refine q_topL e2 ?_
  refine q_lstore (i := 6) (lv' := [(6, .long n1), (0, .int l0), (1, .int l1), (2, .int l2), (3, .int l3), (4, .int l4), (5, .int l5)]) C dX9_spelled_14 (by decide) rfl ?_
  refine q_iload_n 3 C dX9_spelled_16 rfl ?_
  refine q_if_eq (tgt := 32) C dX9_spelled_17 (by decide) (fun c3 => ?_) (fun c3 => ?_)
  · have h := ifT c3 h
    exact q_sub (lv' := [(3, .int l3), (4, .int l4), (5, .int l5), (6, .long n1)]) [4, 5, 6, 0] rfl (w_X9_spelled_j32 C hRO hl l3 l4 l5 n1 M h kf)
  · have h := ifF c3 h
    refine q_lload 0 C dX9_spelled_20 rfl ?_
    refine q_iconst (v := (5 : Int32)) C dX9_spelled_22 (by decide) ?_
    refine q_lshl C dX9_spelled_23 ?_
    refine q_iload_n 3 C dX9_spelled_24 rfl ?_
    refine q_bipush (v := (96 : Int32)) C dX9_spelled_25 (by decide) ?_
    refine q_isub C dX9_spelled_27 ?_
    refine q_i2l C dX9_spelled_28 ?_
    refine q_lor C dX9_spelled_29 ?_
    obtain ⟨n13, e14, h⟩ := nmE h
    refine q_topL e14 ?_
    refine q_lstore (i := 6) (lv' := [(6, .long n13), (0, .int l0), (1, .int l1), (2, .int l2), (3, .int l3), (4, .int l4), (5, .int l5)]) C dX9_spelled_30 (by decide) rfl ?_
    exact q_sub (lv' := [(3, .int l3), (4, .int l4), (5, .int l5), (6, .long n13)]) [4, 5, 6, 0] rfl (w_X9_spelled_j32 C hRO hl l3 l4 l5 n13 M h kf)
theorem k_X9_spelled (l : Launch) (hl : l.stackTraces = false) (G : GG) (l0 : Int32) (l1 : Int32) (l2 : Int32) (l3 : Int32) (l4 : Int32) (l5 : Int32) (M : Mem) (x : Int64) (h : F_X9_spelled l0 l1 l2 l3 l4 l5 M = some x) : Ct l G yX9_spelled (.code yX9_spelled cX9_spelled 8 (some .long)) 7 140 [.int l0, .int l1, .int l2, .int l3, .int l4, .int l5] M (rs_pL x) M := by
  refine Ct_of (by decide +kernel) (Nat.le_of_ble_eq_true rfl) fun X e1 e2 e3 C FN hnm => ?_
  subst e1; subst e2
  show wq X 8 0 [(0, .int l0), (1, .int l1), (2, .int l2), (3, .int l3), (4, .int l4), (5, .int l5)] [] M
  exact w_X9_spelled C FN.2.2.2 hl l0 l1 l2 l3 l4 l5 M h FN
/-! X9_letters -/
set_option maxRecDepth 100000 in
set_option maxHeartbeats 4000000 in
theorem w_X9_letters {X : CX} {y : Int64} (C : CK X cX9_letters 1 RX9 8 167) (hRO : RO X.2.2.1 X.1.2.2.2.2.1 X.1.2.2.2.2.1.heap) (hl : X.1.2.1.stackTraces = false) (l0 : Int32) (M : Mem) (h : F_X9_letters l0 M = some y) (kf : FIN X (some .long) (rs_pL y) M) : wq X 1 0 [(0, .int l0)] [] M := by
  unfold F_X9_letters at h
  refine q_iload_n 0 C dX9_letters_0 rfl ?_
  by_cases c1 : l0 = (0 : Int32)
  · have h := ifT c1 h
    refine q_tableIn (off := 71) (tgt := 72) C dX9_letters_1 (by rw [c1]; decide) (by rw [c1]; decide) (by rw [c1]; rfl) (by decide) ?_
    refine q_bipush (v := (104 : Int32)) C dX9_letters_72 (by decide) ?_
    refine q_bipush (v := (101 : Int32)) C dX9_letters_74 (by decide) ?_
    refine q_bipush (v := (101 : Int32)) C dX9_letters_76 (by decide) ?_
    refine q_bipush (v := (108 : Int32)) C dX9_letters_78 (by decide) ?_
    refine q_iconst (v := (0 : Int32)) C dX9_letters_80 (by decide) ?_
    refine q_iconst (v := (0 : Int32)) C dX9_letters_81 (by decide) ?_
    obtain ⟨v3, e2, h⟩ := bindE h
    refine q_callS (v := some (.long v3)) [.int (104 : Int32), .int (101 : Int32), .int (101 : Int32), .int (108 : Int32), .int (0 : Int32), .int (0 : Int32)] C hRO lk_RX9_159 sk_X9_spelled rfl rfl (Nat.le_of_ble_eq_true rfl) (by decide) (by decide) dX9_letters_82 (k_X9_spelled X.1.2.1 hl X.2.2.1 (104 : Int32) (101 : Int32) (101 : Int32) (108 : Int32) (0 : Int32) (0 : Int32) M _ e2) ?_
    cases h
    exact q_lret C kf dX9_letters_85
  have h := ifF c1 h
  by_cases c4 : l0 = (1 : Int32)
  · have h := ifT c4 h
    refine q_tableIn (off := 85) (tgt := 86) C dX9_letters_1 (by rw [c4]; decide) (by rw [c4]; decide) (by rw [c4]; rfl) (by decide) ?_
    refine q_bipush (v := (115 : Int32)) C dX9_letters_86 (by decide) ?_
    refine q_bipush (v := (105 : Int32)) C dX9_letters_88 (by decide) ?_
    refine q_bipush (v := (122 : Int32)) C dX9_letters_90 (by decide) ?_
    refine q_bipush (v := (101 : Int32)) C dX9_letters_92 (by decide) ?_
    refine q_iconst (v := (0 : Int32)) C dX9_letters_94 (by decide) ?_
    refine q_iconst (v := (0 : Int32)) C dX9_letters_95 (by decide) ?_
    obtain ⟨v6, e5, h⟩ := bindE h
    refine q_callS (v := some (.long v6)) [.int (115 : Int32), .int (105 : Int32), .int (122 : Int32), .int (101 : Int32), .int (0 : Int32), .int (0 : Int32)] C hRO lk_RX9_159 sk_X9_spelled rfl rfl (Nat.le_of_ble_eq_true rfl) (by decide) (by decide) dX9_letters_96 (k_X9_spelled X.1.2.1 hl X.2.2.1 (115 : Int32) (105 : Int32) (122 : Int32) (101 : Int32) (0 : Int32) (0 : Int32) M _ e5) ?_
    cases h
    exact q_lret C kf dX9_letters_99
  have h := ifF c4 h
  by_cases c7 : l0 = (2 : Int32)
  · have h := ifT c7 h
    refine q_tableIn (off := 99) (tgt := 100) C dX9_letters_1 (by rw [c7]; decide) (by rw [c7]; decide) (by rw [c7]; rfl) (by decide) ?_
    refine q_bipush (v := (103 : Int32)) C dX9_letters_100 (by decide) ?_
    refine q_bipush (v := (105 : Int32)) C dX9_letters_102 (by decide) ?_
    refine q_bipush (v := (118 : Int32)) C dX9_letters_104 (by decide) ?_
    refine q_bipush (v := (101 : Int32)) C dX9_letters_106 (by decide) ?_
    refine q_iconst (v := (0 : Int32)) C dX9_letters_108 (by decide) ?_
    refine q_iconst (v := (0 : Int32)) C dX9_letters_109 (by decide) ?_
    obtain ⟨v9, e8, h⟩ := bindE h
    refine q_callS (v := some (.long v9)) [.int (103 : Int32), .int (105 : Int32), .int (118 : Int32), .int (101 : Int32), .int (0 : Int32), .int (0 : Int32)] C hRO lk_RX9_159 sk_X9_spelled rfl rfl (Nat.le_of_ble_eq_true rfl) (by decide) (by decide) dX9_letters_110 (k_X9_spelled X.1.2.1 hl X.2.2.1 (103 : Int32) (105 : Int32) (118 : Int32) (101 : Int32) (0 : Int32) (0 : Int32) M _ e8) ?_
    cases h
    exact q_lret C kf dX9_letters_113
  have h := ifF c7 h
  by_cases c10 : l0 = (3 : Int32)
  · have h := ifT c10 h
    refine q_tableIn (off := 113) (tgt := 114) C dX9_letters_1 (by rw [c10]; decide) (by rw [c10]; decide) (by rw [c10]; rfl) (by decide) ?_
    refine q_bipush (v := (119 : Int32)) C dX9_letters_114 (by decide) ?_
    refine q_bipush (v := (111 : Int32)) C dX9_letters_116 (by decide) ?_
    refine q_bipush (v := (114 : Int32)) C dX9_letters_118 (by decide) ?_
    refine q_bipush (v := (110 : Int32)) C dX9_letters_120 (by decide) ?_
    refine q_iconst (v := (0 : Int32)) C dX9_letters_122 (by decide) ?_
    refine q_iconst (v := (0 : Int32)) C dX9_letters_123 (by decide) ?_
    obtain ⟨v12, e11, h⟩ := bindE h
    refine q_callS (v := some (.long v12)) [.int (119 : Int32), .int (111 : Int32), .int (114 : Int32), .int (110 : Int32), .int (0 : Int32), .int (0 : Int32)] C hRO lk_RX9_159 sk_X9_spelled rfl rfl (Nat.le_of_ble_eq_true rfl) (by decide) (by decide) dX9_letters_124 (k_X9_spelled X.1.2.1 hl X.2.2.1 (119 : Int32) (111 : Int32) (114 : Int32) (110 : Int32) (0 : Int32) (0 : Int32) M _ e11) ?_
    cases h
    exact q_lret C kf dX9_letters_127
  have h := ifF c10 h
  by_cases c13 : l0 = (4 : Int32)
  · have h := ifT c13 h
    refine q_tableIn (off := 127) (tgt := 128) C dX9_letters_1 (by rw [c13]; decide) (by rw [c13]; decide) (by rw [c13]; rfl) (by decide) ?_
    refine q_bipush (v := (100 : Int32)) C dX9_letters_128 (by decide) ?_
    refine q_bipush (v := (97 : Int32)) C dX9_letters_130 (by decide) ?_
    refine q_bipush (v := (109 : Int32)) C dX9_letters_132 (by decide) ?_
    refine q_bipush (v := (112 : Int32)) C dX9_letters_134 (by decide) ?_
    refine q_iconst (v := (0 : Int32)) C dX9_letters_136 (by decide) ?_
    refine q_iconst (v := (0 : Int32)) C dX9_letters_137 (by decide) ?_
    obtain ⟨v15, e14, h⟩ := bindE h
    refine q_callS (v := some (.long v15)) [.int (100 : Int32), .int (97 : Int32), .int (109 : Int32), .int (112 : Int32), .int (0 : Int32), .int (0 : Int32)] C hRO lk_RX9_159 sk_X9_spelled rfl rfl (Nat.le_of_ble_eq_true rfl) (by decide) (by decide) dX9_letters_138 (k_X9_spelled X.1.2.1 hl X.2.2.1 (100 : Int32) (97 : Int32) (109 : Int32) (112 : Int32) (0 : Int32) (0 : Int32) M _ e14) ?_
    cases h
    exact q_lret C kf dX9_letters_141
  have h := ifF c13 h
  by_cases c16 : l0 = (5 : Int32)
  · have h := ifT c16 h
    refine q_tableIn (off := 141) (tgt := 142) C dX9_letters_1 (by rw [c16]; decide) (by rw [c16]; decide) (by rw [c16]; rfl) (by decide) ?_
    refine q_bipush (v := (100 : Int32)) C dX9_letters_142 (by decide) ?_
    refine q_bipush (v := (97 : Int32)) C dX9_letters_144 (by decide) ?_
    refine q_bipush (v := (121 : Int32)) C dX9_letters_146 (by decide) ?_
    refine q_iconst (v := (0 : Int32)) C dX9_letters_148 (by decide) ?_
    refine q_iconst (v := (0 : Int32)) C dX9_letters_149 (by decide) ?_
    refine q_iconst (v := (0 : Int32)) C dX9_letters_150 (by decide) ?_
    obtain ⟨v18, e17, h⟩ := bindE h
    refine q_callS (v := some (.long v18)) [.int (100 : Int32), .int (97 : Int32), .int (121 : Int32), .int (0 : Int32), .int (0 : Int32), .int (0 : Int32)] C hRO lk_RX9_159 sk_X9_spelled rfl rfl (Nat.le_of_ble_eq_true rfl) (by decide) (by decide) dX9_letters_151 (k_X9_spelled X.1.2.1 hl X.2.2.1 (100 : Int32) (97 : Int32) (121 : Int32) (0 : Int32) (0 : Int32) (0 : Int32) M _ e17) ?_
    cases h
    exact q_lret C kf dX9_letters_154
  have h := ifF c16 h
  by_cases c19 : l0 = (6 : Int32)
  · have h := ifT c19 h
    refine q_tableIn (off := 154) (tgt := 155) C dX9_letters_1 (by rw [c19]; decide) (by rw [c19]; decide) (by rw [c19]; rfl) (by decide) ?_
    refine q_bipush (v := (116 : Int32)) C dX9_letters_155 (by decide) ?_
    refine q_bipush (v := (105 : Int32)) C dX9_letters_157 (by decide) ?_
    refine q_bipush (v := (103 : Int32)) C dX9_letters_159 (by decide) ?_
    refine q_bipush (v := (104 : Int32)) C dX9_letters_161 (by decide) ?_
    refine q_bipush (v := (116 : Int32)) C dX9_letters_163 (by decide) ?_
    refine q_iconst (v := (0 : Int32)) C dX9_letters_165 (by decide) ?_
    obtain ⟨v21, e20, h⟩ := bindE h
    refine q_callS (v := some (.long v21)) [.int (116 : Int32), .int (105 : Int32), .int (103 : Int32), .int (104 : Int32), .int (116 : Int32), .int (0 : Int32)] C hRO lk_RX9_159 sk_X9_spelled rfl rfl (Nat.le_of_ble_eq_true rfl) (by decide) (by decide) dX9_letters_166 (k_X9_spelled X.1.2.1 hl X.2.2.1 (116 : Int32) (105 : Int32) (103 : Int32) (104 : Int32) (116 : Int32) (0 : Int32) M _ e20) ?_
    cases h
    exact q_lret C kf dX9_letters_169
  have h := ifF c19 h
  by_cases c22 : l0 = (7 : Int32)
  · have h := ifT c22 h
    refine q_tableIn (off := 169) (tgt := 170) C dX9_letters_1 (by rw [c22]; decide) (by rw [c22]; decide) (by rw [c22]; rfl) (by decide) ?_
    refine q_bipush (v := (104 : Int32)) C dX9_letters_170 (by decide) ?_
    refine q_bipush (v := (111 : Int32)) C dX9_letters_172 (by decide) ?_
    refine q_bipush (v := (117 : Int32)) C dX9_letters_174 (by decide) ?_
    refine q_bipush (v := (115 : Int32)) C dX9_letters_176 (by decide) ?_
    refine q_bipush (v := (101 : Int32)) C dX9_letters_178 (by decide) ?_
    refine q_iconst (v := (0 : Int32)) C dX9_letters_180 (by decide) ?_
    obtain ⟨v24, e23, h⟩ := bindE h
    refine q_callS (v := some (.long v24)) [.int (104 : Int32), .int (111 : Int32), .int (117 : Int32), .int (115 : Int32), .int (101 : Int32), .int (0 : Int32)] C hRO lk_RX9_159 sk_X9_spelled rfl rfl (Nat.le_of_ble_eq_true rfl) (by decide) (by decide) dX9_letters_181 (k_X9_spelled X.1.2.1 hl X.2.2.1 (104 : Int32) (111 : Int32) (117 : Int32) (115 : Int32) (101 : Int32) (0 : Int32) M _ e23) ?_
    cases h
    exact q_lret C kf dX9_letters_184
  have h := ifF c22 h
  by_cases c25 : l0 = (8 : Int32)
  · have h := ifT c25 h
    refine q_tableIn (off := 184) (tgt := 185) C dX9_letters_1 (by rw [c25]; decide) (by rw [c25]; decide) (by rw [c25]; rfl) (by decide) ?_
    refine q_bipush (v := (112 : Int32)) C dX9_letters_185 (by decide) ?_
    refine q_bipush (v := (101 : Int32)) C dX9_letters_187 (by decide) ?_
    refine q_bipush (v := (114 : Int32)) C dX9_letters_189 (by decide) ?_
    refine q_bipush (v := (115 : Int32)) C dX9_letters_191 (by decide) ?_
    refine q_bipush (v := (111 : Int32)) C dX9_letters_193 (by decide) ?_
    refine q_bipush (v := (110 : Int32)) C dX9_letters_195 (by decide) ?_
    obtain ⟨v27, e26, h⟩ := bindE h
    refine q_callS (v := some (.long v27)) [.int (112 : Int32), .int (101 : Int32), .int (114 : Int32), .int (115 : Int32), .int (111 : Int32), .int (110 : Int32)] C hRO lk_RX9_159 sk_X9_spelled rfl rfl (Nat.le_of_ble_eq_true rfl) (by decide) (by decide) dX9_letters_197 (k_X9_spelled X.1.2.1 hl X.2.2.1 (112 : Int32) (101 : Int32) (114 : Int32) (115 : Int32) (111 : Int32) (110 : Int32) M _ e26) ?_
    cases h
    exact q_lret C kf dX9_letters_200
  have h := ifF c25 h
  by_cases c28 : l0 = (9 : Int32)
  · have h := ifT c28 h
    refine q_tableIn (off := 200) (tgt := 201) C dX9_letters_1 (by rw [c28]; decide) (by rw [c28]; decide) (by rw [c28]; rfl) (by decide) ?_
    refine q_bipush (v := (105 : Int32)) C dX9_letters_201 (by decide) ?_
    refine q_bipush (v := (110 : Int32)) C dX9_letters_203 (by decide) ?_
    refine q_iconst (v := (0 : Int32)) C dX9_letters_205 (by decide) ?_
    refine q_iconst (v := (0 : Int32)) C dX9_letters_206 (by decide) ?_
    refine q_iconst (v := (0 : Int32)) C dX9_letters_207 (by decide) ?_
    refine q_iconst (v := (0 : Int32)) C dX9_letters_208 (by decide) ?_
    obtain ⟨v30, e29, h⟩ := bindE h
    refine q_callS (v := some (.long v30)) [.int (105 : Int32), .int (110 : Int32), .int (0 : Int32), .int (0 : Int32), .int (0 : Int32), .int (0 : Int32)] C hRO lk_RX9_159 sk_X9_spelled rfl rfl (Nat.le_of_ble_eq_true rfl) (by decide) (by decide) dX9_letters_209 (k_X9_spelled X.1.2.1 hl X.2.2.1 (105 : Int32) (110 : Int32) (0 : Int32) (0 : Int32) (0 : Int32) (0 : Int32) M _ e29) ?_
    cases h
    exact q_lret C kf dX9_letters_212
  have h := ifF c28 h
  by_cases c31 : l0 = (10 : Int32)
  · have h := ifT c31 h
    refine q_tableIn (off := 212) (tgt := 213) C dX9_letters_1 (by rw [c31]; decide) (by rw [c31]; decide) (by rw [c31]; rfl) (by decide) ?_
    refine q_bipush (v := (101 : Int32)) C dX9_letters_213 (by decide) ?_
    refine q_bipush (v := (97 : Int32)) C dX9_letters_215 (by decide) ?_
    refine q_bipush (v := (115 : Int32)) C dX9_letters_217 (by decide) ?_
    refine q_bipush (v := (101 : Int32)) C dX9_letters_219 (by decide) ?_
    refine q_bipush (v := (115 : Int32)) C dX9_letters_221 (by decide) ?_
    refine q_iconst (v := (0 : Int32)) C dX9_letters_223 (by decide) ?_
    obtain ⟨v33, e32, h⟩ := bindE h
    refine q_callS (v := some (.long v33)) [.int (101 : Int32), .int (97 : Int32), .int (115 : Int32), .int (101 : Int32), .int (115 : Int32), .int (0 : Int32)] C hRO lk_RX9_159 sk_X9_spelled rfl rfl (Nat.le_of_ble_eq_true rfl) (by decide) (by decide) dX9_letters_224 (k_X9_spelled X.1.2.1 hl X.2.2.1 (101 : Int32) (97 : Int32) (115 : Int32) (101 : Int32) (115 : Int32) (0 : Int32) M _ e32) ?_
    cases h
    exact q_lret C kf dX9_letters_227
  have h := ifF c31 h
  by_cases c34 : l0 = (11 : Int32)
  · have h := ifT c34 h
    refine q_tableIn (off := 227) (tgt := 228) C dX9_letters_1 (by rw [c34]; decide) (by rw [c34]; decide) (by rw [c34]; rfl) (by decide) ?_
    refine q_bipush (v := (98 : Int32)) C dX9_letters_228 (by decide) ?_
    refine q_bipush (v := (117 : Int32)) C dX9_letters_230 (by decide) ?_
    refine q_bipush (v := (114 : Int32)) C dX9_letters_232 (by decide) ?_
    refine q_bipush (v := (115 : Int32)) C dX9_letters_234 (by decide) ?_
    refine q_bipush (v := (116 : Int32)) C dX9_letters_236 (by decide) ?_
    refine q_bipush (v := (115 : Int32)) C dX9_letters_238 (by decide) ?_
    obtain ⟨v36, e35, h⟩ := bindE h
    refine q_callS (v := some (.long v36)) [.int (98 : Int32), .int (117 : Int32), .int (114 : Int32), .int (115 : Int32), .int (116 : Int32), .int (115 : Int32)] C hRO lk_RX9_159 sk_X9_spelled rfl rfl (Nat.le_of_ble_eq_true rfl) (by decide) (by decide) dX9_letters_240 (k_X9_spelled X.1.2.1 hl X.2.2.1 (98 : Int32) (117 : Int32) (114 : Int32) (115 : Int32) (116 : Int32) (115 : Int32) M _ e35) ?_
    cases h
    exact q_lret C kf dX9_letters_243
  have h := ifF c34 h
  by_cases c37 : l0 = (12 : Int32)
  · have h := ifT c37 h
    refine q_tableIn (off := 243) (tgt := 244) C dX9_letters_1 (by rw [c37]; decide) (by rw [c37]; decide) (by rw [c37]; rfl) (by decide) ?_
    refine q_bipush (v := (97 : Int32)) C dX9_letters_244 (by decide) ?_
    refine q_bipush (v := (110 : Int32)) C dX9_letters_246 (by decide) ?_
    refine q_bipush (v := (100 : Int32)) C dX9_letters_248 (by decide) ?_
    refine q_iconst (v := (0 : Int32)) C dX9_letters_250 (by decide) ?_
    refine q_iconst (v := (0 : Int32)) C dX9_letters_251 (by decide) ?_
    refine q_iconst (v := (0 : Int32)) C dX9_letters_252 (by decide) ?_
    obtain ⟨v39, e38, h⟩ := bindE h
    refine q_callS (v := some (.long v39)) [.int (97 : Int32), .int (110 : Int32), .int (100 : Int32), .int (0 : Int32), .int (0 : Int32), .int (0 : Int32)] C hRO lk_RX9_159 sk_X9_spelled rfl rfl (Nat.le_of_ble_eq_true rfl) (by decide) (by decide) dX9_letters_253 (k_X9_spelled X.1.2.1 hl X.2.2.1 (97 : Int32) (110 : Int32) (100 : Int32) (0 : Int32) (0 : Int32) (0 : Int32) M _ e38) ?_
    cases h
    exact q_lret C kf dX9_letters_256
  have h := ifF c37 h
  by_cases c40 : l0 = (13 : Int32)
  · have h := ifT c40 h
    refine q_tableIn (off := 256) (tgt := 257) C dX9_letters_1 (by rw [c40]; decide) (by rw [c40]; decide) (by rw [c40]; rfl) (by decide) ?_
    refine q_bipush (v := (111 : Int32)) C dX9_letters_257 (by decide) ?_
    refine q_bipush (v := (114 : Int32)) C dX9_letters_259 (by decide) ?_
    refine q_iconst (v := (0 : Int32)) C dX9_letters_261 (by decide) ?_
    refine q_iconst (v := (0 : Int32)) C dX9_letters_262 (by decide) ?_
    refine q_iconst (v := (0 : Int32)) C dX9_letters_263 (by decide) ?_
    refine q_iconst (v := (0 : Int32)) C dX9_letters_264 (by decide) ?_
    obtain ⟨v42, e41, h⟩ := bindE h
    refine q_callS (v := some (.long v42)) [.int (111 : Int32), .int (114 : Int32), .int (0 : Int32), .int (0 : Int32), .int (0 : Int32), .int (0 : Int32)] C hRO lk_RX9_159 sk_X9_spelled rfl rfl (Nat.le_of_ble_eq_true rfl) (by decide) (by decide) dX9_letters_265 (k_X9_spelled X.1.2.1 hl X.2.2.1 (111 : Int32) (114 : Int32) (0 : Int32) (0 : Int32) (0 : Int32) (0 : Int32) M _ e41) ?_
    cases h
    exact q_lret C kf dX9_letters_268
  have h := ifF c40 h
  refine q_tableOut (tgt := 269) C dX9_letters_1 (by have z0 := neI c1; have z1 := neI c4; have z2 := neI c7; have z3 := neI c10; have z4 := neI c13; have z5 := neI c16; have z6 := neI c19; have z7 := neI c22; have z8 := neI c25; have z9 := neI c28; have z10 := neI c31; have z11 := neI c34; have z12 := neI c37; have z13 := neI c40; simp only [Int32.reduceToInt] at *; omega) (by decide) ?_
  refine q_bipush (v := (110 : Int32)) C dX9_letters_269 (by decide) ?_
  refine q_bipush (v := (111 : Int32)) C dX9_letters_271 (by decide) ?_
  refine q_bipush (v := (116 : Int32)) C dX9_letters_273 (by decide) ?_
  refine q_iconst (v := (0 : Int32)) C dX9_letters_275 (by decide) ?_
  refine q_iconst (v := (0 : Int32)) C dX9_letters_276 (by decide) ?_
  refine q_iconst (v := (0 : Int32)) C dX9_letters_277 (by decide) ?_
  obtain ⟨v44, e43, h⟩ := bindE h
  refine q_callS (v := some (.long v44)) [.int (110 : Int32), .int (111 : Int32), .int (116 : Int32), .int (0 : Int32), .int (0 : Int32), .int (0 : Int32)] C hRO lk_RX9_159 sk_X9_spelled rfl rfl (Nat.le_of_ble_eq_true rfl) (by decide) (by decide) dX9_letters_278 (k_X9_spelled X.1.2.1 hl X.2.2.1 (110 : Int32) (111 : Int32) (116 : Int32) (0 : Int32) (0 : Int32) (0 : Int32) M _ e43) ?_
  cases h
  exact q_lret C kf dX9_letters_281
theorem k_X9_letters (l : Launch) (hl : l.stackTraces = false) (G : GG) (l0 : Int32) (M : Mem) (x : Int64) (h : F_X9_letters l0 M = some x) : Ct l G yX9_letters (.code yX9_letters cX9_letters 1 (some .long)) 8 167 [.int l0] M (rs_pL x) M := by
  refine Ct_of (by decide +kernel) (Nat.le_of_ble_eq_true rfl) fun X e1 e2 e3 C FN hnm => ?_
  subst e1; subst e2
  show wq X 1 0 [(0, .int l0)] [] M
  exact w_X9_letters C FN.2.2.2 hl l0 M h FN
/-! X9_knownWord -/
set_option maxRecDepth 100000 in
set_option maxHeartbeats 4000000 in
theorem w_X9_knownWord_s21 {X : CX} {y : (Int32) ⊕ ((Unit) ⊕ (Int32))} (C : CK X cX9_knownWord 2 RX9 9 187) (hRO : RO X.2.2.1 X.1.2.2.2.2.1 X.1.2.2.2.2.1.heap) (hl : X.1.2.1.stackTraces = false) (l0 : Nat) (M : Mem) (l1 : Int32) (h : F_X9_knownWord_s21 l0 M l1 = some y) (kc : ∀ s' : Int32, y = .inl s' → wq X 2 21 [(0, .ref l0), (1, .int (s'))] [] M) (kx : ∀ e' : Unit, y = (.inr (.inl e')) → wq X 2 47 [] [] M) (kf : ∀ f' : Int32, y = (.inr (.inr f')) → FIN X (some .int) (rs_pI f') M) : wq X 2 21 [(0, .ref l0), (1, .int l1)] [] M := by
  unfold F_X9_knownWord_s21 at h
  refine q_iload_n 1 C dX9_knownWord_21 rfl ?_
  refine q_bipush (v := (15 : Int32)) C dX9_knownWord_22 (by decide) ?_
  refine q_icmp_ge (tgt := 47) C dX9_knownWord_24 (by decide) (fun c7 => ?_) (fun c7 => ?_)
  · have h := ifT c7 h
    exact q_sub (lv' := []) [] rfl (kx () (someI h))
  · have h := ifF c7 h
    refine q_iload_n 1 C dX9_knownWord_27 rfl ?_
    obtain ⟨v9, e8, h⟩ := bindE h
    refine q_callS (v := some (.long v9)) [.int l1] C hRO lk_RX9_163 sk_X9_letters rfl rfl (Nat.le_of_ble_eq_true rfl) (by decide) (by decide) dX9_knownWord_28 (k_X9_letters X.1.2.1 hl X.2.2.1 l1 M _ e8) ?_
    refine q_aload_n 0 C dX9_knownWord_31 rfl ?_
    obtain ⟨v10, e11, h⟩ := bindE h
    refine q_getL C fl_RX9_134 rfl e11 dX9_knownWord_32 ?_
    refine q_lcmp C dX9_knownWord_35 ?_
    refine q_if_ne (tgt := 41) C dX9_knownWord_36 (by decide) (fun c12 => ?_) (fun c12 => ?_)
    · have h := ifF c12 h
      refine q_iinc 1 (v := (l1 + (1 : Int32))) (lv' := [(1, .int (l1 + (1 : Int32))), (0, .ref l0)]) C dX9_knownWord_41 rfl rfl (by decide) rfl ?_
      refine q_goto (tgt := 21) C dX9_knownWord_44 (by decide) ?_
      exact q_sub (lv' := [(0, .ref l0), (1, .int (l1 + (1 : Int32)))]) [1, 0] rfl (kc (l1 + (1 : Int32)) (someI h))
    · have h := ifT c12 h
      refine q_iload_n 1 C dX9_knownWord_39 rfl ?_
      exact q_iret C (kf _ (someI h)) dX9_knownWord_40
theorem w_X9_knownWord_l21 {X : CX} {r : (Unit) ⊕ (Int32)} (C : CK X cX9_knownWord 2 RX9 9 187) (hRO : RO X.2.2.1 X.1.2.2.2.2.1 X.1.2.2.2.2.1.heap) (hl : X.1.2.1.stackTraces = false) (l0 : Nat) (M : Mem) (l1 : Int32) (h : loop (fun s => F_X9_knownWord_s21 l0 M s) l1 = some r) (kx : ∀ e' : Unit, r = .inl e' → wq X 2 47 [] [] M) (kf : ∀ f' : Int32, r = .inr f' → FIN X (some .int) (rs_pI f') M) : wq X 2 21 [(0, .ref l0), (1, .int l1)] [] M :=
  loop_ind (P := fun s => wq X 2 21 [(0, .ref l0), (1, .int s)] [] M) h (fun s y hy kc kr => w_X9_knownWord_s21 C hRO hl l0 M s hy kc (fun e' he => kx e' (kr _ he).symm) (fun f' he => kf f' (kr _ he).symm))
set_option maxRecDepth 100000 in
set_option maxHeartbeats 4000000 in
theorem w_X9_knownWord {X : CX} {y : Int32} (C : CK X cX9_knownWord 2 RX9 9 187) (hRO : RO X.2.2.1 X.1.2.2.2.2.1 X.1.2.2.2.2.1.heap) (hl : X.1.2.1.stackTraces = false) (l0 : Nat) (M : Mem) (h : F_X9_knownWord l0 M = some y) (kf : FIN X (some .int) (rs_pI y) M) : wq X 2 0 [(0, .ref l0)] [] M := by
  unfold F_X9_knownWord at h
  refine q_aload_n 0 C dX9_knownWord_0 rfl ?_
  obtain ⟨v1, e2, h⟩ := bindE h
  refine q_getI C fl_RX9_144 rfl e2 dX9_knownWord_1 ?_
  refine q_iconst (v := (1 : Int32)) C dX9_knownWord_4 (by decide) ?_
  refine q_icmp_ne (tgt := 17) C dX9_knownWord_5 (by decide) (fun c3 => ?_) (fun c3 => ?_)
  · have h := ifF c3 h
    refine q_iconst (v := (-1 : Int32)) C dX9_knownWord_17 (by decide) ?_
    cases h
    exact q_iret C kf dX9_knownWord_18
  · have h := ifT c3 h
    refine q_aload_n 0 C dX9_knownWord_8 rfl ?_
    obtain ⟨v4, e5, h⟩ := bindE h
    refine q_getI C fl_RX9_154 rfl e5 dX9_knownWord_9 ?_
    refine q_bipush (v := (6 : Int32)) C dX9_knownWord_12 (by decide) ?_
    refine q_icmp_le (tgt := 19) C dX9_knownWord_14 (by decide) (fun c6 => ?_) (fun c6 => ?_)
    · have h := ifT c6 h
      refine q_iconst (v := (0 : Int32)) C dX9_knownWord_19 (by decide) ?_
      refine q_istore_n (i := 1) (lv' := [(1, .int (0 : Int32)), (0, .ref l0)]) C dX9_knownWord_20 rfl (by decide) rfl ?_
      obtain ⟨r13, e14, h⟩ := bindE h
      refine q_sub (lv' := [(0, .ref l0), (1, .int (0 : Int32))]) [1, 0] rfl (w_X9_knownWord_l21 C hRO hl l0 M (0 : Int32) e14 (fun q15 he => ?_) (fun f16 he => ?_))
      · subst he
        have h := elimL h
        show wq X 2 47 [] [] M
        refine q_iconst (v := (-1 : Int32)) C dX9_knownWord_47 (by decide) ?_
        cases h
        exact q_iret C kf dX9_knownWord_48
      · subst he
        have h := elimR h
        cases h
        exact kf
    · have h := ifF c6 h
      refine q_iconst (v := (-1 : Int32)) C dX9_knownWord_17 (by decide) ?_
      cases h
      exact q_iret C kf dX9_knownWord_18
theorem k_X9_knownWord (l : Launch) (hl : l.stackTraces = false) (G : GG) (l0 : Nat) (M : Mem) (x : Int32) (h : F_X9_knownWord l0 M = some x) : Ct l G yX9_knownWord (.code yX9_knownWord cX9_knownWord 2 (some .int)) 9 187 [.ref l0] M (rs_pI x) M := by
  refine Ct_of (by decide +kernel) (Nat.le_of_ble_eq_true rfl) fun X e1 e2 e3 C FN hnm => ?_
  subst e1; subst e2
  show wq X 2 0 [(0, .ref l0)] [] M
  exact w_X9_knownWord C FN.2.2.2 hl l0 M h FN
/-! X9_part -/
set_option maxRecDepth 100000 in
set_option maxHeartbeats 4000000 in
theorem w_X9_part_j93 {X : CX} {y : Mem} (C : CK X cX9_part 2 RX9 10 208) (hRO : RO X.2.2.1 X.1.2.2.2.2.1 X.1.2.2.2.2.1.heap) (hl : X.1.2.1.stackTraces = false) (l0 : Nat) (M : Mem) (h : F_X9_part_j93 l0 M = some y) (kf : FIN X none (rs_mV y) (ms_mV y)) : wq X 2 93 [(0, .ref l0)] [] M := by
  unfold F_X9_part_j93 at h
  refine q_aload_n 0 C dX9_part_93 rfl ?_
  obtain ⟨e15, h⟩ := ckOE h
  obtain ⟨v17, e16, h⟩ := bindE h
  refine q_callV (v := some (.int v17)) [] C hRO lk_RX9_170 vk_X9_isGood e15 rfl rfl rfl (Nat.le_of_ble_eq_true rfl) (by decide) (by decide) dX9_part_94 (k_X9_isGood X.1.2.1 hl X.2.2.1 l0 M _ e16) ?_
  refine q_if_eq (tgt := 104) C dX9_part_97 (by decide) (fun c18 => ?_) (fun c18 => ?_)
  · have h := ifT c18 h
    cases h
    exact q_vret C kf dX9_part_104
  · have h := ifF c18 h
    refine q_aload_n 0 C dX9_part_100 rfl ?_
    obtain ⟨e19, h⟩ := ckOE h
    obtain ⟨M21, e20, h⟩ := bindE h
    refine q_callV (v := none) [] C hRO lk_RX9_174 vk_X9_takes e19 rfl rfl rfl (Nat.le_of_ble_eq_true rfl) (by decide) (by decide) dX9_part_101 (k_X9_takes X.1.2.1 hl X.2.2.1 l0 M _ e20) ?_
    cases h
    exact q_vret C kf dX9_part_104
set_option maxRecDepth 100000 in
set_option maxHeartbeats 4000000 in
theorem w_X9_part_j75 {X : CX} {y : Mem} (C : CK X cX9_part 2 RX9 10 208) (hRO : RO X.2.2.1 X.1.2.2.2.2.1 X.1.2.2.2.2.1.heap) (hl : X.1.2.1.stackTraces = false) (l0 : Nat) (l1 : Int32) (M : Mem) (h : F_X9_part_j75 l0 l1 M = some y) (kf : FIN X none (rs_mV y) (ms_mV y)) : wq X 2 75 [(0, .ref l0), (1, .int l1)] [] M := by
  unfold F_X9_part_j75 at h
  refine q_aload_n 0 C dX9_part_75 rfl ?_
  refine q_iconst (v := (2 : Int32)) C dX9_part_76 (by decide) ?_
  obtain ⟨e31, h⟩ := ckOE h
  obtain ⟨M33, e32, h⟩ := bindE h
  refine q_callV (v := none) [.int (2 : Int32)] C hRO lk_RX9_192 vk_X9_puts e31 rfl rfl rfl (Nat.le_of_ble_eq_true rfl) (by decide) (by decide) dX9_part_77 (k_X9_puts X.1.2.1 hl X.2.2.1 l0 (2 : Int32) M _ e32) ?_
  refine q_aload_n 0 C dX9_part_80 rfl ?_
  refine q_iload_n 1 C dX9_part_81 rfl ?_
  obtain ⟨e35, h⟩ := ckOE h
  obtain ⟨M37, e36, h⟩ := bindE h
  refine q_callV (v := none) [.int l1] C hRO lk_RX9_192 vk_X9_puts e35 rfl rfl rfl (Nat.le_of_ble_eq_true rfl) (by decide) (by decide) dX9_part_82 (k_X9_puts X.1.2.1 hl X.2.2.1 l0 l1 M33 _ e36) ?_
  refine q_goto (tgt := 93) C dX9_part_85 (by decide) ?_
  exact q_sub (lv' := [(0, .ref l0)]) [0] rfl (w_X9_part_j93 C hRO hl l0 M37 h kf)
set_option maxRecDepth 100000 in
set_option maxHeartbeats 4000000 in
theorem w_X9_part_j70 {X : CX} {y : Mem} (C : CK X cX9_part 2 RX9 10 208) (hRO : RO X.2.2.1 X.1.2.2.2.2.1 X.1.2.2.2.2.1.heap) (hl : X.1.2.1.stackTraces = false) (l0 : Nat) (l1 : Int32) (M : Mem) (h : F_X9_part_j70 l0 l1 M = some y) (kf : FIN X none (rs_mV y) (ms_mV y)) : wq X 2 70 [(0, .ref l0), (1, .int l1)] [] M := by
  unfold F_X9_part_j70 at h
  refine q_aload_n 0 C dX9_part_70 rfl ?_
  refine q_iconst (v := (3 : Int32)) C dX9_part_71 (by decide) ?_
  obtain ⟨e27, h⟩ := ckOE h
  obtain ⟨M29, e28, h⟩ := bindE h
  refine q_callV (v := none) [.int (3 : Int32)] C hRO lk_RX9_177 vk_X9_wrong e27 rfl rfl rfl (Nat.le_of_ble_eq_true rfl) (by decide) (by decide) dX9_part_72 (k_X9_wrong X.1.2.1 hl X.2.2.1 l0 (3 : Int32) M _ e28) ?_
  exact q_sub (lv' := [(0, .ref l0), (1, .int l1)]) [0, 1] rfl (w_X9_part_j75 C hRO hl l0 l1 M29 h kf)
set_option maxRecDepth 100000 in
set_option maxHeartbeats 4000000 in
theorem w_X9_part_j29 {X : CX} {y : Mem} (C : CK X cX9_part 2 RX9 10 208) (hRO : RO X.2.2.1 X.1.2.2.2.2.1 X.1.2.2.2.2.1.heap) (hl : X.1.2.1.stackTraces = false) (l0 : Nat) (M : Mem) (h : F_X9_part_j29 l0 M = some y) (kf : FIN X none (rs_mV y) (ms_mV y)) : wq X 2 29 [(0, .ref l0)] [] M := by
  unfold F_X9_part_j29 at h
  refine q_aload_n 0 C dX9_part_29 rfl ?_
  refine q_iconst (v := (1 : Int32)) C dX9_part_30 (by decide) ?_
  obtain ⟨e45, h⟩ := ckOE h
  obtain ⟨M47, e46, h⟩ := bindE h
  refine q_callV (v := none) [.int (1 : Int32)] C hRO lk_RX9_192 vk_X9_puts e45 rfl rfl rfl (Nat.le_of_ble_eq_true rfl) (by decide) (by decide) dX9_part_31 (k_X9_puts X.1.2.1 hl X.2.2.1 l0 (1 : Int32) M _ e46) ?_
  refine q_aload_n 0 C dX9_part_34 rfl ?_
  refine q_aload_n 0 C dX9_part_35 rfl ?_
  obtain ⟨v49, e50, h⟩ := bindE h
  refine q_getI C fl_RX9_138 rfl e50 dX9_part_36 ?_
  obtain ⟨e51, h⟩ := ckOE h
  obtain ⟨M53, e52, h⟩ := bindE h
  refine q_callV (v := none) [.int v49] C hRO lk_RX9_192 vk_X9_puts e51 rfl rfl rfl (Nat.le_of_ble_eq_true rfl) (by decide) (by decide) dX9_part_39 (k_X9_puts X.1.2.1 hl X.2.2.1 l0 v49 M47 _ e52) ?_
  refine q_goto (tgt := 93) C dX9_part_42 (by decide) ?_
  exact q_sub (lv' := [(0, .ref l0)]) [0] rfl (w_X9_part_j93 C hRO hl l0 M53 h kf)
set_option maxRecDepth 100000 in
set_option maxHeartbeats 4000000 in
theorem w_X9_part {X : CX} {y : Mem} (C : CK X cX9_part 2 RX9 10 208) (hRO : RO X.2.2.1 X.1.2.2.2.2.1 X.1.2.2.2.2.1.heap) (hl : X.1.2.1.stackTraces = false) (l0 : Nat) (M : Mem) (h : F_X9_part l0 M = some y) (kf : FIN X none (rs_mV y) (ms_mV y)) : wq X 2 0 [(0, .ref l0)] [] M := by
  unfold F_X9_part at h
  refine q_aload_n 0 C dX9_part_0 rfl ?_
  obtain ⟨e1, h⟩ := ckOE h
  obtain ⟨v3, e2, h⟩ := bindE h
  refine q_callV (v := some (.int v3)) [] C hRO lk_RX9_170 vk_X9_isGood e1 rfl rfl rfl (Nat.le_of_ble_eq_true rfl) (by decide) (by decide) dX9_part_1 (k_X9_isGood X.1.2.1 hl X.2.2.1 l0 M _ e2) ?_
  refine q_if_ne (tgt := 8) C dX9_part_4 (by decide) (fun c4 => ?_) (fun c4 => ?_)
  · have h := ifF c4 h
    refine q_aload_n 0 C dX9_part_8 rfl ?_
    obtain ⟨v5, e6, h⟩ := bindE h
    refine q_getI C fl_RX9_144 rfl e6 dX9_part_9 ?_
    refine q_iconst (v := (2 : Int32)) C dX9_part_12 (by decide) ?_
    refine q_icmp_ne (tgt := 45) C dX9_part_13 (by decide) (fun c7 => ?_) (fun c7 => ?_)
    · have h := ifF c7 h
      refine q_aload_n 0 C dX9_part_45 rfl ?_
      obtain ⟨v8, e9, h⟩ := bindE h
      refine q_getI C fl_RX9_144 rfl e9 dX9_part_46 ?_
      refine q_iconst (v := (1 : Int32)) C dX9_part_49 (by decide) ?_
      refine q_icmp_ne (tgt := 88) C dX9_part_50 (by decide) (fun c10 => ?_) (fun c10 => ?_)
      · have h := ifF c10 h
        refine q_aload_n 0 C dX9_part_88 rfl ?_
        refine q_iconst (v := (1 : Int32)) C dX9_part_89 (by decide) ?_
        obtain ⟨e11, h⟩ := ckOE h
        obtain ⟨M13, e12, h⟩ := bindE h
        refine q_callV (v := none) [.int (1 : Int32)] C hRO lk_RX9_177 vk_X9_wrong e11 rfl rfl rfl (Nat.le_of_ble_eq_true rfl) (by decide) (by decide) dX9_part_90 (k_X9_wrong X.1.2.1 hl X.2.2.1 l0 (1 : Int32) M _ e12) ?_
        exact q_sub (lv' := [(0, .ref l0)]) [0] rfl (w_X9_part_j93 C hRO hl l0 M13 h kf)
      · have h := ifT c10 h
        refine q_aload_n 0 C dX9_part_53 rfl ?_
        obtain ⟨e23, h⟩ := ckOE h
        obtain ⟨v25, e24, h⟩ := bindE h
        refine q_callV (v := some (.int v25)) [] C hRO lk_RX9_195 vk_X9_knownWord e23 rfl rfl rfl (Nat.le_of_ble_eq_true rfl) (by decide) (by decide) dX9_part_54 (k_X9_knownWord X.1.2.1 hl X.2.2.1 l0 M _ e24) ?_
        refine q_istore_n (i := 1) (lv' := [(1, .int v25), (0, .ref l0)]) C dX9_part_57 rfl (by decide) rfl ?_
        refine q_iload_n 0 C dX9_part_58 rfl ?_
        refine q_if_lt (tgt := 70) C dX9_part_59 (by decide) (fun c26 => ?_) (fun c26 => ?_)
        · have h := ifT c26 h
          exact q_sub (lv' := [(0, .ref l0), (1, .int v25)]) [1, 0] rfl (w_X9_part_j70 C hRO hl l0 v25 M h kf)
        · have h := ifF c26 h
          refine q_iload_n 0 C dX9_part_62 rfl ?_
          refine q_aload_n 1 C dX9_part_63 rfl ?_
          obtain ⟨v39, e40, h⟩ := bindE h
          refine q_getI C fl_RX9_199 rfl e40 dX9_part_64 ?_
          refine q_icmp_le (tgt := 75) C dX9_part_67 (by decide) (fun c41 => ?_) (fun c41 => ?_)
          · have h := ifT c41 h
            exact q_sub (lv' := [(0, .ref l0), (1, .int v25)]) [1, 0] rfl (w_X9_part_j75 C hRO hl l0 v25 M h kf)
          · have h := ifF c41 h
            exact q_sub (lv' := [(0, .ref l0), (1, .int v25)]) [1, 0] rfl (w_X9_part_j70 C hRO hl l0 v25 M h kf)
    · have h := ifT c7 h
      refine q_aload_n 0 C dX9_part_16 rfl ?_
      obtain ⟨v42, e43, h⟩ := bindE h
      refine q_getI C fl_RX9_154 rfl e43 dX9_part_17 ?_
      refine q_iconst (v := (4 : Int32)) C dX9_part_20 (by decide) ?_
      refine q_icmp_le (tgt := 29) C dX9_part_21 (by decide) (fun c44 => ?_) (fun c44 => ?_)
      · have h := ifT c44 h
        exact q_sub (lv' := [(0, .ref l0)]) [0] rfl (w_X9_part_j29 C hRO hl l0 M h kf)
      · have h := ifF c44 h
        refine q_aload_n 0 C dX9_part_24 rfl ?_
        refine q_iconst (v := (2 : Int32)) C dX9_part_25 (by decide) ?_
        obtain ⟨e55, h⟩ := ckOE h
        obtain ⟨M57, e56, h⟩ := bindE h
        refine q_callV (v := none) [.int (2 : Int32)] C hRO lk_RX9_177 vk_X9_wrong e55 rfl rfl rfl (Nat.le_of_ble_eq_true rfl) (by decide) (by decide) dX9_part_26 (k_X9_wrong X.1.2.1 hl X.2.2.1 l0 (2 : Int32) M _ e56) ?_
        exact q_sub (lv' := [(0, .ref l0)]) [0] rfl (w_X9_part_j29 C hRO hl l0 M57 h kf)
  · have h := ifT c4 h
    cases h
    exact q_vret C kf dX9_part_7
theorem k_X9_part (l : Launch) (hl : l.stackTraces = false) (G : GG) (l0 : Nat) (M : Mem) (x : Mem) (h : F_X9_part l0 M = some x) : Ct l G yX9_part (.code yX9_part cX9_part 2 none) 10 208 [.ref l0] M (rs_mV x) (ms_mV x) := by
  refine Ct_of (by decide +kernel) (Nat.le_of_ble_eq_true rfl) fun X e1 e2 e3 C FN hnm => ?_
  subst e1; subst e2
  show wq X 2 0 [(0, .ref l0)] [] M
  exact w_X9_part C FN.2.2.2 hl l0 M h FN
/-! X9_waitsFor -/
set_option maxRecDepth 100000 in
set_option maxHeartbeats 4000000 in
theorem w_X9_waitsFor {X : CX} {y : Mem} (C : CK X cX9_waitsFor 2 RX9 7 140) (hRO : RO X.2.2.1 X.1.2.2.2.2.1 X.1.2.2.2.2.1.heap) (hl : X.1.2.1.stackTraces = false) (l0 : Nat) (l1 : Int32) (M : Mem) (h : F_X9_waitsFor l0 l1 M = some y) (kf : FIN X none (rs_mV y) (ms_mV y)) : wq X 2 0 [(0, .ref l0), (1, .int l1)] [] M := by
  unfold F_X9_waitsFor at h
  refine q_aload_n 0 C dX9_waitsFor_0 rfl ?_
  obtain ⟨v1, e2, h⟩ := bindE h
  refine q_getP C fl_RX9_59 rfl e2 dX9_waitsFor_1 ?_
  refine q_aload_n 0 C dX9_waitsFor_4 rfl ?_
  obtain ⟨v3, e4, h⟩ := bindE h
  refine q_getI C fl_RX9_183 rfl e4 dX9_waitsFor_5 ?_
  refine q_iload_n 1 C dX9_waitsFor_8 rfl ?_
  obtain ⟨M5, e6, h⟩ := bindE h
  refine q_iastore C e6 dX9_waitsFor_9 ?_
  refine q_aload_n 0 C dX9_waitsFor_10 rfl ?_
  refine q_dup C dX9_waitsFor_11 rfl ?_
  obtain ⟨v7, e8, h⟩ := bindE h
  refine q_getI C fl_RX9_183 rfl e8 dX9_waitsFor_12 ?_
  refine q_iconst (v := (1 : Int32)) C dX9_waitsFor_15 (by decide) ?_
  refine q_iadd C dX9_waitsFor_16 ?_
  obtain ⟨M9, e10, h⟩ := bindE h
  refine q_putI C fp_RX9_183 rfl e10 dX9_waitsFor_17 ?_
  cases h
  exact q_vret C kf dX9_waitsFor_20
theorem k_X9_waitsFor (l : Launch) (hl : l.stackTraces = false) (G : GG) (l0 : Nat) (l1 : Int32) (M : Mem) (x : Mem) (h : F_X9_waitsFor l0 l1 M = some x) : Ct l G yX9_waitsFor (.code yX9_waitsFor cX9_waitsFor 2 none) 7 140 [.ref l0, .int l1] M (rs_mV x) (ms_mV x) := by
  refine Ct_of (by decide +kernel) (Nat.le_of_ble_eq_true rfl) fun X e1 e2 e3 C FN hnm => ?_
  subst e1; subst e2
  show wq X 2 0 [(0, .ref l0), (1, .int l1)] [] M
  exact w_X9_waitsFor C FN.2.2.2 hl l0 l1 M h FN
/-! X9_operand -/
set_option maxRecDepth 100000 in
set_option maxHeartbeats 4000000 in
theorem w_X9_operand_j50_18 {X : CX} {y : (Int32 × Mem) ⊕ (Mem)} (C : CK X cX9_operand 5 RX9 11 229) (hRO : RO X.2.2.1 X.1.2.2.2.2.1 X.1.2.2.2.2.1.heap) (hl : X.1.2.1.stackTraces = false) (l0 : Nat) (l2 : Int32) (l4 : Int32) (M : Mem) (h : F_X9_operand_j50_18 l0 l2 l4 M = some y) (kc : ∀ s' : Int32 × Mem, y = .inl s' → wq X 5 18 [(0, .ref l0), (2, .int l2), (4, .int (s'.1))] [] s'.2) (kx : ∀ e' : Mem, y = (.inr e') → wq X 5 75 [(0, .ref l0), (2, .int l2)] [] e') : wq X 5 50 [(0, .ref l0), (2, .int l2), (4, .int l4)] [] M := by
  unfold F_X9_operand_j50_18 at h
  refine q_iinc 2 (v := (l4 + (1 : Int32))) (lv' := [(4, .int (l4 + (1 : Int32))), (0, .ref l0), (2, .int l2)]) C dX9_operand_50 rfl rfl (by decide) rfl ?_
  refine q_aload_n 1 C dX9_operand_53 rfl ?_
  obtain ⟨e16, h⟩ := ckOE h
  obtain ⟨v18, e17, h⟩ := bindE h
  refine q_callV (v := some (.int v18)) [] C hRO lk_RX9_170 vk_X9_isGood e16 rfl rfl rfl (Nat.le_of_ble_eq_true rfl) (by decide) (by decide) dX9_operand_54 (k_X9_isGood X.1.2.1 hl X.2.2.1 l0 M _ e17) ?_
  refine q_if_ne (tgt := 63) C dX9_operand_57 (by decide) (fun c19 => ?_) (fun c19 => ?_)
  · have h := ifF c19 h
    refine q_aload_n 1 C dX9_operand_63 rfl ?_
    refine q_iconst (v := (3 : Int32)) C dX9_operand_64 (by decide) ?_
    obtain ⟨e20, h⟩ := ckOE h
    obtain ⟨M22, e21, h⟩ := bindE h
    refine q_callV (v := none) [.int (3 : Int32)] C hRO lk_RX9_208 vk_X9_waitsFor e20 rfl rfl rfl (Nat.le_of_ble_eq_true rfl) (by decide) (by decide) dX9_operand_65 (k_X9_waitsFor X.1.2.1 hl X.2.2.1 l0 (3 : Int32) M _ e21) ?_
    refine q_aload_n 1 C dX9_operand_68 rfl ?_
    obtain ⟨e24, h⟩ := ckOE h
    obtain ⟨M26, e25, h⟩ := bindE h
    refine q_callV (v := none) [] C hRO lk_RX9_174 vk_X9_takes e24 rfl rfl rfl (Nat.le_of_ble_eq_true rfl) (by decide) (by decide) dX9_operand_69 (k_X9_takes X.1.2.1 hl X.2.2.1 l0 M22 _ e25) ?_
    refine q_goto (tgt := 18) C dX9_operand_72 (by decide) ?_
    exact q_sub (lv' := [(0, .ref l0), (2, .int l2), (4, .int (l4 + (1 : Int32)))]) [1, 2, 0] rfl (kc ((l4 + (1 : Int32)), M26) (someI h))
  · have h := ifT c19 h
    refine q_goto (tgt := 18) C dX9_operand_60 (by decide) ?_
    exact q_sub (lv' := [(0, .ref l0), (2, .int l2), (4, .int (l4 + (1 : Int32)))]) [1, 2, 0] rfl (kc ((l4 + (1 : Int32)), M) (someI h))
set_option maxRecDepth 100000 in
set_option maxHeartbeats 4000000 in
theorem w_X9_operand_s18 {X : CX} {y : (Int32 × Mem) ⊕ (Mem)} (C : CK X cX9_operand 5 RX9 11 229) (hRO : RO X.2.2.1 X.1.2.2.2.2.1 X.1.2.2.2.2.1.heap) (hl : X.1.2.1.stackTraces = false) (l0 : Nat) (l2 : Int32) (l4 : Int32) (M : Mem) (h : F_X9_operand_s18 l0 l2 l4 M = some y) (kc : ∀ s' : Int32 × Mem, y = .inl s' → wq X 5 18 [(0, .ref l0), (2, .int l2), (4, .int (s'.1))] [] s'.2) (kx : ∀ e' : Mem, y = (.inr e') → wq X 5 75 [(0, .ref l0), (2, .int l2)] [] e') : wq X 5 18 [(0, .ref l0), (2, .int l2), (4, .int l4)] [] M := by
  unfold F_X9_operand_s18 at h
  refine q_aload_n 0 C dX9_operand_18 rfl ?_
  obtain ⟨e6, h⟩ := ckOE h
  obtain ⟨v8, e7, h⟩ := bindE h
  refine q_callV (v := some (.int v8)) [] C hRO lk_RX9_170 vk_X9_isGood e6 rfl rfl rfl (Nat.le_of_ble_eq_true rfl) (by decide) (by decide) dX9_operand_19 (k_X9_isGood X.1.2.1 hl X.2.2.1 l0 M _ e7) ?_
  refine q_if_eq (tgt := 75) C dX9_operand_22 (by decide) (fun c9 => ?_) (fun c9 => ?_)
  · have h := ifT c9 h
    exact q_sub (lv' := [(0, .ref l0), (2, .int l2)]) [0, 1] rfl (kx M (someI h))
  · have h := ifF c9 h
    refine q_iload_n 1 C dX9_operand_25 rfl ?_
    refine q_if_eq (tgt := 75) C dX9_operand_26 (by decide) (fun c10 => ?_) (fun c10 => ?_)
    · have h := ifT c10 h
      exact q_sub (lv' := [(0, .ref l0), (2, .int l2)]) [0, 1] rfl (kx M (someI h))
    · have h := ifF c10 h
      refine q_aload_n 0 C dX9_operand_29 rfl ?_
      obtain ⟨e11, h⟩ := ckOE h
      obtain ⟨v13, e12, h⟩ := bindE h
      refine q_callV (v := some (.int v13)) [] C hRO lk_RX9_195 vk_X9_knownWord e11 rfl rfl rfl (Nat.le_of_ble_eq_true rfl) (by decide) (by decide) dX9_operand_30 (k_X9_knownWord X.1.2.1 hl X.2.2.1 l0 M _ e12) ?_
      refine q_bipush (v := (14 : Int32)) C dX9_operand_33 (by decide) ?_
      refine q_icmp_ne (tgt := 75) C dX9_operand_35 (by decide) (fun c14 => ?_) (fun c14 => ?_)
      · have h := ifF c14 h
        exact q_sub (lv' := [(0, .ref l0), (2, .int l2)]) [0, 1] rfl (kx M (someI h))
      · have h := ifT c14 h
        refine q_iload 2 C dX9_operand_38 rfl ?_
        refine q_bipush (v := (6 : Int32)) C dX9_operand_40 (by decide) ?_
        refine q_icmp_ne (tgt := 50) C dX9_operand_42 (by decide) (fun c15 => ?_) (fun c15 => ?_)
        · have h := ifF c15 h
          exact q_sub (lv' := [(0, .ref l0), (2, .int l2), (4, .int l4)]) [0, 1, 2] rfl (w_X9_operand_j50_18 C hRO hl l0 l2 l4 M h kc kx)
        · have h := ifT c15 h
          refine q_aload_n 0 C dX9_operand_45 rfl ?_
          refine q_iconst (v := (2 : Int32)) C dX9_operand_46 (by decide) ?_
          obtain ⟨e28, h⟩ := ckOE h
          obtain ⟨M30, e29, h⟩ := bindE h
          refine q_callV (v := none) [.int (2 : Int32)] C hRO lk_RX9_177 vk_X9_wrong e28 rfl rfl rfl (Nat.le_of_ble_eq_true rfl) (by decide) (by decide) dX9_operand_47 (k_X9_wrong X.1.2.1 hl X.2.2.1 l0 (2 : Int32) M _ e29) ?_
          exact q_sub (lv' := [(0, .ref l0), (2, .int l2), (4, .int l4)]) [0, 1, 2] rfl (w_X9_operand_j50_18 C hRO hl l0 l2 l4 M30 h kc kx)
theorem w_X9_operand_l18 {X : CX} {r : Mem} (C : CK X cX9_operand 5 RX9 11 229) (hRO : RO X.2.2.1 X.1.2.2.2.2.1 X.1.2.2.2.2.1.heap) (hl : X.1.2.1.stackTraces = false) (l0 : Nat) (l2 : Int32) (l4 : Int32) (M : Mem) (h : loop (fun s => F_X9_operand_s18 l0 l2 s.1 s.2) (l4, M) = some r) (kx : ∀ e' : Mem, r = e' → wq X 5 75 [(0, .ref l0), (2, .int l2)] [] e') : wq X 5 18 [(0, .ref l0), (2, .int l2), (4, .int l4)] [] M :=
  loop_ind (P := fun s => wq X 5 18 [(0, .ref l0), (2, .int l2), (4, .int s.1)] [] s.2) h (fun s y hy kc kr => w_X9_operand_s18 C hRO hl l0 l2 s.1 s.2 hy kc (fun e' he => kx e' (kr _ he).symm))
set_option maxRecDepth 100000 in
set_option maxHeartbeats 4000000 in
theorem w_X9_operand_j96_4 {X : CX} {y : (Int32 × Int32 × Mem) ⊕ (Mem)} (C : CK X cX9_operand 5 RX9 11 229) (hRO : RO X.2.2.1 X.1.2.2.2.2.1 X.1.2.2.2.2.1.heap) (hl : X.1.2.1.stackTraces = false) (l0 : Nat) (l2 : Int32) (t0 : Int32) (M : Mem) (h : F_X9_operand_j96_4 l0 l2 t0 M = some y) (kc : ∀ s' : Int32 × Int32 × Mem, y = .inl s' → wq X 5 4 [(0, .ref l0), (2, .int (s'.1)), (3, .int (s'.2.1))] [] s'.2.2) (kx : ∀ e' : Mem, y = (.inr e') → wq X 5 120 [(0, .ref l0)] [] e') : wq X 5 96 [(0, .ref l0), (2, .int l2)] [.int t0] M := by
  unfold F_X9_operand_j96_4 at h
  refine q_istore_n (i := 3) (lv' := [(3, .int t0), (0, .ref l0), (2, .int l2)]) C dX9_operand_96 rfl (by decide) rfl ?_
  refine q_iload_n 0 C dX9_operand_97 rfl ?_
  refine q_if_eq (tgt := 117) C dX9_operand_98 (by decide) (fun c39 => ?_) (fun c39 => ?_)
  · have h := ifT c39 h
    refine q_goto (tgt := 4) C dX9_operand_117 (by decide) ?_
    exact q_sub (lv' := [(0, .ref l0), (2, .int l2), (3, .int t0)]) [1, 2, 0] rfl (kc (l2, t0, M) (someI h))
  · have h := ifF c39 h
    refine q_aload_n 1 C dX9_operand_101 rfl ?_
    refine q_bipush (v := (14 : Int32)) C dX9_operand_102 (by decide) ?_
    obtain ⟨e40, h⟩ := ckOE h
    obtain ⟨M42, e41, h⟩ := bindE h
    refine q_callV (v := none) [.int (14 : Int32)] C hRO lk_RX9_208 vk_X9_waitsFor e40 rfl rfl rfl (Nat.le_of_ble_eq_true rfl) (by decide) (by decide) dX9_operand_104 (k_X9_waitsFor X.1.2.1 hl X.2.2.1 l0 (14 : Int32) M _ e41) ?_
    refine q_aload_n 1 C dX9_operand_107 rfl ?_
    obtain ⟨e44, h⟩ := ckOE h
    obtain ⟨M46, e45, h⟩ := bindE h
    refine q_callV (v := none) [] C hRO lk_RX9_174 vk_X9_takes e44 rfl rfl rfl (Nat.le_of_ble_eq_true rfl) (by decide) (by decide) dX9_operand_108 (k_X9_takes X.1.2.1 hl X.2.2.1 l0 M42 _ e45) ?_
    refine q_aload_n 1 C dX9_operand_111 rfl ?_
    obtain ⟨e48, h⟩ := ckOE h
    obtain ⟨M50, e49, h⟩ := bindE h
    refine q_callV (v := none) [] C hRO lk_RX9_211 vk_X9_deeper e48 rfl rfl rfl (Nat.le_of_ble_eq_true rfl) (by decide) (by decide) dX9_operand_112 (k_X9_deeper X.1.2.1 hl X.2.2.1 l0 M46 _ e49) ?_
    refine q_iconst (v := (1 : Int32)) C dX9_operand_115 (by decide) ?_
    refine q_istore_n (i := 2) (lv' := [(2, .int (1 : Int32)), (3, .int t0), (0, .ref l0)]) C dX9_operand_116 rfl (by decide) rfl ?_
    refine q_goto (tgt := 4) C dX9_operand_117 (by decide) ?_
    exact q_sub (lv' := [(0, .ref l0), (2, .int (1 : Int32)), (3, .int t0)]) [2, 0, 1] rfl (kc ((1 : Int32), t0, M50) (someI h))
set_option maxRecDepth 100000 in
set_option maxHeartbeats 4000000 in
theorem w_X9_operand_j95_4 {X : CX} {y : (Int32 × Int32 × Mem) ⊕ (Mem)} (C : CK X cX9_operand 5 RX9 11 229) (hRO : RO X.2.2.1 X.1.2.2.2.2.1 X.1.2.2.2.2.1.heap) (hl : X.1.2.1.stackTraces = false) (l0 : Nat) (l2 : Int32) (M : Mem) (h : F_X9_operand_j95_4 l0 l2 M = some y) (kc : ∀ s' : Int32 × Int32 × Mem, y = .inl s' → wq X 5 4 [(0, .ref l0), (2, .int (s'.1)), (3, .int (s'.2.1))] [] s'.2.2) (kx : ∀ e' : Mem, y = (.inr e') → wq X 5 120 [(0, .ref l0)] [] e') : wq X 5 95 [(0, .ref l0), (2, .int l2)] [] M := by
  unfold F_X9_operand_j95_4 at h
  refine q_iconst (v := (0 : Int32)) C dX9_operand_95 (by decide) ?_
  exact q_sub (lv' := [(0, .ref l0), (2, .int l2)]) [0, 1] rfl (w_X9_operand_j96_4 C hRO hl l0 l2 (0 : Int32) M h kc kx)
set_option maxRecDepth 100000 in
set_option maxHeartbeats 4000000 in
theorem w_X9_operand_j75_4 {X : CX} {y : (Int32 × Int32 × Mem) ⊕ (Mem)} (C : CK X cX9_operand 5 RX9 11 229) (hRO : RO X.2.2.1 X.1.2.2.2.2.1 X.1.2.2.2.2.1.heap) (hl : X.1.2.1.stackTraces = false) (l0 : Nat) (l2 : Int32) (M : Mem) (h : F_X9_operand_j75_4 l0 l2 M = some y) (kc : ∀ s' : Int32 × Int32 × Mem, y = .inl s' → wq X 5 4 [(0, .ref l0), (2, .int (s'.1)), (3, .int (s'.2.1))] [] s'.2.2) (kx : ∀ e' : Mem, y = (.inr e') → wq X 5 120 [(0, .ref l0)] [] e') : wq X 5 75 [(0, .ref l0), (2, .int l2)] [] M := by
  unfold F_X9_operand_j75_4 at h
  refine q_aload_n 0 C dX9_operand_75 rfl ?_
  obtain ⟨e35, h⟩ := ckOE h
  obtain ⟨v37, e36, h⟩ := bindE h
  refine q_callV (v := some (.int v37)) [] C hRO lk_RX9_170 vk_X9_isGood e35 rfl rfl rfl (Nat.le_of_ble_eq_true rfl) (by decide) (by decide) dX9_operand_76 (k_X9_isGood X.1.2.1 hl X.2.2.1 l0 M _ e36) ?_
  refine q_if_eq (tgt := 95) C dX9_operand_79 (by decide) (fun c38 => ?_) (fun c38 => ?_)
  · have h := ifT c38 h
    exact q_sub (lv' := [(0, .ref l0), (2, .int l2)]) [0, 1] rfl (w_X9_operand_j95_4 C hRO hl l0 l2 M h kc kx)
  · have h := ifF c38 h
    refine q_aload_n 0 C dX9_operand_82 rfl ?_
    refine q_bipush (v := (40 : Int32)) C dX9_operand_83 (by decide) ?_
    obtain ⟨e52, h⟩ := ckOE h
    obtain ⟨v54, e53, h⟩ := bindE h
    refine q_callV (v := some (.int v54)) [.int (40 : Int32)] C hRO lk_RX9_205 vk_X9_isSign e52 rfl rfl rfl (Nat.le_of_ble_eq_true rfl) (by decide) (by decide) dX9_operand_85 (k_X9_isSign X.1.2.1 hl X.2.2.1 l0 (40 : Int32) M _ e53) ?_
    refine q_if_eq (tgt := 95) C dX9_operand_88 (by decide) (fun c55 => ?_) (fun c55 => ?_)
    · have h := ifT c55 h
      exact q_sub (lv' := [(0, .ref l0), (2, .int l2)]) [0, 1] rfl (w_X9_operand_j95_4 C hRO hl l0 l2 M h kc kx)
    · have h := ifF c55 h
      refine q_iconst (v := (1 : Int32)) C dX9_operand_91 (by decide) ?_
      refine q_goto (tgt := 96) C dX9_operand_92 (by decide) ?_
      exact q_sub (lv' := [(0, .ref l0), (2, .int l2)]) [0, 1] rfl (w_X9_operand_j96_4 C hRO hl l0 l2 (1 : Int32) M h kc kx)
set_option maxRecDepth 100000 in
set_option maxHeartbeats 4000000 in
theorem w_X9_operand_s4 {X : CX} {y : (Int32 × Int32 × Mem) ⊕ (Mem)} (C : CK X cX9_operand 5 RX9 11 229) (hRO : RO X.2.2.1 X.1.2.2.2.2.1 X.1.2.2.2.2.1.heap) (hl : X.1.2.1.stackTraces = false) (l0 : Nat) (l2 : Int32) (l3 : Int32) (M : Mem) (h : F_X9_operand_s4 l0 l2 l3 M = some y) (kc : ∀ s' : Int32 × Int32 × Mem, y = .inl s' → wq X 5 4 [(0, .ref l0), (2, .int (s'.1)), (3, .int (s'.2.1))] [] s'.2.2) (kx : ∀ e' : Mem, y = (.inr e') → wq X 5 120 [(0, .ref l0)] [] e') : wq X 5 4 [(0, .ref l0), (2, .int l2), (3, .int l3)] [] M := by
  unfold F_X9_operand_s4 at h
  refine q_iload_n 2 C dX9_operand_4 rfl ?_
  refine q_if_eq (tgt := 120) C dX9_operand_5 (by decide) (fun c1 => ?_) (fun c1 => ?_)
  · have h := ifT c1 h
    exact q_sub (lv' := [(0, .ref l0)]) [0] rfl (kx M (someI h))
  · have h := ifF c1 h
    refine q_aload_n 0 C dX9_operand_8 rfl ?_
    obtain ⟨e2, h⟩ := ckOE h
    obtain ⟨v4, e3, h⟩ := bindE h
    refine q_callV (v := some (.int v4)) [] C hRO lk_RX9_170 vk_X9_isGood e2 rfl rfl rfl (Nat.le_of_ble_eq_true rfl) (by decide) (by decide) dX9_operand_9 (k_X9_isGood X.1.2.1 hl X.2.2.1 l0 M _ e3) ?_
    refine q_if_eq (tgt := 120) C dX9_operand_12 (by decide) (fun c5 => ?_) (fun c5 => ?_)
    · have h := ifT c5 h
      exact q_sub (lv' := [(0, .ref l0)]) [0] rfl (kx M (someI h))
    · have h := ifF c5 h
      refine q_iconst (v := (0 : Int32)) C dX9_operand_15 (by decide) ?_
      refine q_istore (i := 4) (lv' := [(4, .int (0 : Int32)), (0, .ref l0), (2, .int l2), (3, .int l3)]) C dX9_operand_16 (by decide) rfl ?_
      obtain ⟨M34, e33, h⟩ := bindE h
      refine q_sub (lv' := [(0, .ref l0), (2, .int l2), (4, .int (0 : Int32))]) [1, 2, 0] rfl (w_X9_operand_l18 C hRO hl l0 l2 (0 : Int32) M e33 (fun r32 he => ?_))
      subst he
      show wq X 5 75 [(0, .ref l0), (2, .int l2)] [] M34
      exact q_sub (lv' := [(0, .ref l0), (2, .int l2)]) [0, 1] rfl (w_X9_operand_j75_4 C hRO hl l0 l2 M34 h kc kx)
theorem w_X9_operand_l4 {X : CX} {r : Mem} (C : CK X cX9_operand 5 RX9 11 229) (hRO : RO X.2.2.1 X.1.2.2.2.2.1 X.1.2.2.2.2.1.heap) (hl : X.1.2.1.stackTraces = false) (l0 : Nat) (l2 : Int32) (l3 : Int32) (M : Mem) (h : loop (fun s => F_X9_operand_s4 l0 s.1 s.2.1 s.2.2) (l2, l3, M) = some r) (kx : ∀ e' : Mem, r = e' → wq X 5 120 [(0, .ref l0)] [] e') : wq X 5 4 [(0, .ref l0), (2, .int l2), (3, .int l3)] [] M :=
  loop_ind (P := fun s => wq X 5 4 [(0, .ref l0), (2, .int s.1), (3, .int s.2.1)] [] s.2.2) h (fun s y hy kc kr => w_X9_operand_s4 C hRO hl l0 s.1 s.2.1 s.2.2 hy kc (fun e' he => kx e' (kr _ he).symm))
set_option maxRecDepth 100000 in
set_option maxHeartbeats 4000000 in
theorem w_X9_operand {X : CX} {y : Mem} (C : CK X cX9_operand 5 RX9 11 229) (hRO : RO X.2.2.1 X.1.2.2.2.2.1 X.1.2.2.2.2.1.heap) (hl : X.1.2.1.stackTraces = false) (l0 : Nat) (l1 : Int32) (M : Mem) (h : F_X9_operand l0 l1 M = some y) (kf : FIN X none (rs_mV y) (ms_mV y)) : wq X 5 0 [(0, .ref l0), (1, .int l1)] [] M := by
  unfold F_X9_operand at h
  refine q_iload_n 1 C dX9_operand_0 rfl ?_
  refine q_istore_n (i := 2) (lv' := [(2, .int l1), (0, .ref l0), (1, .int l1)]) C dX9_operand_1 rfl (by decide) rfl ?_
  refine q_iconst (v := (1 : Int32)) C dX9_operand_2 (by decide) ?_
  refine q_istore_n (i := 3) (lv' := [(3, .int (1 : Int32)), (2, .int l1), (0, .ref l0), (1, .int l1)]) C dX9_operand_3 rfl (by decide) rfl ?_
  obtain ⟨M59, e58, h⟩ := bindE h
  refine q_sub (lv' := [(0, .ref l0), (2, .int l1), (3, .int (1 : Int32))]) [2, 1, 0] rfl (w_X9_operand_l4 C hRO hl l0 l1 (1 : Int32) M e58 (fun r57 he => ?_))
  subst he
  show wq X 5 120 [(0, .ref l0)] [] M59
  refine q_aload_n 0 C dX9_operand_120 rfl ?_
  obtain ⟨e60, h⟩ := ckOE h
  obtain ⟨M62, e61, h⟩ := bindE h
  refine q_callV (v := none) [] C hRO lk_RX9_214 vk_X9_part e60 rfl rfl rfl (Nat.le_of_ble_eq_true rfl) (by decide) (by decide) dX9_operand_121 (k_X9_part X.1.2.1 hl X.2.2.1 l0 M59 _ e61) ?_
  cases h
  exact q_vret C kf dX9_operand_124
theorem k_X9_operand (l : Launch) (hl : l.stackTraces = false) (G : GG) (l0 : Nat) (l1 : Int32) (M : Mem) (x : Mem) (h : F_X9_operand l0 l1 M = some x) : Ct l G yX9_operand (.code yX9_operand cX9_operand 5 none) 11 229 [.ref l0, .int l1] M (rs_mV x) (ms_mV x) := by
  refine Ct_of (by decide +kernel) (Nat.le_of_ble_eq_true rfl) fun X e1 e2 e3 C FN hnm => ?_
  subst e1; subst e2
  show wq X 5 0 [(0, .ref l0), (1, .int l1)] [] M
  exact w_X9_operand C FN.2.2.2 hl l0 l1 M h FN
/-! X9_expression -/
set_option maxRecDepth 100000 in
set_option maxHeartbeats 4000000 in
theorem w_X9_expression_j89_34 {X : CX} {y : (Int32 × Mem) ⊕ (Mem)} (C : CK X cX9_expression 4 RX9 12 253) (hRO : RO X.2.2.1 X.1.2.2.2.2.1 X.1.2.2.2.2.1.heap) (hl : X.1.2.1.stackTraces = false) (l0 : Nat) (l2 : Int32) (t0 : Int32) (t1 : Nat) (M : Mem) (h : F_X9_expression_j89_34 l0 l2 t0 t1 M = some y) (kc : ∀ s' : Int32 × Mem, y = .inl s' → wq X 4 34 [(0, .ref l0), (2, .int (s'.1))] [] s'.2) (kx : ∀ e' : Mem, y = (.inr e') → wq X 4 330 [(0, .ref l0)] [] e') : wq X 4 89 [(0, .ref l0), (2, .int l2)] [.int t0, .ref t1] M := by
  unfold F_X9_expression_j89_34 at h
  obtain ⟨e34, h⟩ := ckOE h
  obtain ⟨M36, e35, h⟩ := bindE h
  refine q_callV (v := none) [.int t0] C hRO lk_RX9_208 vk_X9_waitsFor e34 rfl rfl rfl (Nat.le_of_ble_eq_true rfl) (by decide) (by decide) dX9_expression_89 (k_X9_waitsFor X.1.2.1 hl X.2.2.1 t1 t0 M _ e35) ?_
  refine q_aload_n 0 C dX9_expression_92 rfl ?_
  obtain ⟨v38, e39, h⟩ := bindE h
  refine q_getP C fl_RX9_62 rfl e39 dX9_expression_93 ?_
  refine q_aload_n 0 C dX9_expression_96 rfl ?_
  obtain ⟨v40, e41, h⟩ := bindE h
  refine q_getI C fl_RX9_202 rfl e41 dX9_expression_97 ?_
  refine q_iconst (v := (0 : Int32)) C dX9_expression_100 (by decide) ?_
  obtain ⟨M42, e43, h⟩ := bindE h
  refine q_zastore C e43 dX9_expression_101 ?_
  refine q_aload_n 0 C dX9_expression_102 rfl ?_
  obtain ⟨e44, h⟩ := ckOE h
  obtain ⟨M46, e45, h⟩ := bindE h
  refine q_callV (v := none) [] C hRO lk_RX9_174 vk_X9_takes e44 rfl rfl rfl (Nat.le_of_ble_eq_true rfl) (by decide) (by decide) dX9_expression_103 (k_X9_takes X.1.2.1 hl X.2.2.1 l0 M42 _ e45) ?_
  refine q_aload_n 0 C dX9_expression_106 rfl ?_
  refine q_iconst (v := (1 : Int32)) C dX9_expression_107 (by decide) ?_
  obtain ⟨e48, h⟩ := ckOE h
  obtain ⟨M50, e49, h⟩ := bindE h
  refine q_callV (v := none) [.int (1 : Int32)] C hRO lk_RX9_220 vk_X9_operand e48 rfl rfl rfl (Nat.le_of_ble_eq_true rfl) (by decide) (by decide) dX9_expression_108 (k_X9_operand X.1.2.1 hl X.2.2.1 l0 (1 : Int32) M46 _ e49) ?_
  refine q_goto (tgt := 327) C dX9_expression_111 (by decide) ?_
  refine q_goto (tgt := 34) C dX9_expression_327 (by decide) ?_
  exact q_sub (lv' := [(0, .ref l0), (2, .int l2)]) [0, 1] rfl (kc (l2, M50) (someI h))
set_option maxRecDepth 100000 in
set_option maxHeartbeats 4000000 in
theorem w_X9_expression_j74_34 {X : CX} {y : (Int32 × Mem) ⊕ (Mem)} (C : CK X cX9_expression 4 RX9 12 253) (hRO : RO X.2.2.1 X.1.2.2.2.2.1 X.1.2.2.2.2.1.heap) (hl : X.1.2.1.stackTraces = false) (l0 : Nat) (l2 : Int32) (l3 : Int32) (t0 : Int32) (t1 : Nat) (M : Mem) (h : F_X9_expression_j74_34 l0 l2 l3 t0 t1 M = some y) (kc : ∀ s' : Int32 × Mem, y = .inl s' → wq X 4 34 [(0, .ref l0), (2, .int (s'.1))] [] s'.2) (kx : ∀ e' : Mem, y = (.inr e') → wq X 4 330 [(0, .ref l0)] [] e') : wq X 4 74 [(0, .ref l0), (2, .int l2), (3, .int l3)] [.int t0, .ref t1] M := by
  unfold F_X9_expression_j74_34 at h
  obtain ⟨e29, h⟩ := ckOE h
  obtain ⟨M31, e30, h⟩ := bindE h
  refine q_callV (v := none) [.int t0] C hRO lk_RX9_217 vk_X9_drops e29 rfl rfl rfl (Nat.le_of_ble_eq_true rfl) (by decide) (by decide) dX9_expression_74 (k_X9_drops X.1.2.1 hl X.2.2.1 t1 t0 M _ e30) ?_
  refine q_aload_n 0 C dX9_expression_77 rfl ?_
  refine q_iload_n 2 C dX9_expression_78 rfl ?_
  refine q_bipush (v := (12 : Int32)) C dX9_expression_79 (by decide) ?_
  refine q_icmp_ne (tgt := 88) C dX9_expression_81 (by decide) (fun c33 => ?_) (fun c33 => ?_)
  · have h := ifF c33 h
    refine q_iconst (v := (5 : Int32)) C dX9_expression_88 (by decide) ?_
    exact q_sub (lv' := [(0, .ref l0), (2, .int l2)]) [0, 1] rfl (w_X9_expression_j89_34 C hRO hl l0 l2 (5 : Int32) l0 M31 h kc kx)
  · have h := ifT c33 h
    refine q_iconst (v := (4 : Int32)) C dX9_expression_84 (by decide) ?_
    refine q_goto (tgt := 89) C dX9_expression_85 (by decide) ?_
    exact q_sub (lv' := [(0, .ref l0), (2, .int l2)]) [0, 1] rfl (w_X9_expression_j89_34 C hRO hl l0 l2 (4 : Int32) l0 M31 h kc kx)
set_option maxRecDepth 100000 in
set_option maxHeartbeats 4000000 in
theorem w_X9_expression_j62_34 {X : CX} {y : (Int32 × Mem) ⊕ (Mem)} (C : CK X cX9_expression 4 RX9 12 253) (hRO : RO X.2.2.1 X.1.2.2.2.2.1 X.1.2.2.2.2.1.heap) (hl : X.1.2.1.stackTraces = false) (l0 : Nat) (l2 : Int32) (l3 : Int32) (M : Mem) (h : F_X9_expression_j62_34 l0 l2 l3 M = some y) (kc : ∀ s' : Int32 × Mem, y = .inl s' → wq X 4 34 [(0, .ref l0), (2, .int (s'.1))] [] s'.2) (kx : ∀ e' : Mem, y = (.inr e') → wq X 4 330 [(0, .ref l0)] [] e') : wq X 4 62 [(0, .ref l0), (2, .int l2), (3, .int l3)] [] M := by
  unfold F_X9_expression_j62_34 at h
  refine q_aload_n 0 C dX9_expression_62 rfl ?_
  refine q_iload_n 2 C dX9_expression_63 rfl ?_
  refine q_bipush (v := (12 : Int32)) C dX9_expression_64 (by decide) ?_
  refine q_icmp_ne (tgt := 73) C dX9_expression_66 (by decide) (fun c28 => ?_) (fun c28 => ?_)
  · have h := ifF c28 h
    refine q_iconst (v := (1 : Int32)) C dX9_expression_73 (by decide) ?_
    exact q_sub (lv' := [(0, .ref l0), (2, .int l2), (3, .int l3)]) [0, 1, 2] rfl (w_X9_expression_j74_34 C hRO hl l0 l2 l3 (1 : Int32) l0 M h kc kx)
  · have h := ifT c28 h
    refine q_iconst (v := (2 : Int32)) C dX9_expression_69 (by decide) ?_
    refine q_goto (tgt := 74) C dX9_expression_70 (by decide) ?_
    exact q_sub (lv' := [(0, .ref l0), (2, .int l2), (3, .int l3)]) [0, 1, 2] rfl (w_X9_expression_j74_34 C hRO hl l0 l2 l3 (2 : Int32) l0 M h kc kx)
set_option maxRecDepth 100000 in
set_option maxHeartbeats 4000000 in
theorem w_X9_expression_j231_34 {X : CX} {y : (Int32 × Mem) ⊕ (Mem)} (C : CK X cX9_expression 4 RX9 12 253) (hRO : RO X.2.2.1 X.1.2.2.2.2.1 X.1.2.2.2.2.1.heap) (hl : X.1.2.1.stackTraces = false) (l0 : Nat) (l2 : Int32) (t0 : Int32) (t1 : Nat) (M : Mem) (h : F_X9_expression_j231_34 l0 l2 t0 t1 M = some y) (kc : ∀ s' : Int32 × Mem, y = .inl s' → wq X 4 34 [(0, .ref l0), (2, .int (s'.1))] [] s'.2) (kx : ∀ e' : Mem, y = (.inr e') → wq X 4 330 [(0, .ref l0)] [] e') : wq X 4 231 [(0, .ref l0), (2, .int l2)] [.int t0, .ref t1] M := by
  unfold F_X9_expression_j231_34 at h
  obtain ⟨e76, h⟩ := ckOE h
  obtain ⟨M78, e77, h⟩ := bindE h
  refine q_callV (v := none) [.int t0] C hRO lk_RX9_208 vk_X9_waitsFor e76 rfl rfl rfl (Nat.le_of_ble_eq_true rfl) (by decide) (by decide) dX9_expression_231 (k_X9_waitsFor X.1.2.1 hl X.2.2.1 t1 t0 M _ e77) ?_
  refine q_aload_n 0 C dX9_expression_234 rfl ?_
  obtain ⟨e80, h⟩ := ckOE h
  obtain ⟨M82, e81, h⟩ := bindE h
  refine q_callV (v := none) [] C hRO lk_RX9_174 vk_X9_takes e80 rfl rfl rfl (Nat.le_of_ble_eq_true rfl) (by decide) (by decide) dX9_expression_235 (k_X9_takes X.1.2.1 hl X.2.2.1 l0 M78 _ e81) ?_
  refine q_aload_n 0 C dX9_expression_238 rfl ?_
  refine q_iconst (v := (0 : Int32)) C dX9_expression_239 (by decide) ?_
  obtain ⟨e84, h⟩ := ckOE h
  obtain ⟨M86, e85, h⟩ := bindE h
  refine q_callV (v := none) [.int (0 : Int32)] C hRO lk_RX9_220 vk_X9_operand e84 rfl rfl rfl (Nat.le_of_ble_eq_true rfl) (by decide) (by decide) dX9_expression_240 (k_X9_operand X.1.2.1 hl X.2.2.1 l0 (0 : Int32) M82 _ e85) ?_
  refine q_goto (tgt := 327) C dX9_expression_243 (by decide) ?_
  refine q_goto (tgt := 34) C dX9_expression_327 (by decide) ?_
  exact q_sub (lv' := [(0, .ref l0), (2, .int l2)]) [0, 1] rfl (kc (l2, M86) (someI h))
set_option maxRecDepth 100000 in
set_option maxHeartbeats 4000000 in
theorem w_X9_expression_j209_34 {X : CX} {y : (Int32 × Mem) ⊕ (Mem)} (C : CK X cX9_expression 4 RX9 12 253) (hRO : RO X.2.2.1 X.1.2.2.2.2.1 X.1.2.2.2.2.1.heap) (hl : X.1.2.1.stackTraces = false) (l0 : Nat) (l2 : Int32) (M : Mem) (h : F_X9_expression_j209_34 l0 l2 M = some y) (kc : ∀ s' : Int32 × Mem, y = .inl s' → wq X 4 34 [(0, .ref l0), (2, .int (s'.1))] [] s'.2) (kx : ∀ e' : Mem, y = (.inr e') → wq X 4 330 [(0, .ref l0)] [] e') : wq X 4 209 [(0, .ref l0), (2, .int l2)] [] M := by
  unfold F_X9_expression_j209_34 at h
  refine q_aload_n 0 C dX9_expression_209 rfl ?_
  refine q_iconst (v := (5 : Int32)) C dX9_expression_210 (by decide) ?_
  obtain ⟨e68, h⟩ := ckOE h
  obtain ⟨M70, e69, h⟩ := bindE h
  refine q_callV (v := none) [.int (5 : Int32)] C hRO lk_RX9_217 vk_X9_drops e68 rfl rfl rfl (Nat.le_of_ble_eq_true rfl) (by decide) (by decide) dX9_expression_211 (k_X9_drops X.1.2.1 hl X.2.2.1 l0 (5 : Int32) M _ e69) ?_
  refine q_aload_n 0 C dX9_expression_214 rfl ?_
  refine q_aload_n 0 C dX9_expression_215 rfl ?_
  refine q_bipush (v := (43 : Int32)) C dX9_expression_216 (by decide) ?_
  obtain ⟨e72, h⟩ := ckOE h
  obtain ⟨v74, e73, h⟩ := bindE h
  refine q_callV (v := some (.int v74)) [.int (43 : Int32)] C hRO lk_RX9_205 vk_X9_isSign e72 rfl rfl rfl (Nat.le_of_ble_eq_true rfl) (by decide) (by decide) dX9_expression_218 (k_X9_isSign X.1.2.1 hl X.2.2.1 l0 (43 : Int32) M70 _ e73) ?_
  refine q_if_eq (tgt := 229) C dX9_expression_221 (by decide) (fun c75 => ?_) (fun c75 => ?_)
  · have h := ifT c75 h
    refine q_bipush (v := (9 : Int32)) C dX9_expression_229 (by decide) ?_
    exact q_sub (lv' := [(0, .ref l0), (2, .int l2)]) [0, 1] rfl (w_X9_expression_j231_34 C hRO hl l0 l2 (9 : Int32) l0 M70 h kc kx)
  · have h := ifF c75 h
    refine q_bipush (v := (8 : Int32)) C dX9_expression_224 (by decide) ?_
    refine q_goto (tgt := 231) C dX9_expression_226 (by decide) ?_
    exact q_sub (lv' := [(0, .ref l0), (2, .int l2)]) [0, 1] rfl (w_X9_expression_j231_34 C hRO hl l0 l2 (8 : Int32) l0 M70 h kc kx)
set_option maxRecDepth 100000 in
set_option maxHeartbeats 4000000 in
theorem w_X9_expression_j287_34 {X : CX} {y : (Int32 × Mem) ⊕ (Mem)} (C : CK X cX9_expression 4 RX9 12 253) (hRO : RO X.2.2.1 X.1.2.2.2.2.1 X.1.2.2.2.2.1.heap) (hl : X.1.2.1.stackTraces = false) (l0 : Nat) (l2 : Int32) (t0 : Int32) (t1 : Nat) (M : Mem) (h : F_X9_expression_j287_34 l0 l2 t0 t1 M = some y) (kc : ∀ s' : Int32 × Mem, y = .inl s' → wq X 4 34 [(0, .ref l0), (2, .int (s'.1))] [] s'.2) (kx : ∀ e' : Mem, y = (.inr e') → wq X 4 330 [(0, .ref l0)] [] e') : wq X 4 287 [(0, .ref l0), (2, .int l2)] [.int t0, .ref t1] M := by
  unfold F_X9_expression_j287_34 at h
  obtain ⟨e104, h⟩ := ckOE h
  obtain ⟨M106, e105, h⟩ := bindE h
  refine q_callV (v := none) [.int t0] C hRO lk_RX9_208 vk_X9_waitsFor e104 rfl rfl rfl (Nat.le_of_ble_eq_true rfl) (by decide) (by decide) dX9_expression_287 (k_X9_waitsFor X.1.2.1 hl X.2.2.1 t1 t0 M _ e105) ?_
  refine q_aload_n 0 C dX9_expression_290 rfl ?_
  obtain ⟨e108, h⟩ := ckOE h
  obtain ⟨M110, e109, h⟩ := bindE h
  refine q_callV (v := none) [] C hRO lk_RX9_174 vk_X9_takes e108 rfl rfl rfl (Nat.le_of_ble_eq_true rfl) (by decide) (by decide) dX9_expression_291 (k_X9_takes X.1.2.1 hl X.2.2.1 l0 M106 _ e109) ?_
  refine q_aload_n 0 C dX9_expression_294 rfl ?_
  refine q_iconst (v := (0 : Int32)) C dX9_expression_295 (by decide) ?_
  obtain ⟨e112, h⟩ := ckOE h
  obtain ⟨M114, e113, h⟩ := bindE h
  refine q_callV (v := none) [.int (0 : Int32)] C hRO lk_RX9_220 vk_X9_operand e112 rfl rfl rfl (Nat.le_of_ble_eq_true rfl) (by decide) (by decide) dX9_expression_296 (k_X9_operand X.1.2.1 hl X.2.2.1 l0 (0 : Int32) M110 _ e113) ?_
  refine q_goto (tgt := 327) C dX9_expression_299 (by decide) ?_
  refine q_goto (tgt := 34) C dX9_expression_327 (by decide) ?_
  exact q_sub (lv' := [(0, .ref l0), (2, .int l2)]) [0, 1] rfl (kc (l2, M114) (someI h))
set_option maxRecDepth 100000 in
set_option maxHeartbeats 4000000 in
theorem w_X9_expression_j264_34 {X : CX} {y : (Int32 × Mem) ⊕ (Mem)} (C : CK X cX9_expression 4 RX9 12 253) (hRO : RO X.2.2.1 X.1.2.2.2.2.1 X.1.2.2.2.2.1.heap) (hl : X.1.2.1.stackTraces = false) (l0 : Nat) (l2 : Int32) (M : Mem) (h : F_X9_expression_j264_34 l0 l2 M = some y) (kc : ∀ s' : Int32 × Mem, y = .inl s' → wq X 4 34 [(0, .ref l0), (2, .int (s'.1))] [] s'.2) (kx : ∀ e' : Mem, y = (.inr e') → wq X 4 330 [(0, .ref l0)] [] e') : wq X 4 264 [(0, .ref l0), (2, .int l2)] [] M := by
  unfold F_X9_expression_j264_34 at h
  refine q_aload_n 0 C dX9_expression_264 rfl ?_
  refine q_bipush (v := (6 : Int32)) C dX9_expression_265 (by decide) ?_
  obtain ⟨e96, h⟩ := ckOE h
  obtain ⟨M98, e97, h⟩ := bindE h
  refine q_callV (v := none) [.int (6 : Int32)] C hRO lk_RX9_217 vk_X9_drops e96 rfl rfl rfl (Nat.le_of_ble_eq_true rfl) (by decide) (by decide) dX9_expression_267 (k_X9_drops X.1.2.1 hl X.2.2.1 l0 (6 : Int32) M _ e97) ?_
  refine q_aload_n 0 C dX9_expression_270 rfl ?_
  refine q_aload_n 0 C dX9_expression_271 rfl ?_
  refine q_bipush (v := (42 : Int32)) C dX9_expression_272 (by decide) ?_
  obtain ⟨e100, h⟩ := ckOE h
  obtain ⟨v102, e101, h⟩ := bindE h
  refine q_callV (v := some (.int v102)) [.int (42 : Int32)] C hRO lk_RX9_205 vk_X9_isSign e100 rfl rfl rfl (Nat.le_of_ble_eq_true rfl) (by decide) (by decide) dX9_expression_274 (k_X9_isSign X.1.2.1 hl X.2.2.1 l0 (42 : Int32) M98 _ e101) ?_
  refine q_if_eq (tgt := 285) C dX9_expression_277 (by decide) (fun c103 => ?_) (fun c103 => ?_)
  · have h := ifT c103 h
    refine q_bipush (v := (11 : Int32)) C dX9_expression_285 (by decide) ?_
    exact q_sub (lv' := [(0, .ref l0), (2, .int l2)]) [0, 1] rfl (w_X9_expression_j287_34 C hRO hl l0 l2 (11 : Int32) l0 M98 h kc kx)
  · have h := ifF c103 h
    refine q_bipush (v := (10 : Int32)) C dX9_expression_280 (by decide) ?_
    refine q_goto (tgt := 287) C dX9_expression_282 (by decide) ?_
    exact q_sub (lv' := [(0, .ref l0), (2, .int l2)]) [0, 1] rfl (w_X9_expression_j287_34 C hRO hl l0 l2 (10 : Int32) l0 M98 h kc kx)
set_option maxRecDepth 100000 in
set_option maxHeartbeats 4000000 in
theorem w_X9_expression_j191_34 {X : CX} {y : (Int32 × Mem) ⊕ (Mem)} (C : CK X cX9_expression 4 RX9 12 253) (hRO : RO X.2.2.1 X.1.2.2.2.2.1 X.1.2.2.2.2.1.heap) (hl : X.1.2.1.stackTraces = false) (l0 : Nat) (l2 : Int32) (M : Mem) (h : F_X9_expression_j191_34 l0 l2 M = some y) (kc : ∀ s' : Int32 × Mem, y = .inl s' → wq X 4 34 [(0, .ref l0), (2, .int (s'.1))] [] s'.2) (kx : ∀ e' : Mem, y = (.inr e') → wq X 4 330 [(0, .ref l0)] [] e') : wq X 4 191 [(0, .ref l0), (2, .int l2)] [] M := by
  unfold F_X9_expression_j191_34 at h
  refine q_aload_n 0 C dX9_expression_191 rfl ?_
  refine q_bipush (v := (43 : Int32)) C dX9_expression_192 (by decide) ?_
  obtain ⟨e64, h⟩ := ckOE h
  obtain ⟨v66, e65, h⟩ := bindE h
  refine q_callV (v := some (.int v66)) [.int (43 : Int32)] C hRO lk_RX9_205 vk_X9_isSign e64 rfl rfl rfl (Nat.le_of_ble_eq_true rfl) (by decide) (by decide) dX9_expression_194 (k_X9_isSign X.1.2.1 hl X.2.2.1 l0 (43 : Int32) M _ e65) ?_
  refine q_if_ne (tgt := 209) C dX9_expression_197 (by decide) (fun c67 => ?_) (fun c67 => ?_)
  · have h := ifF c67 h
    exact q_sub (lv' := [(0, .ref l0), (2, .int l2)]) [0, 1] rfl (w_X9_expression_j209_34 C hRO hl l0 l2 M h kc kx)
  · have h := ifT c67 h
    refine q_aload_n 0 C dX9_expression_200 rfl ?_
    refine q_bipush (v := (45 : Int32)) C dX9_expression_201 (by decide) ?_
    obtain ⟨e88, h⟩ := ckOE h
    obtain ⟨v90, e89, h⟩ := bindE h
    refine q_callV (v := some (.int v90)) [.int (45 : Int32)] C hRO lk_RX9_205 vk_X9_isSign e88 rfl rfl rfl (Nat.le_of_ble_eq_true rfl) (by decide) (by decide) dX9_expression_203 (k_X9_isSign X.1.2.1 hl X.2.2.1 l0 (45 : Int32) M _ e89) ?_
    refine q_if_eq (tgt := 246) C dX9_expression_206 (by decide) (fun c91 => ?_) (fun c91 => ?_)
    · have h := ifT c91 h
      refine q_aload_n 0 C dX9_expression_246 rfl ?_
      refine q_bipush (v := (42 : Int32)) C dX9_expression_247 (by decide) ?_
      obtain ⟨e92, h⟩ := ckOE h
      obtain ⟨v94, e93, h⟩ := bindE h
      refine q_callV (v := some (.int v94)) [.int (42 : Int32)] C hRO lk_RX9_205 vk_X9_isSign e92 rfl rfl rfl (Nat.le_of_ble_eq_true rfl) (by decide) (by decide) dX9_expression_249 (k_X9_isSign X.1.2.1 hl X.2.2.1 l0 (42 : Int32) M _ e93) ?_
      refine q_if_ne (tgt := 264) C dX9_expression_252 (by decide) (fun c95 => ?_) (fun c95 => ?_)
      · have h := ifF c95 h
        exact q_sub (lv' := [(0, .ref l0), (2, .int l2)]) [0, 1] rfl (w_X9_expression_j264_34 C hRO hl l0 l2 M h kc kx)
      · have h := ifT c95 h
        refine q_aload_n 0 C dX9_expression_255 rfl ?_
        refine q_bipush (v := (47 : Int32)) C dX9_expression_256 (by decide) ?_
        obtain ⟨e116, h⟩ := ckOE h
        obtain ⟨v118, e117, h⟩ := bindE h
        refine q_callV (v := some (.int v118)) [.int (47 : Int32)] C hRO lk_RX9_205 vk_X9_isSign e116 rfl rfl rfl (Nat.le_of_ble_eq_true rfl) (by decide) (by decide) dX9_expression_258 (k_X9_isSign X.1.2.1 hl X.2.2.1 l0 (47 : Int32) M _ e117) ?_
        refine q_if_eq (tgt := 302) C dX9_expression_261 (by decide) (fun c119 => ?_) (fun c119 => ?_)
        · have h := ifT c119 h
          refine q_aload_n 0 C dX9_expression_302 rfl ?_
          refine q_bipush (v := (41 : Int32)) C dX9_expression_303 (by decide) ?_
          obtain ⟨e120, h⟩ := ckOE h
          obtain ⟨v122, e121, h⟩ := bindE h
          refine q_callV (v := some (.int v122)) [.int (41 : Int32)] C hRO lk_RX9_205 vk_X9_isSign e120 rfl rfl rfl (Nat.le_of_ble_eq_true rfl) (by decide) (by decide) dX9_expression_305 (k_X9_isSign X.1.2.1 hl X.2.2.1 l0 (41 : Int32) M _ e121) ?_
          refine q_if_eq (tgt := 325) C dX9_expression_308 (by decide) (fun c123 => ?_) (fun c123 => ?_)
          · have h := ifT c123 h
            refine q_iconst (v := (0 : Int32)) C dX9_expression_325 (by decide) ?_
            refine q_istore_n (i := 2) (lv' := [(2, .int (0 : Int32)), (0, .ref l0)]) C dX9_expression_326 rfl (by decide) rfl ?_
            refine q_goto (tgt := 34) C dX9_expression_327 (by decide) ?_
            exact q_sub (lv' := [(0, .ref l0), (2, .int (0 : Int32))]) [1, 0] rfl (kc ((0 : Int32), M) (someI h))
          · have h := ifF c123 h
            refine q_aload_n 0 C dX9_expression_311 rfl ?_
            obtain ⟨e124, h⟩ := ckOE h
            obtain ⟨v126, e125, h⟩ := bindE h
            refine q_callV (v := some (.int v126)) [] C hRO lk_RX9_224 vk_X9_isOpened e124 rfl rfl rfl (Nat.le_of_ble_eq_true rfl) (by decide) (by decide) dX9_expression_312 (k_X9_isOpened X.1.2.1 hl X.2.2.1 l0 M _ e125) ?_
            refine q_if_eq (tgt := 325) C dX9_expression_315 (by decide) (fun c127 => ?_) (fun c127 => ?_)
            · have h := ifT c127 h
              refine q_iconst (v := (0 : Int32)) C dX9_expression_325 (by decide) ?_
              refine q_istore_n (i := 2) (lv' := [(2, .int (0 : Int32)), (0, .ref l0)]) C dX9_expression_326 rfl (by decide) rfl ?_
              refine q_goto (tgt := 34) C dX9_expression_327 (by decide) ?_
              exact q_sub (lv' := [(0, .ref l0), (2, .int (0 : Int32))]) [1, 0] rfl (kc ((0 : Int32), M) (someI h))
            · have h := ifF c127 h
              refine q_aload_n 0 C dX9_expression_318 rfl ?_
              obtain ⟨e128, h⟩ := ckOE h
              obtain ⟨M130, e129, h⟩ := bindE h
              refine q_callV (v := none) [] C hRO lk_RX9_227 vk_X9_closes e128 rfl rfl rfl (Nat.le_of_ble_eq_true rfl) (by decide) (by decide) dX9_expression_319 (k_X9_closes X.1.2.1 hl X.2.2.1 l0 M _ e129) ?_
              refine q_goto (tgt := 327) C dX9_expression_322 (by decide) ?_
              refine q_goto (tgt := 34) C dX9_expression_327 (by decide) ?_
              exact q_sub (lv' := [(0, .ref l0), (2, .int l2)]) [0, 1] rfl (kc (l2, M130) (someI h))
        · have h := ifF c119 h
          exact q_sub (lv' := [(0, .ref l0), (2, .int l2)]) [0, 1] rfl (w_X9_expression_j264_34 C hRO hl l0 l2 M h kc kx)
    · have h := ifF c91 h
      exact q_sub (lv' := [(0, .ref l0), (2, .int l2)]) [0, 1] rfl (w_X9_expression_j209_34 C hRO hl l0 l2 M h kc kx)
set_option maxRecDepth 100000 in
set_option maxHeartbeats 4000000 in
theorem w_X9_expression_j166_34 {X : CX} {y : (Int32 × Mem) ⊕ (Mem)} (C : CK X cX9_expression 4 RX9 12 253) (hRO : RO X.2.2.1 X.1.2.2.2.2.1 X.1.2.2.2.2.1.heap) (hl : X.1.2.1.stackTraces = false) (l0 : Nat) (l2 : Int32) (t0 : Int32) (t1 : Nat) (M : Mem) (h : F_X9_expression_j166_34 l0 l2 t0 t1 M = some y) (kc : ∀ s' : Int32 × Mem, y = .inl s' → wq X 4 34 [(0, .ref l0), (2, .int (s'.1))] [] s'.2) (kx : ∀ e' : Mem, y = (.inr e') → wq X 4 330 [(0, .ref l0)] [] e') : wq X 4 166 [(0, .ref l0), (2, .int l2)] [.int t0, .ref t1] M := by
  unfold F_X9_expression_j166_34 at h
  obtain ⟨e140, h⟩ := ckOE h
  obtain ⟨M142, e141, h⟩ := bindE h
  refine q_callV (v := none) [.int t0] C hRO lk_RX9_208 vk_X9_waitsFor e140 rfl rfl rfl (Nat.le_of_ble_eq_true rfl) (by decide) (by decide) dX9_expression_166 (k_X9_waitsFor X.1.2.1 hl X.2.2.1 t1 t0 M _ e141) ?_
  refine q_aload_n 0 C dX9_expression_169 rfl ?_
  obtain ⟨v144, e145, h⟩ := bindE h
  refine q_getP C fl_RX9_62 rfl e145 dX9_expression_170 ?_
  refine q_aload_n 0 C dX9_expression_173 rfl ?_
  obtain ⟨v146, e147, h⟩ := bindE h
  refine q_getI C fl_RX9_202 rfl e147 dX9_expression_174 ?_
  refine q_iconst (v := (1 : Int32)) C dX9_expression_177 (by decide) ?_
  obtain ⟨M148, e149, h⟩ := bindE h
  refine q_zastore C e149 dX9_expression_178 ?_
  refine q_aload_n 0 C dX9_expression_179 rfl ?_
  obtain ⟨e150, h⟩ := ckOE h
  obtain ⟨M152, e151, h⟩ := bindE h
  refine q_callV (v := none) [] C hRO lk_RX9_174 vk_X9_takes e150 rfl rfl rfl (Nat.le_of_ble_eq_true rfl) (by decide) (by decide) dX9_expression_180 (k_X9_takes X.1.2.1 hl X.2.2.1 l0 M148 _ e151) ?_
  refine q_aload_n 0 C dX9_expression_183 rfl ?_
  refine q_iconst (v := (0 : Int32)) C dX9_expression_184 (by decide) ?_
  obtain ⟨e154, h⟩ := ckOE h
  obtain ⟨M156, e155, h⟩ := bindE h
  refine q_callV (v := none) [.int (0 : Int32)] C hRO lk_RX9_220 vk_X9_operand e154 rfl rfl rfl (Nat.le_of_ble_eq_true rfl) (by decide) (by decide) dX9_expression_185 (k_X9_operand X.1.2.1 hl X.2.2.1 l0 (0 : Int32) M152 _ e155) ?_
  refine q_goto (tgt := 327) C dX9_expression_188 (by decide) ?_
  refine q_goto (tgt := 34) C dX9_expression_327 (by decide) ?_
  exact q_sub (lv' := [(0, .ref l0), (2, .int l2)]) [0, 1] rfl (kc (l2, M156) (someI h))
set_option maxRecDepth 100000 in
set_option maxHeartbeats 4000000 in
theorem w_X9_expression_j132_34 {X : CX} {y : (Int32 × Mem) ⊕ (Mem)} (C : CK X cX9_expression 4 RX9 12 253) (hRO : RO X.2.2.1 X.1.2.2.2.2.1 X.1.2.2.2.2.1.heap) (hl : X.1.2.1.stackTraces = false) (l0 : Nat) (l2 : Int32) (M : Mem) (h : F_X9_expression_j132_34 l0 l2 M = some y) (kc : ∀ s' : Int32 × Mem, y = .inl s' → wq X 4 34 [(0, .ref l0), (2, .int (s'.1))] [] s'.2) (kx : ∀ e' : Mem, y = (.inr e') → wq X 4 330 [(0, .ref l0)] [] e') : wq X 4 132 [(0, .ref l0), (2, .int l2)] [] M := by
  unfold F_X9_expression_j132_34 at h
  refine q_aload_n 0 C dX9_expression_132 rfl ?_
  obtain ⟨v57, e58, h⟩ := bindE h
  refine q_getP C fl_RX9_62 rfl e58 dX9_expression_133 ?_
  refine q_aload_n 0 C dX9_expression_136 rfl ?_
  obtain ⟨v59, e60, h⟩ := bindE h
  refine q_getI C fl_RX9_202 rfl e60 dX9_expression_137 ?_
  obtain ⟨v61, e62, h⟩ := bindE h
  refine q_zaload C e62 dX9_expression_140 ?_
  refine q_if_ne (tgt := 191) C dX9_expression_141 (by decide) (fun c63 => ?_) (fun c63 => ?_)
  · have h := ifF c63 h
    exact q_sub (lv' := [(0, .ref l0), (2, .int l2)]) [0, 1] rfl (w_X9_expression_j191_34 C hRO hl l0 l2 M h kc kx)
  · have h := ifT c63 h
    refine q_aload_n 0 C dX9_expression_144 rfl ?_
    refine q_iconst (v := (4 : Int32)) C dX9_expression_145 (by decide) ?_
    obtain ⟨e132, h⟩ := ckOE h
    obtain ⟨M134, e133, h⟩ := bindE h
    refine q_callV (v := none) [.int (4 : Int32)] C hRO lk_RX9_217 vk_X9_drops e132 rfl rfl rfl (Nat.le_of_ble_eq_true rfl) (by decide) (by decide) dX9_expression_146 (k_X9_drops X.1.2.1 hl X.2.2.1 l0 (4 : Int32) M _ e133) ?_
    refine q_aload_n 0 C dX9_expression_149 rfl ?_
    refine q_aload_n 0 C dX9_expression_150 rfl ?_
    refine q_bipush (v := (60 : Int32)) C dX9_expression_151 (by decide) ?_
    obtain ⟨e136, h⟩ := ckOE h
    obtain ⟨v138, e137, h⟩ := bindE h
    refine q_callV (v := some (.int v138)) [.int (60 : Int32)] C hRO lk_RX9_205 vk_X9_isSign e136 rfl rfl rfl (Nat.le_of_ble_eq_true rfl) (by decide) (by decide) dX9_expression_153 (k_X9_isSign X.1.2.1 hl X.2.2.1 l0 (60 : Int32) M134 _ e137) ?_
    refine q_if_eq (tgt := 164) C dX9_expression_156 (by decide) (fun c139 => ?_) (fun c139 => ?_)
    · have h := ifT c139 h
      refine q_bipush (v := (7 : Int32)) C dX9_expression_164 (by decide) ?_
      exact q_sub (lv' := [(0, .ref l0), (2, .int l2)]) [0, 1] rfl (w_X9_expression_j166_34 C hRO hl l0 l2 (7 : Int32) l0 M134 h kc kx)
    · have h := ifF c139 h
      refine q_bipush (v := (6 : Int32)) C dX9_expression_159 (by decide) ?_
      refine q_goto (tgt := 166) C dX9_expression_161 (by decide) ?_
      exact q_sub (lv' := [(0, .ref l0), (2, .int l2)]) [0, 1] rfl (w_X9_expression_j166_34 C hRO hl l0 l2 (6 : Int32) l0 M134 h kc kx)
set_option maxRecDepth 100000 in
set_option maxHeartbeats 4000000 in
theorem w_X9_expression_s34 {X : CX} {y : (Int32 × Mem) ⊕ (Mem)} (C : CK X cX9_expression 4 RX9 12 253) (hRO : RO X.2.2.1 X.1.2.2.2.2.1 X.1.2.2.2.2.1.heap) (hl : X.1.2.1.stackTraces = false) (l0 : Nat) (l2 : Int32) (M : Mem) (h : F_X9_expression_s34 l0 l2 M = some y) (kc : ∀ s' : Int32 × Mem, y = .inl s' → wq X 4 34 [(0, .ref l0), (2, .int (s'.1))] [] s'.2) (kx : ∀ e' : Mem, y = (.inr e') → wq X 4 330 [(0, .ref l0)] [] e') : wq X 4 34 [(0, .ref l0), (2, .int l2)] [] M := by
  unfold F_X9_expression_s34 at h
  refine q_iload_n 1 C dX9_expression_34 rfl ?_
  refine q_if_eq (tgt := 330) C dX9_expression_35 (by decide) (fun c19 => ?_) (fun c19 => ?_)
  · have h := ifT c19 h
    exact q_sub (lv' := [(0, .ref l0)]) [0] rfl (kx M (someI h))
  · have h := ifF c19 h
    refine q_aload_n 0 C dX9_expression_38 rfl ?_
    obtain ⟨e20, h⟩ := ckOE h
    obtain ⟨v22, e21, h⟩ := bindE h
    refine q_callV (v := some (.int v22)) [] C hRO lk_RX9_170 vk_X9_isGood e20 rfl rfl rfl (Nat.le_of_ble_eq_true rfl) (by decide) (by decide) dX9_expression_39 (k_X9_isGood X.1.2.1 hl X.2.2.1 l0 M _ e21) ?_
    refine q_if_eq (tgt := 330) C dX9_expression_42 (by decide) (fun c23 => ?_) (fun c23 => ?_)
    · have h := ifT c23 h
      exact q_sub (lv' := [(0, .ref l0)]) [0] rfl (kx M (someI h))
    · have h := ifF c23 h
      refine q_aload_n 0 C dX9_expression_45 rfl ?_
      obtain ⟨e24, h⟩ := ckOE h
      obtain ⟨v26, e25, h⟩ := bindE h
      refine q_callV (v := some (.int v26)) [] C hRO lk_RX9_195 vk_X9_knownWord e24 rfl rfl rfl (Nat.le_of_ble_eq_true rfl) (by decide) (by decide) dX9_expression_46 (k_X9_knownWord X.1.2.1 hl X.2.2.1 l0 M _ e25) ?_
      refine q_istore_n (i := 3) (lv' := [(3, .int v26), (0, .ref l0), (2, .int l2)]) C dX9_expression_49 rfl (by decide) rfl ?_
      refine q_iload_n 0 C dX9_expression_50 rfl ?_
      refine q_bipush (v := (12 : Int32)) C dX9_expression_51 (by decide) ?_
      refine q_icmp_eq (tgt := 62) C dX9_expression_53 (by decide) (fun c27 => ?_) (fun c27 => ?_)
      · have h := ifT c27 h
        exact q_sub (lv' := [(0, .ref l0), (2, .int l2), (3, .int v26)]) [1, 2, 0] rfl (w_X9_expression_j62_34 C hRO hl l0 l2 v26 M h kc kx)
      · have h := ifF c27 h
        refine q_iload_n 0 C dX9_expression_56 rfl ?_
        refine q_bipush (v := (13 : Int32)) C dX9_expression_57 (by decide) ?_
        refine q_icmp_ne (tgt := 114) C dX9_expression_59 (by decide) (fun c52 => ?_) (fun c52 => ?_)
        · have h := ifF c52 h
          refine q_aload_n 1 C dX9_expression_114 rfl ?_
          refine q_bipush (v := (60 : Int32)) C dX9_expression_115 (by decide) ?_
          obtain ⟨e53, h⟩ := ckOE h
          obtain ⟨v55, e54, h⟩ := bindE h
          refine q_callV (v := some (.int v55)) [.int (60 : Int32)] C hRO lk_RX9_205 vk_X9_isSign e53 rfl rfl rfl (Nat.le_of_ble_eq_true rfl) (by decide) (by decide) dX9_expression_117 (k_X9_isSign X.1.2.1 hl X.2.2.1 l0 (60 : Int32) M _ e54) ?_
          refine q_if_ne (tgt := 132) C dX9_expression_120 (by decide) (fun c56 => ?_) (fun c56 => ?_)
          · have h := ifF c56 h
            exact q_sub (lv' := [(0, .ref l0), (2, .int l2)]) [1, 2] rfl (w_X9_expression_j132_34 C hRO hl l0 l2 M h kc kx)
          · have h := ifT c56 h
            refine q_aload_n 1 C dX9_expression_123 rfl ?_
            refine q_bipush (v := (61 : Int32)) C dX9_expression_124 (by decide) ?_
            obtain ⟨e158, h⟩ := ckOE h
            obtain ⟨v160, e159, h⟩ := bindE h
            refine q_callV (v := some (.int v160)) [.int (61 : Int32)] C hRO lk_RX9_205 vk_X9_isSign e158 rfl rfl rfl (Nat.le_of_ble_eq_true rfl) (by decide) (by decide) dX9_expression_126 (k_X9_isSign X.1.2.1 hl X.2.2.1 l0 (61 : Int32) M _ e159) ?_
            refine q_if_eq (tgt := 191) C dX9_expression_129 (by decide) (fun c161 => ?_) (fun c161 => ?_)
            · have h := ifT c161 h
              exact q_sub (lv' := [(0, .ref l0), (2, .int l2)]) [1, 2] rfl (w_X9_expression_j191_34 C hRO hl l0 l2 M h kc kx)
            · have h := ifF c161 h
              exact q_sub (lv' := [(0, .ref l0), (2, .int l2)]) [1, 2] rfl (w_X9_expression_j132_34 C hRO hl l0 l2 M h kc kx)
        · have h := ifT c52 h
          exact q_sub (lv' := [(0, .ref l0), (2, .int l2), (3, .int v26)]) [1, 2, 0] rfl (w_X9_expression_j62_34 C hRO hl l0 l2 v26 M h kc kx)
theorem w_X9_expression_l34 {X : CX} {r : Mem} (C : CK X cX9_expression 4 RX9 12 253) (hRO : RO X.2.2.1 X.1.2.2.2.2.1 X.1.2.2.2.2.1.heap) (hl : X.1.2.1.stackTraces = false) (l0 : Nat) (l2 : Int32) (M : Mem) (h : loop (fun s => F_X9_expression_s34 l0 s.1 s.2) (l2, M) = some r) (kx : ∀ e' : Mem, r = e' → wq X 4 330 [(0, .ref l0)] [] e') : wq X 4 34 [(0, .ref l0), (2, .int l2)] [] M :=
  loop_ind (P := fun s => wq X 4 34 [(0, .ref l0), (2, .int s.1)] [] s.2) h (fun s y hy kc kr => w_X9_expression_s34 C hRO hl l0 s.1 s.2 hy kc (fun e' he => kx e' (kr _ he).symm))
set_option maxRecDepth 100000 in
set_option maxHeartbeats 4000000 in
theorem w_X9_expression_j350 {X : CX} {y : Mem} (C : CK X cX9_expression 4 RX9 12 253) (hRO : RO X.2.2.1 X.1.2.2.2.2.1 X.1.2.2.2.2.1.heap) (hl : X.1.2.1.stackTraces = false) (l0 : Nat) (M : Mem) (h : F_X9_expression_j350 l0 M = some y) (kf : FIN X none (rs_mV y) (ms_mV y)) : wq X 4 350 [(0, .ref l0)] [] M := by
  unfold F_X9_expression_j350 at h
  refine q_aload_n 0 C dX9_expression_350 rfl ?_
  refine q_iconst (v := (0 : Int32)) C dX9_expression_351 (by decide) ?_
  obtain ⟨e169, h⟩ := ckOE h
  obtain ⟨M171, e170, h⟩ := bindE h
  refine q_callV (v := none) [.int (0 : Int32)] C hRO lk_RX9_217 vk_X9_drops e169 rfl rfl rfl (Nat.le_of_ble_eq_true rfl) (by decide) (by decide) dX9_expression_352 (k_X9_drops X.1.2.1 hl X.2.2.1 l0 (0 : Int32) M _ e170) ?_
  refine q_aload_n 0 C dX9_expression_355 rfl ?_
  refine q_iconst (v := (0 : Int32)) C dX9_expression_356 (by decide) ?_
  obtain ⟨e173, h⟩ := ckOE h
  obtain ⟨M175, e174, h⟩ := bindE h
  refine q_callV (v := none) [.int (0 : Int32)] C hRO lk_RX9_192 vk_X9_puts e173 rfl rfl rfl (Nat.le_of_ble_eq_true rfl) (by decide) (by decide) dX9_expression_357 (k_X9_puts X.1.2.1 hl X.2.2.1 l0 (0 : Int32) M171 _ e174) ?_
  cases h
  exact q_vret C kf dX9_expression_360
set_option maxRecDepth 100000 in
set_option maxHeartbeats 4000000 in
theorem w_X9_expression_j330 {X : CX} {y : Mem} (C : CK X cX9_expression 4 RX9 12 253) (hRO : RO X.2.2.1 X.1.2.2.2.2.1 X.1.2.2.2.2.1.heap) (hl : X.1.2.1.stackTraces = false) (l0 : Nat) (M : Mem) (h : F_X9_expression_j330 l0 M = some y) (kf : FIN X none (rs_mV y) (ms_mV y)) : wq X 4 330 [(0, .ref l0)] [] M := by
  unfold F_X9_expression_j330 at h
  refine q_aload_n 0 C dX9_expression_330 rfl ?_
  obtain ⟨e165, h⟩ := ckOE h
  obtain ⟨v167, e166, h⟩ := bindE h
  refine q_callV (v := some (.int v167)) [] C hRO lk_RX9_170 vk_X9_isGood e165 rfl rfl rfl (Nat.le_of_ble_eq_true rfl) (by decide) (by decide) dX9_expression_331 (k_X9_isGood X.1.2.1 hl X.2.2.1 l0 M _ e166) ?_
  refine q_if_eq (tgt := 350) C dX9_expression_334 (by decide) (fun c168 => ?_) (fun c168 => ?_)
  · have h := ifT c168 h
    exact q_sub (lv' := [(0, .ref l0)]) [0] rfl (w_X9_expression_j350 C hRO hl l0 M h kf)
  · have h := ifF c168 h
    refine q_aload_n 0 C dX9_expression_337 rfl ?_
    obtain ⟨v177, e178, h⟩ := bindE h
    refine q_getI C fl_RX9_202 rfl e178 dX9_expression_338 ?_
    refine q_iconst (v := (1 : Int32)) C dX9_expression_341 (by decide) ?_
    refine q_icmp_le (tgt := 350) C dX9_expression_342 (by decide) (fun c179 => ?_) (fun c179 => ?_)
    · have h := ifT c179 h
      exact q_sub (lv' := [(0, .ref l0)]) [0] rfl (w_X9_expression_j350 C hRO hl l0 M h kf)
    · have h := ifF c179 h
      refine q_aload_n 0 C dX9_expression_345 rfl ?_
      refine q_iconst (v := (1 : Int32)) C dX9_expression_346 (by decide) ?_
      obtain ⟨e180, h⟩ := ckOE h
      obtain ⟨M182, e181, h⟩ := bindE h
      refine q_callV (v := none) [.int (1 : Int32)] C hRO lk_RX9_177 vk_X9_wrong e180 rfl rfl rfl (Nat.le_of_ble_eq_true rfl) (by decide) (by decide) dX9_expression_347 (k_X9_wrong X.1.2.1 hl X.2.2.1 l0 (1 : Int32) M _ e181) ?_
      exact q_sub (lv' := [(0, .ref l0)]) [0] rfl (w_X9_expression_j350 C hRO hl l0 M182 h kf)
set_option maxRecDepth 100000 in
set_option maxHeartbeats 4000000 in
theorem w_X9_expression {X : CX} {y : Mem} (C : CK X cX9_expression 4 RX9 12 253) (hRO : RO X.2.2.1 X.1.2.2.2.2.1 X.1.2.2.2.2.1.heap) (hl : X.1.2.1.stackTraces = false) (l0 : Nat) (l1 : Int32) (M : Mem) (h : F_X9_expression l0 l1 M = some y) (kf : FIN X none (rs_mV y) (ms_mV y)) : wq X 4 0 [(0, .ref l0), (1, .int l1)] [] M := by
  unfold F_X9_expression at h
  refine q_aload_n 0 C dX9_expression_0 rfl ?_
  obtain ⟨e1, h⟩ := ckOE h
  obtain ⟨v3, e2, h⟩ := bindE h
  refine q_callV (v := some (.int v3)) [] C hRO lk_RX9_170 vk_X9_isGood e1 rfl rfl rfl (Nat.le_of_ble_eq_true rfl) (by decide) (by decide) dX9_expression_1 (k_X9_isGood X.1.2.1 hl X.2.2.1 l0 M _ e2) ?_
  refine q_if_ne (tgt := 8) C dX9_expression_4 (by decide) (fun c4 => ?_) (fun c4 => ?_)
  · have h := ifF c4 h
    refine q_aload_n 0 C dX9_expression_8 rfl ?_
    refine q_iload_n 1 C dX9_expression_9 rfl ?_
    obtain ⟨M5, e6, h⟩ := bindE h
    refine q_putI C fp_RX9_199 rfl e6 dX9_expression_10 ?_
    refine q_aload_n 0 C dX9_expression_13 rfl ?_
    refine q_iconst (v := (0 : Int32)) C dX9_expression_14 (by decide) ?_
    obtain ⟨M7, e8, h⟩ := bindE h
    refine q_putI C fp_RX9_183 rfl e8 dX9_expression_15 ?_
    refine q_aload_n 0 C dX9_expression_18 rfl ?_
    refine q_iconst (v := (0 : Int32)) C dX9_expression_19 (by decide) ?_
    obtain ⟨M9, e10, h⟩ := bindE h
    refine q_putI C fp_RX9_202 rfl e10 dX9_expression_20 ?_
    refine q_aload_n 0 C dX9_expression_23 rfl ?_
    obtain ⟨e11, h⟩ := ckOE h
    obtain ⟨M13, e12, h⟩ := bindE h
    refine q_callV (v := none) [] C hRO lk_RX9_211 vk_X9_deeper e11 rfl rfl rfl (Nat.le_of_ble_eq_true rfl) (by decide) (by decide) dX9_expression_24 (k_X9_deeper X.1.2.1 hl X.2.2.1 l0 M9 _ e12) ?_
    refine q_aload_n 0 C dX9_expression_27 rfl ?_
    refine q_iconst (v := (1 : Int32)) C dX9_expression_28 (by decide) ?_
    obtain ⟨e15, h⟩ := ckOE h
    obtain ⟨M17, e16, h⟩ := bindE h
    refine q_callV (v := none) [.int (1 : Int32)] C hRO lk_RX9_220 vk_X9_operand e15 rfl rfl rfl (Nat.le_of_ble_eq_true rfl) (by decide) (by decide) dX9_expression_29 (k_X9_operand X.1.2.1 hl X.2.2.1 l0 (1 : Int32) M13 _ e16) ?_
    refine q_iconst (v := (1 : Int32)) C dX9_expression_32 (by decide) ?_
    refine q_istore_n (i := 2) (lv' := [(2, .int (1 : Int32)), (0, .ref l0), (1, .int l1)]) C dX9_expression_33 rfl (by decide) rfl ?_
    obtain ⟨M164, e163, h⟩ := bindE h
    refine q_sub (lv' := [(0, .ref l0), (2, .int (1 : Int32))]) [1, 0] rfl (w_X9_expression_l34 C hRO hl l0 (1 : Int32) M17 e163 (fun r162 he => ?_))
    subst he
    show wq X 4 330 [(0, .ref l0)] [] M164
    exact q_sub (lv' := [(0, .ref l0)]) [0] rfl (w_X9_expression_j330 C hRO hl l0 M164 h kf)
  · have h := ifT c4 h
    cases h
    exact q_vret C kf dX9_expression_7
theorem k_X9_expression (l : Launch) (hl : l.stackTraces = false) (G : GG) (l0 : Nat) (l1 : Int32) (M : Mem) (x : Mem) (h : F_X9_expression l0 l1 M = some x) : Ct l G yX9_expression (.code yX9_expression cX9_expression 4 none) 12 253 [.ref l0, .int l1] M (rs_mV x) (ms_mV x) := by
  refine Ct_of (by decide +kernel) (Nat.le_of_ble_eq_true rfl) fun X e1 e2 e3 C FN hnm => ?_
  subst e1; subst e2
  show wq X 4 0 [(0, .ref l0), (1, .int l1)] [] M
  exact w_X9_expression C FN.2.2.2 hl l0 l1 M h FN
/-! X9_fault -/
set_option maxRecDepth 100000 in
set_option maxHeartbeats 4000000 in
theorem w_X9_fault {X : CX} {y : Int32 × Mem} (C : CK X cX9_fault 1 RX9 7 140) (hRO : RO X.2.2.1 X.1.2.2.2.2.1 X.1.2.2.2.2.1.heap) (hl : X.1.2.1.stackTraces = false) (l0 : Nat) (M : Mem) (h : F_X9_fault l0 M = some y) (kf : FIN X (some .int) (rs_mI y) (ms_mI y)) : wq X 1 0 [(0, .ref l0)] [] M := by
  unfold F_X9_fault at h
  refine q_aload_n 0 C dX9_fault_0 rfl ?_
  refine q_iconst (v := (0 : Int32)) C dX9_fault_1 (by decide) ?_
  obtain ⟨M1, e2, h⟩ := bindE h
  refine q_putI C fp_RX9_111 rfl e2 dX9_fault_2 ?_
  refine q_aload_n 0 C dX9_fault_5 rfl ?_
  obtain ⟨v3, e4, h⟩ := bindE h
  refine q_getI C fl_RX9_35 rfl e4 dX9_fault_6 ?_
  cases h
  exact q_iret C kf dX9_fault_9
theorem k_X9_fault (l : Launch) (hl : l.stackTraces = false) (G : GG) (l0 : Nat) (M : Mem) (x : Int32 × Mem) (h : F_X9_fault l0 M = some x) : Ct l G yX9_fault (.code yX9_fault cX9_fault 1 (some .int)) 7 140 [.ref l0] M (rs_mI x) (ms_mI x) := by
  refine Ct_of (by decide +kernel) (Nat.le_of_ble_eq_true rfl) fun X e1 e2 e3 C FN hnm => ?_
  subst e1; subst e2
  show wq X 1 0 [(0, .ref l0)] [] M
  exact w_X9_fault C FN.2.2.2 hl l0 M h FN
/-! X9_lays -/
set_option maxRecDepth 100000 in
set_option maxHeartbeats 4000000 in
theorem w_X9_lays_s3 {X : CX} {y : (Int32 × Mem) ⊕ (Mem)} (C : CK X cX9_lays 3 RX9 7 140) (hRO : RO X.2.2.1 X.1.2.2.2.2.1 X.1.2.2.2.2.1.heap) (hl : X.1.2.1.stackTraces = false) (l0 : Nat) (l1 : Int32) (l2 : Int32) (M : Mem) (h : F_X9_lays_s3 l0 l1 l2 M = some y) (kc : ∀ s' : Int32 × Mem, y = .inl s' → wq X 3 3 [(0, .ref l0), (1, .int l1), (2, .int (s'.1))] [] s'.2) (kx : ∀ e' : Mem, y = (.inr e') → wq X 3 39 [] [] e') : wq X 3 3 [(0, .ref l0), (1, .int l1), (2, .int l2)] [] M := by
  unfold F_X9_lays_s3 at h
  refine q_iload_n 2 C dX9_lays_3 rfl ?_
  refine q_if_lt (tgt := 39) C dX9_lays_4 (by decide) (fun c1 => ?_) (fun c1 => ?_)
  · have h := ifT c1 h
    exact q_sub (lv' := []) [] rfl (kx M (someI h))
  · have h := ifF c1 h
    refine q_aload_n 0 C dX9_lays_7 rfl ?_
    obtain ⟨v2, e3, h⟩ := bindE h
    refine q_getP C fl_RX9_32 rfl e3 dX9_lays_8 ?_
    refine q_aload_n 0 C dX9_lays_11 rfl ?_
    obtain ⟨v4, e5, h⟩ := bindE h
    refine q_getI C fl_RX9_114 rfl e5 dX9_lays_12 ?_
    refine q_iload_n 1 C dX9_lays_15 rfl ?_
    refine q_iload_n 2 C dX9_lays_16 rfl ?_
    refine q_ishr C dX9_lays_17 ?_
    refine q_sipush (v := (255 : Int32)) C dX9_lays_18 (by decide) ?_
    refine q_iand C dX9_lays_21 ?_
    obtain ⟨M6, e7, h⟩ := bindE h
    refine q_iastore C e7 dX9_lays_22 ?_
    refine q_aload_n 0 C dX9_lays_23 rfl ?_
    refine q_dup C dX9_lays_24 rfl ?_
    obtain ⟨v8, e9, h⟩ := bindE h
    refine q_getI C fl_RX9_114 rfl e9 dX9_lays_25 ?_
    refine q_iconst (v := (1 : Int32)) C dX9_lays_28 (by decide) ?_
    refine q_iadd C dX9_lays_29 ?_
    obtain ⟨M10, e11, h⟩ := bindE h
    refine q_putI C fp_RX9_114 rfl e11 dX9_lays_30 ?_
    refine q_iinc 2 (v := (l2 + (-8 : Int32))) (lv' := [(2, .int (l2 + (-8 : Int32))), (0, .ref l0), (1, .int l1)]) C dX9_lays_33 rfl rfl (by decide) rfl ?_
    refine q_goto (tgt := 3) C dX9_lays_36 (by decide) ?_
    exact q_sub (lv' := [(0, .ref l0), (1, .int l1), (2, .int (l2 + (-8 : Int32)))]) [1, 2, 0] rfl (kc ((l2 + (-8 : Int32)), M10) (someI h))
theorem w_X9_lays_l3 {X : CX} {r : Mem} (C : CK X cX9_lays 3 RX9 7 140) (hRO : RO X.2.2.1 X.1.2.2.2.2.1 X.1.2.2.2.2.1.heap) (hl : X.1.2.1.stackTraces = false) (l0 : Nat) (l1 : Int32) (l2 : Int32) (M : Mem) (h : loop (fun s => F_X9_lays_s3 l0 l1 s.1 s.2) (l2, M) = some r) (kx : ∀ e' : Mem, r = e' → wq X 3 39 [] [] e') : wq X 3 3 [(0, .ref l0), (1, .int l1), (2, .int l2)] [] M :=
  loop_ind (P := fun s => wq X 3 3 [(0, .ref l0), (1, .int l1), (2, .int s.1)] [] s.2) h (fun s y hy kc kr => w_X9_lays_s3 C hRO hl l0 l1 s.1 s.2 hy kc (fun e' he => kx e' (kr _ he).symm))
set_option maxRecDepth 100000 in
set_option maxHeartbeats 4000000 in
theorem w_X9_lays {X : CX} {y : Mem} (C : CK X cX9_lays 3 RX9 7 140) (hRO : RO X.2.2.1 X.1.2.2.2.2.1 X.1.2.2.2.2.1.heap) (hl : X.1.2.1.stackTraces = false) (l0 : Nat) (l1 : Int32) (M : Mem) (h : F_X9_lays l0 l1 M = some y) (kf : FIN X none (rs_mV y) (ms_mV y)) : wq X 3 0 [(0, .ref l0), (1, .int l1)] [] M := by
  unfold F_X9_lays at h
  refine q_bipush (v := (24 : Int32)) C dX9_lays_0 (by decide) ?_
  refine q_istore_n (i := 2) (lv' := [(2, .int (24 : Int32)), (0, .ref l0), (1, .int l1)]) C dX9_lays_2 rfl (by decide) rfl ?_
  obtain ⟨M14, e13, h⟩ := bindE h
  refine q_sub (lv' := [(0, .ref l0), (1, .int l1), (2, .int (24 : Int32))]) [1, 2, 0] rfl (w_X9_lays_l3 C hRO hl l0 l1 (24 : Int32) M e13 (fun r12 he => ?_))
  subst he
  show wq X 3 39 [] [] M14
  cases h
  exact q_vret C kf dX9_lays_39
theorem k_X9_lays (l : Launch) (hl : l.stackTraces = false) (G : GG) (l0 : Nat) (l1 : Int32) (M : Mem) (x : Mem) (h : F_X9_lays l0 l1 M = some x) : Ct l G yX9_lays (.code yX9_lays cX9_lays 3 none) 7 140 [.ref l0, .int l1] M (rs_mV x) (ms_mV x) := by
  refine Ct_of (by decide +kernel) (Nat.le_of_ble_eq_true rfl) fun X e1 e2 e3 C FN hnm => ?_
  subst e1; subst e2
  show wq X 3 0 [(0, .ref l0), (1, .int l1)] [] M
  exact w_X9_lays C FN.2.2.2 hl l0 l1 M h FN
/-! X9_feed -/
set_option maxRecDepth 100000 in
set_option maxHeartbeats 4000000 in
theorem w_X9_feed {X : CX} {y : Int32 × Mem} (C : CK X cX9_feed 6 RX9 8 162) (hRO : RO X.2.2.1 X.1.2.2.2.2.1 X.1.2.2.2.2.1.heap) (hl : X.1.2.1.stackTraces = false) (l0 : Nat) (l1 : Int32) (l2 : Int32) (l3 : Int32) (l4 : Int32) (l5 : Int32) (M : Mem) (h : F_X9_feed l0 l1 l2 l3 l4 l5 M = some y) (kf : FIN X (some .int) (rs_mI y) (ms_mI y)) : wq X 6 0 [(0, .ref l0), (1, .int l1), (2, .int l2), (3, .int l3), (4, .int l4), (5, .int l5)] [] M := by
  unfold F_X9_feed at h
  refine q_aload_n 0 C dX9_feed_0 rfl ?_
  refine q_iconst (v := (0 : Int32)) C dX9_feed_1 (by decide) ?_
  obtain ⟨M1, e2, h⟩ := bindE h
  refine q_putI C fp_RX9_111 rfl e2 dX9_feed_2 ?_
  refine q_aload_n 0 C dX9_feed_5 rfl ?_
  obtain ⟨v3, e4, h⟩ := bindE h
  refine q_getI C fl_RX9_114 rfl e4 dX9_feed_6 ?_
  refine q_bipush (v := (20 : Int32)) C dX9_feed_9 (by decide) ?_
  refine q_iadd C dX9_feed_11 ?_
  refine q_sipush (v := (700 : Int32)) C dX9_feed_12 (by decide) ?_
  refine q_icmp_le (tgt := 20) C dX9_feed_15 (by decide) (fun c5 => ?_) (fun c5 => ?_)
  · have h := ifT c5 h
    refine q_aload_n 0 C dX9_feed_20 rfl ?_
    refine q_iload_n 1 C dX9_feed_21 rfl ?_
    obtain ⟨e6, h⟩ := ckOE h
    obtain ⟨M8, e7, h⟩ := bindE h
    refine q_callV (v := none) [.int l1] C hRO lk_RX9_117 vk_X9_lays e6 rfl rfl rfl (Nat.le_of_ble_eq_true rfl) (by decide) (by decide) dX9_feed_22 (k_X9_lays X.1.2.1 hl X.2.2.1 l0 l1 M1 _ e7) ?_
    refine q_aload_n 0 C dX9_feed_25 rfl ?_
    refine q_iload_n 2 C dX9_feed_26 rfl ?_
    obtain ⟨e10, h⟩ := ckOE h
    obtain ⟨M12, e11, h⟩ := bindE h
    refine q_callV (v := none) [.int l2] C hRO lk_RX9_117 vk_X9_lays e10 rfl rfl rfl (Nat.le_of_ble_eq_true rfl) (by decide) (by decide) dX9_feed_27 (k_X9_lays X.1.2.1 hl X.2.2.1 l0 l2 M8 _ e11) ?_
    refine q_aload_n 0 C dX9_feed_30 rfl ?_
    refine q_iload_n 3 C dX9_feed_31 rfl ?_
    obtain ⟨e14, h⟩ := ckOE h
    obtain ⟨M16, e15, h⟩ := bindE h
    refine q_callV (v := none) [.int l3] C hRO lk_RX9_117 vk_X9_lays e14 rfl rfl rfl (Nat.le_of_ble_eq_true rfl) (by decide) (by decide) dX9_feed_32 (k_X9_lays X.1.2.1 hl X.2.2.1 l0 l3 M12 _ e15) ?_
    refine q_aload_n 0 C dX9_feed_35 rfl ?_
    refine q_iload 4 C dX9_feed_36 rfl ?_
    obtain ⟨e18, h⟩ := ckOE h
    obtain ⟨M20, e19, h⟩ := bindE h
    refine q_callV (v := none) [.int l4] C hRO lk_RX9_117 vk_X9_lays e18 rfl rfl rfl (Nat.le_of_ble_eq_true rfl) (by decide) (by decide) dX9_feed_38 (k_X9_lays X.1.2.1 hl X.2.2.1 l0 l4 M16 _ e19) ?_
    refine q_aload_n 0 C dX9_feed_41 rfl ?_
    refine q_iload 5 C dX9_feed_42 rfl ?_
    obtain ⟨e22, h⟩ := ckOE h
    obtain ⟨M24, e23, h⟩ := bindE h
    refine q_callV (v := none) [.int l5] C hRO lk_RX9_117 vk_X9_lays e22 rfl rfl rfl (Nat.le_of_ble_eq_true rfl) (by decide) (by decide) dX9_feed_44 (k_X9_lays X.1.2.1 hl X.2.2.1 l0 l5 M20 _ e23) ?_
    refine q_aload_n 0 C dX9_feed_47 rfl ?_
    obtain ⟨v26, e27, h⟩ := bindE h
    refine q_getI C fl_RX9_114 rfl e27 dX9_feed_48 ?_
    cases h
    exact q_iret C kf dX9_feed_51
  · have h := ifF c5 h
    refine q_iconst (v := (-1 : Int32)) C dX9_feed_18 (by decide) ?_
    cases h
    exact q_iret C kf dX9_feed_19
theorem k_X9_feed (l : Launch) (hl : l.stackTraces = false) (G : GG) (l0 : Nat) (l1 : Int32) (l2 : Int32) (l3 : Int32) (l4 : Int32) (l5 : Int32) (M : Mem) (x : Int32 × Mem) (h : F_X9_feed l0 l1 l2 l3 l4 l5 M = some x) : Ct l G yX9_feed (.code yX9_feed cX9_feed 6 (some .int)) 8 162 [.ref l0, .int l1, .int l2, .int l3, .int l4, .int l5] M (rs_mI x) (ms_mI x) := by
  refine Ct_of (by decide +kernel) (Nat.le_of_ble_eq_true rfl) fun X e1 e2 e3 C FN hnm => ?_
  subst e1; subst e2
  show wq X 6 0 [(0, .ref l0), (1, .int l1), (2, .int l2), (3, .int l3), (4, .int l4), (5, .int l5)] [] M
  exact w_X9_feed C FN.2.2.2 hl l0 l1 l2 l3 l4 l5 M h FN
/-! X9_forget -/
set_option maxRecDepth 100000 in
set_option maxHeartbeats 4000000 in
theorem w_X9_forget {X : CX} {y : Mem} (C : CK X cX9_forget 1 RX9 7 140) (hRO : RO X.2.2.1 X.1.2.2.2.2.1 X.1.2.2.2.2.1.heap) (hl : X.1.2.1.stackTraces = false) (l0 : Nat) (M : Mem) (h : F_X9_forget l0 M = some y) (kf : FIN X none (rs_mV y) (ms_mV y)) : wq X 1 0 [(0, .ref l0)] [] M := by
  unfold F_X9_forget at h
  refine q_aload_n 0 C dX9_forget_0 rfl ?_
  refine q_iconst (v := (0 : Int32)) C dX9_forget_1 (by decide) ?_
  obtain ⟨M1, e2, h⟩ := bindE h
  refine q_putI C fp_RX9_111 rfl e2 dX9_forget_2 ?_
  refine q_aload_n 0 C dX9_forget_5 rfl ?_
  refine q_iconst (v := (0 : Int32)) C dX9_forget_6 (by decide) ?_
  obtain ⟨M3, e4, h⟩ := bindE h
  refine q_putI C fp_RX9_291 rfl e4 dX9_forget_7 ?_
  cases h
  exact q_vret C kf dX9_forget_10
theorem k_X9_forget (l : Launch) (hl : l.stackTraces = false) (G : GG) (l0 : Nat) (M : Mem) (x : Mem) (h : F_X9_forget l0 M = some x) : Ct l G yX9_forget (.code yX9_forget cX9_forget 1 none) 7 140 [.ref l0] M (rs_mV x) (ms_mV x) := by
  refine Ct_of (by decide +kernel) (Nat.le_of_ble_eq_true rfl) fun X e1 e2 e3 C FN hnm => ?_
  subst e1; subst e2
  show wq X 1 0 [(0, .ref l0)] [] M
  exact w_X9_forget C FN.2.2.2 hl l0 M h FN
/-! X9_free -/
set_option maxRecDepth 100000 in
set_option maxHeartbeats 4000000 in
theorem w_X9_free_s19 {X : CX} {y : (Int32 × Int32 × Mem) ⊕ (Int32 × Mem)} (C : CK X cX9_free 4 RX9 12 256) (hRO : RO X.2.2.1 X.1.2.2.2.2.1 X.1.2.2.2.2.1.heap) (hl : X.1.2.1.stackTraces = false) (l0 : Nat) (l1 : Int32) (l2 : Int32) (l3 : Int32) (M : Mem) (h : F_X9_free_s19 l0 l1 l2 l3 M = some y) (kc : ∀ s' : Int32 × Int32 × Mem, y = .inl s' → wq X 4 19 [(0, .ref l0), (1, .int l1), (2, .int (s'.1)), (3, .int (s'.2.1))] [] s'.2.2) (kx : ∀ e' : Int32 × Mem, y = (.inr e') → wq X 4 80 [(2, .int (e'.1))] [] e'.2) : wq X 4 19 [(0, .ref l0), (1, .int l1), (2, .int l2), (3, .int l3)] [] M := by
  unfold F_X9_free_s19 at h
  refine q_iload_n 3 C dX9_free_19 rfl ?_
  refine q_aload_n 0 C dX9_free_20 rfl ?_
  obtain ⟨v8, e9, h⟩ := bindE h
  refine q_getI C fl_RX9_275 rfl e9 dX9_free_21 ?_
  refine q_icmp_ge (tgt := 80) C dX9_free_24 (by decide) (fun c10 => ?_) (fun c10 => ?_)
  · have h := ifT c10 h
    exact q_sub (lv' := [(2, .int l2)]) [2] rfl (kx (l2, M) (someI h))
  · have h := ifF c10 h
    refine q_aload_n 0 C dX9_free_27 rfl ?_
    obtain ⟨v11, e12, h⟩ := bindE h
    refine q_getP C fl_RX9_66 rfl e12 dX9_free_28 ?_
    refine q_bipush (v := (19 : Int32)) C dX9_free_31 (by decide) ?_
    refine q_iload_n 3 C dX9_free_33 rfl ?_
    refine q_iadd C dX9_free_34 ?_
    obtain ⟨v13, e14, h⟩ := bindE h
    refine q_iaload C e14 dX9_free_35 ?_
    refine q_iconst (v := (-1 : Int32)) C dX9_free_36 (by decide) ?_
    refine q_icmp_ne (tgt := 74) C dX9_free_37 (by decide) (fun c15 => ?_) (fun c15 => ?_)
    · have h := ifF c15 h
      refine q_iinc 3 (v := (l3 + (1 : Int32))) (lv' := [(3, .int (l3 + (1 : Int32))), (0, .ref l0), (1, .int l1), (2, .int l2)]) C dX9_free_74 rfl rfl (by decide) rfl ?_
      refine q_goto (tgt := 19) C dX9_free_77 (by decide) ?_
      exact q_sub (lv' := [(0, .ref l0), (1, .int l1), (2, .int l2), (3, .int (l3 + (1 : Int32)))]) [1, 2, 3, 0] rfl (kc (l2, (l3 + (1 : Int32)), M) (someI h))
    · have h := ifT c15 h
      refine q_aload_n 0 C dX9_free_40 rfl ?_
      refine q_iconst (v := (0 : Int32)) C dX9_free_41 (by decide) ?_
      refine q_iload_n 1 C dX9_free_42 rfl ?_
      refine q_iload_n 3 C dX9_free_43 rfl ?_
      obtain ⟨e16, h⟩ := ckOE h
      obtain ⟨v19, M18, e17, h⟩ := bd2E h
      refine q_callV (v := some (.int v19)) [.int (0 : Int32), .int l1, .int l3] C hRO lk_RX9_388 vk_X9_wouldGo e16 rfl rfl rfl (Nat.le_of_ble_eq_true rfl) (by decide) (by decide) dX9_free_44 (k_X9_wouldGo X.1.2.1 hl X.2.2.1 l0 (0 : Int32) l1 l3 M _ e17) ?_
      refine q_if_eq (tgt := 74) C dX9_free_47 (by decide) (fun c20 => ?_) (fun c20 => ?_)
      · have h := ifT c20 h
        refine q_iinc 3 (v := (l3 + (1 : Int32))) (lv' := [(3, .int (l3 + (1 : Int32))), (0, .ref l0), (1, .int l1), (2, .int l2)]) C dX9_free_74 rfl rfl (by decide) rfl ?_
        refine q_goto (tgt := 19) C dX9_free_77 (by decide) ?_
        exact q_sub (lv' := [(0, .ref l0), (1, .int l1), (2, .int l2), (3, .int (l3 + (1 : Int32)))]) [1, 2, 3, 0] rfl (kc (l2, (l3 + (1 : Int32)), M18) (someI h))
      · have h := ifF c20 h
        refine q_iload_n 2 C dX9_free_50 rfl ?_
        refine q_iconst (v := (-1 : Int32)) C dX9_free_51 (by decide) ?_
        refine q_icmp_eq (tgt := 72) C dX9_free_52 (by decide) (fun c21 => ?_) (fun c21 => ?_)
        · have h := ifT c21 h
          refine q_iload_n 3 C dX9_free_72 rfl ?_
          refine q_istore_n (i := 2) (lv' := [(2, .int l3), (0, .ref l0), (1, .int l1), (3, .int l3)]) C dX9_free_73 rfl (by decide) rfl ?_
          refine q_iinc 3 (v := (l3 + (1 : Int32))) (lv' := [(3, .int (l3 + (1 : Int32))), (2, .int l3), (0, .ref l0), (1, .int l1)]) C dX9_free_74 rfl rfl (by decide) rfl ?_
          refine q_goto (tgt := 19) C dX9_free_77 (by decide) ?_
          exact q_sub (lv' := [(0, .ref l0), (1, .int l1), (2, .int l3), (3, .int (l3 + (1 : Int32)))]) [2, 3, 1, 0] rfl (kc (l3, (l3 + (1 : Int32)), M18) (someI h))
        · have h := ifF c21 h
          refine q_aload_n 0 C dX9_free_55 rfl ?_
          refine q_iconst (v := (0 : Int32)) C dX9_free_56 (by decide) ?_
          refine q_iload_n 1 C dX9_free_57 rfl ?_
          refine q_iload_n 3 C dX9_free_58 rfl ?_
          obtain ⟨e22, h⟩ := ckOE h
          obtain ⟨v24, e23, h⟩ := bindE h
          refine q_callV (v := some (.int v24)) [.int (0 : Int32), .int l1, .int l3] C hRO lk_RX9_312 vk_X9_tightOf e22 rfl rfl rfl (Nat.le_of_ble_eq_true rfl) (by decide) (by decide) dX9_free_59 (k_X9_tightOf X.1.2.1 hl X.2.2.1 l0 (0 : Int32) l1 l3 M18 _ e23) ?_
          refine q_aload_n 0 C dX9_free_62 rfl ?_
          refine q_iconst (v := (0 : Int32)) C dX9_free_63 (by decide) ?_
          refine q_iload_n 1 C dX9_free_64 rfl ?_
          refine q_iload_n 2 C dX9_free_65 rfl ?_
          obtain ⟨e25, h⟩ := ckOE h
          obtain ⟨v27, e26, h⟩ := bindE h
          refine q_callV (v := some (.int v27)) [.int (0 : Int32), .int l1, .int l2] C hRO lk_RX9_312 vk_X9_tightOf e25 rfl rfl rfl (Nat.le_of_ble_eq_true rfl) (by decide) (by decide) dX9_free_66 (k_X9_tightOf X.1.2.1 hl X.2.2.1 l0 (0 : Int32) l1 l2 M18 _ e26) ?_
          refine q_icmp_ge (tgt := 74) C dX9_free_69 (by decide) (fun c28 => ?_) (fun c28 => ?_)
          · have h := ifT c28 h
            refine q_iinc 3 (v := (l3 + (1 : Int32))) (lv' := [(3, .int (l3 + (1 : Int32))), (0, .ref l0), (1, .int l1), (2, .int l2)]) C dX9_free_74 rfl rfl (by decide) rfl ?_
            refine q_goto (tgt := 19) C dX9_free_77 (by decide) ?_
            exact q_sub (lv' := [(0, .ref l0), (1, .int l1), (2, .int l2), (3, .int (l3 + (1 : Int32)))]) [1, 2, 3, 0] rfl (kc (l2, (l3 + (1 : Int32)), M18) (someI h))
          · have h := ifF c28 h
            refine q_iload_n 3 C dX9_free_72 rfl ?_
            refine q_istore_n (i := 2) (lv' := [(2, .int l3), (0, .ref l0), (1, .int l1), (3, .int l3)]) C dX9_free_73 rfl (by decide) rfl ?_
            refine q_iinc 3 (v := (l3 + (1 : Int32))) (lv' := [(3, .int (l3 + (1 : Int32))), (2, .int l3), (0, .ref l0), (1, .int l1)]) C dX9_free_74 rfl rfl (by decide) rfl ?_
            refine q_goto (tgt := 19) C dX9_free_77 (by decide) ?_
            exact q_sub (lv' := [(0, .ref l0), (1, .int l1), (2, .int l3), (3, .int (l3 + (1 : Int32)))]) [2, 3, 1, 0] rfl (kc (l3, (l3 + (1 : Int32)), M18) (someI h))
theorem w_X9_free_l19 {X : CX} {r : Int32 × Mem} (C : CK X cX9_free 4 RX9 12 256) (hRO : RO X.2.2.1 X.1.2.2.2.2.1 X.1.2.2.2.2.1.heap) (hl : X.1.2.1.stackTraces = false) (l0 : Nat) (l1 : Int32) (l2 : Int32) (l3 : Int32) (M : Mem) (h : loop (fun s => F_X9_free_s19 l0 l1 s.1 s.2.1 s.2.2) (l2, l3, M) = some r) (kx : ∀ e' : Int32 × Mem, r = e' → wq X 4 80 [(2, .int (e'.1))] [] e'.2) : wq X 4 19 [(0, .ref l0), (1, .int l1), (2, .int l2), (3, .int l3)] [] M :=
  loop_ind (P := fun s => wq X 4 19 [(0, .ref l0), (1, .int l1), (2, .int s.1), (3, .int s.2.1)] [] s.2.2) h (fun s y hy kc kr => w_X9_free_s19 C hRO hl l0 l1 s.1 s.2.1 s.2.2 hy kc (fun e' he => kx e' (kr _ he).symm))
set_option maxRecDepth 100000 in
set_option maxHeartbeats 4000000 in
theorem w_X9_free {X : CX} {y : Int32 × Mem} (C : CK X cX9_free 4 RX9 12 256) (hRO : RO X.2.2.1 X.1.2.2.2.2.1 X.1.2.2.2.2.1.heap) (hl : X.1.2.1.stackTraces = false) (l0 : Nat) (l1 : Int32) (M : Mem) (h : F_X9_free l0 l1 M = some y) (kf : FIN X (some .int) (rs_mI y) (ms_mI y)) : wq X 4 0 [(0, .ref l0), (1, .int l1)] [] M := by
  unfold F_X9_free at h
  refine q_aload_n 0 C dX9_free_0 rfl ?_
  refine q_iconst (v := (0 : Int32)) C dX9_free_1 (by decide) ?_
  obtain ⟨M1, e2, h⟩ := bindE h
  refine q_putI C fp_RX9_111 rfl e2 dX9_free_2 ?_
  refine q_aload_n 0 C dX9_free_5 rfl ?_
  refine q_iload_n 1 C dX9_free_6 rfl ?_
  obtain ⟨e3, h⟩ := ckOE h
  obtain ⟨v6, M5, e4, h⟩ := bd2E h
  refine q_callV (v := some (.int v6)) [.int l1] C hRO lk_RX9_379 vk_X9_isPerson e3 rfl rfl rfl (Nat.le_of_ble_eq_true rfl) (by decide) (by decide) dX9_free_7 (k_X9_isPerson X.1.2.1 hl X.2.2.1 l0 l1 M1 _ e4) ?_
  refine q_if_ne (tgt := 15) C dX9_free_10 (by decide) (fun c7 => ?_) (fun c7 => ?_)
  · have h := ifF c7 h
    refine q_iconst (v := (-1 : Int32)) C dX9_free_15 (by decide) ?_
    refine q_istore_n (i := 2) (lv' := [(2, .int (-1 : Int32)), (0, .ref l0), (1, .int l1)]) C dX9_free_16 rfl (by decide) rfl ?_
    refine q_iconst (v := (0 : Int32)) C dX9_free_17 (by decide) ?_
    refine q_istore_n (i := 3) (lv' := [(3, .int (0 : Int32)), (2, .int (-1 : Int32)), (0, .ref l0), (1, .int l1)]) C dX9_free_18 rfl (by decide) rfl ?_
    obtain ⟨⟨x31, M32⟩, e30, h⟩ := bindE h
    refine q_sub (lv' := [(0, .ref l0), (1, .int l1), (2, .int (-1 : Int32)), (3, .int (0 : Int32))]) [2, 3, 1, 0] rfl (w_X9_free_l19 C hRO hl l0 l1 (-1 : Int32) (0 : Int32) M5 e30 (fun r29 he => ?_))
    subst he
    have h := u2E h
    show wq X 4 80 [(2, .int x31)] [] M32
    refine q_iload_n 0 C dX9_free_80 rfl ?_
    cases h
    exact q_iret C kf dX9_free_81
  · have h := ifT c7 h
    refine q_iconst (v := (0 : Int32)) C dX9_free_13 (by decide) ?_
    cases h
    exact q_iret C kf dX9_free_14
theorem k_X9_free (l : Launch) (hl : l.stackTraces = false) (G : GG) (l0 : Nat) (l1 : Int32) (M : Mem) (x : Int32 × Mem) (h : F_X9_free l0 l1 M = some x) : Ct l G yX9_free (.code yX9_free cX9_free 4 (some .int)) 12 256 [.ref l0, .int l1] M (rs_mI x) (ms_mI x) := by
  refine Ct_of (by decide +kernel) (Nat.le_of_ble_eq_true rfl) fun X e1 e2 e3 C FN hnm => ?_
  subst e1; subst e2
  show wq X 4 0 [(0, .ref l0), (1, .int l1)] [] M
  exact w_X9_free C FN.2.2.2 hl l0 l1 M h FN
