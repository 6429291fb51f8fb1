/-! X8_goes -/
set_option maxRecDepth 100000 in
set_option maxHeartbeats 4000000 in
theorem w_X8_goes_s9 {X : CX} {y : (Int32 × Int32 × Mem) ⊕ (Int32 × Mem)} (C : CK X cX8_goes 4 RX8 12 258) (hRO : RO X.2.2.1 X.1.2.2.2.2.1 X.1.2.2.2.2.1.heap) (hl : X.1.2.1.stackTraces = false) (l0 : Nat) (l1 : Int32) (l2 : Int32) (l3 : Int32) (M : Mem) (h : F_X8_goes_s9 l0 l1 l2 l3 M = some y) (kc : ∀ s' : Int32 × Int32 × Mem, y = .inl s' → wq X 4 9 [(0, .ref l0), (1, .int l1), (2, .int (s'.1)), (3, .int (s'.2.1))] [] s'.2.2) (kx : ∀ e' : Int32 × Mem, y = (.inr e') → wq X 4 41 [(2, .int (e'.1))] [] e'.2) : wq X 4 9 [(0, .ref l0), (1, .int l1), (2, .int l2), (3, .int l3)] [] M := by
  unfold F_X8_goes_s9 at h
  refine q_iload_n 3 C dX8_goes_9 rfl ?_
  refine q_aload_n 0 C dX8_goes_10 rfl ?_
  obtain ⟨v5, e6, h⟩ := bindE h
  refine q_getP C fl_RX8_23 rfl e6 dX8_goes_11 ?_
  obtain ⟨v7, e8, h⟩ := bindE h
  refine q_getI C fl_RX8_119 rfl e8 dX8_goes_14 ?_
  refine q_icmp_ge (tgt := 41) C dX8_goes_17 (by decide) (fun c9 => ?_) (fun c9 => ?_)
  · have h := ifT c9 h
    exact q_sub (lv' := [(2, .int l2)]) [2] rfl (kx (l2, M) (someI h))
  · have h := ifF c9 h
    refine q_aload_n 0 C dX8_goes_20 rfl ?_
    refine q_iload_n 1 C dX8_goes_21 rfl ?_
    refine q_iload_n 3 C dX8_goes_22 rfl ?_
    obtain ⟨e10, h⟩ := ckOE h
    obtain ⟨v13, M12, e11, h⟩ := bd2E h
    refine q_callV (v := some (.int v13)) [.int l1, .int l3] C hRO lk_RX8_249 vk_X8_entersNow e10 rfl rfl rfl (Nat.le_of_ble_eq_true rfl) (by decide) (by decide) dX8_goes_23 (k_X8_entersNow X.1.2.1 hl X.2.2.1 l0 l1 l3 M _ e11) ?_
    refine q_if_eq (tgt := 35) C dX8_goes_26 (by decide) (fun c14 => ?_) (fun c14 => ?_)
    · have h := ifT c14 h
      refine q_iinc 3 (v := (l3 + (1 : Int32))) (lv' := [(3, .int (l3 + (1 : Int32))), (0, .ref l0), (1, .int l1), (2, .int l2)]) C dX8_goes_35 rfl rfl (by decide) rfl ?_
      refine q_goto (tgt := 9) C dX8_goes_38 (by decide) ?_
      exact q_sub (lv' := [(0, .ref l0), (1, .int l1), (2, .int l2), (3, .int (l3 + (1 : Int32)))]) [1, 2, 3, 0] rfl (kc (l2, (l3 + (1 : Int32)), M12) (someI h))
    · have h := ifF c14 h
      refine q_iload_n 2 C dX8_goes_29 rfl ?_
      refine q_iconst (v := (1 : Int32)) C dX8_goes_30 (by decide) ?_
      refine q_iload_n 3 C dX8_goes_31 rfl ?_
      refine q_ishl C dX8_goes_32 ?_
      refine q_ior C dX8_goes_33 ?_
      obtain ⟨n15, e16, h⟩ := nmE h
      refine q_topI e16 ?_
      refine q_istore_n (i := 2) (lv' := [(2, .int n15), (0, .ref l0), (1, .int l1), (3, .int l3)]) C dX8_goes_34 rfl (by decide) rfl ?_
      refine q_iinc 3 (v := (l3 + (1 : Int32))) (lv' := [(3, .int (l3 + (1 : Int32))), (2, .int n15), (0, .ref l0), (1, .int l1)]) C dX8_goes_35 rfl rfl (by decide) rfl ?_
      refine q_goto (tgt := 9) C dX8_goes_38 (by decide) ?_
      exact q_sub (lv' := [(0, .ref l0), (1, .int l1), (2, .int n15), (3, .int (l3 + (1 : Int32)))]) [2, 3, 1, 0] rfl (kc (n15, (l3 + (1 : Int32)), M12) (someI h))
theorem w_X8_goes_l9 {X : CX} {r : Int32 × Mem} (C : CK X cX8_goes 4 RX8 12 258) (hRO : RO X.2.2.1 X.1.2.2.2.2.1 X.1.2.2.2.2.1.heap) (hl : X.1.2.1.stackTraces = false) (l0 : Nat) (l1 : Int32) (l2 : Int32) (l3 : Int32) (M : Mem) (h : loop (fun s => F_X8_goes_s9 l0 l1 s.1 s.2.1 s.2.2) (l2, l3, M) = some r) (kx : ∀ e' : Int32 × Mem, r = e' → wq X 4 41 [(2, .int (e'.1))] [] e'.2) : wq X 4 9 [(0, .ref l0), (1, .int l1), (2, .int l2), (3, .int l3)] [] M :=
  loop_ind (P := fun s => wq X 4 9 [(0, .ref l0), (1, .int l1), (2, .int s.1), (3, .int s.2.1)] [] s.2.2) h (fun s y hy kc kr => w_X8_goes_s9 C hRO hl l0 l1 s.1 s.2.1 s.2.2 hy kc (fun e' he => kx e' (kr _ he).symm))
set_option maxRecDepth 100000 in
set_option maxHeartbeats 4000000 in
theorem w_X8_goes {X : CX} {y : (Int32 × Mem) ⊕ (Nat × Mem)} (C : CK X cX8_goes 4 RX8 12 258) (hRO : RO X.2.2.1 X.1.2.2.2.2.1 X.1.2.2.2.2.1.heap) (hl : X.1.2.1.stackTraces = false) (l0 : Nat) (l1 : Int32) (M : Mem) (h : F_X8_goes l0 l1 M = some y) (kf : FIN X (some .int) (rs_tI y) (ms_tI y)) : wq X 4 0 [(0, .ref l0), (1, .int l1)] [] M := by
  unfold F_X8_goes at h
  refine q_aload_n 0 C dX8_goes_0 rfl ?_
  refine q_iload_n 1 C dX8_goes_1 rfl ?_
  obtain ⟨e1, h⟩ := ckOE h
  rcases bdVE h with ⟨M3, e2, h⟩ | ⟨x22, M23, e2, h⟩
  · refine q_callV (v := none) [.int l1] C hRO lk_RX8_223 vk_X8_needPerson e1 rfl rfl rfl (Nat.le_of_ble_eq_true rfl) (by decide) (by decide) dX8_goes_2 (k_X8_needPerson X.1.2.1 hl X.2.2.1 l0 l1 M _ e2) ?_
    refine q_iconst (v := (0 : Int32)) C dX8_goes_5 (by decide) ?_
    refine q_istore_n (i := 2) (lv' := [(2, .int (0 : Int32)), (0, .ref l0), (1, .int l1)]) C dX8_goes_6 rfl (by decide) rfl ?_
    refine q_iconst (v := (0 : Int32)) C dX8_goes_7 (by decide) ?_
    refine q_istore_n (i := 3) (lv' := [(3, .int (0 : Int32)), (2, .int (0 : Int32)), (0, .ref l0), (1, .int l1)]) C dX8_goes_8 rfl (by decide) rfl ?_
    obtain ⟨⟨x19, M20⟩, e18, h⟩ := bindE h
    refine q_sub (lv' := [(0, .ref l0), (1, .int l1), (2, .int (0 : Int32)), (3, .int (0 : Int32))]) [2, 3, 1, 0] rfl (w_X8_goes_l9 C hRO hl l0 l1 (0 : Int32) (0 : Int32) M3 e18 (fun r17 he => ?_))
    subst he
    have h := u2E h
    show wq X 4 41 [(2, .int x19)] [] M20
    refine q_iload_n 0 C dX8_goes_41 rfl ?_
    cases h
    exact q_iret C kf dX8_goes_42
  · skip
    cases h
    exact q_callVX [.int l1] C kf lk_RX8_223 vk_X8_needPerson e1 rfl rfl rfl (Nat.le_of_ble_eq_true rfl) (by decide) (by decide) dX8_goes_2 (k_X8_needPerson X.1.2.1 hl X.2.2.1 l0 l1 M _ e2)
theorem k_X8_goes (l : Launch) (hl : l.stackTraces = false) (G : GG) (l0 : Nat) (l1 : Int32) (M : Mem) (x : (Int32 × Mem) ⊕ (Nat × Mem)) (h : F_X8_goes l0 l1 M = some x) : Ct l G yX8_goes (.code yX8_goes cX8_goes 4 (some .int)) 12 258 [.ref l0, .int l1] M (rs_tI x) (ms_tI x) := by
  refine Ct_of (by decide +kernel) (Nat.le_of_ble_eq_true rfl) fun X e1 e2 e3 C FN hnm => ?_
  subst e1; subst e2
  show wq X 4 0 [(0, .ref l0), (1, .int l1)] [] M
  exact w_X8_goes C FN.2.2.2 hl l0 l1 M h FN
/-! X8_heirs -/
set_option maxRecDepth 100000 in
set_option maxHeartbeats 4000000 in
theorem w_X8_heirs_s9 {X : CX} {y : (Int32 × Int32 × Mem) ⊕ (Int32 × Mem)} (C : CK X cX8_heirs 4 RX8 12 258) (hRO : RO X.2.2.1 X.1.2.2.2.2.1 X.1.2.2.2.2.1.heap) (hl : X.1.2.1.stackTraces = false) (l0 : Nat) (l1 : Int32) (l2 : Int32) (l3 : Int32) (M : Mem) (h : F_X8_heirs_s9 l0 l1 l2 l3 M = some y) (kc : ∀ s' : Int32 × Int32 × Mem, y = .inl s' → wq X 4 9 [(0, .ref l0), (1, .int l1), (2, .int (s'.1)), (3, .int (s'.2.1))] [] s'.2.2) (kx : ∀ e' : Int32 × Mem, y = (.inr e') → wq X 4 41 [(2, .int (e'.1))] [] e'.2) : wq X 4 9 [(0, .ref l0), (1, .int l1), (2, .int l2), (3, .int l3)] [] M := by
  unfold F_X8_heirs_s9 at h
  refine q_iload_n 3 C dX8_heirs_9 rfl ?_
  refine q_aload_n 0 C dX8_heirs_10 rfl ?_
  obtain ⟨v5, e6, h⟩ := bindE h
  refine q_getP C fl_RX8_23 rfl e6 dX8_heirs_11 ?_
  obtain ⟨v7, e8, h⟩ := bindE h
  refine q_getI C fl_RX8_122 rfl e8 dX8_heirs_14 ?_
  refine q_icmp_ge (tgt := 41) C dX8_heirs_17 (by decide) (fun c9 => ?_) (fun c9 => ?_)
  · have h := ifT c9 h
    exact q_sub (lv' := [(2, .int l2)]) [2] rfl (kx (l2, M) (someI h))
  · have h := ifF c9 h
    refine q_aload_n 0 C dX8_heirs_20 rfl ?_
    refine q_iload_n 3 C dX8_heirs_21 rfl ?_
    refine q_iload_n 1 C dX8_heirs_22 rfl ?_
    obtain ⟨e10, h⟩ := ckOE h
    obtain ⟨v13, M12, e11, h⟩ := bd2E h
    refine q_callV (v := some (.int v13)) [.int l3, .int l1] C hRO lk_RX8_249 vk_X8_entersNow e10 rfl rfl rfl (Nat.le_of_ble_eq_true rfl) (by decide) (by decide) dX8_heirs_23 (k_X8_entersNow X.1.2.1 hl X.2.2.1 l0 l3 l1 M _ e11) ?_
    refine q_if_eq (tgt := 35) C dX8_heirs_26 (by decide) (fun c14 => ?_) (fun c14 => ?_)
    · have h := ifT c14 h
      refine q_iinc 3 (v := (l3 + (1 : Int32))) (lv' := [(3, .int (l3 + (1 : Int32))), (0, .ref l0), (1, .int l1), (2, .int l2)]) C dX8_heirs_35 rfl rfl (by decide) rfl ?_
      refine q_goto (tgt := 9) C dX8_heirs_38 (by decide) ?_
      exact q_sub (lv' := [(0, .ref l0), (1, .int l1), (2, .int l2), (3, .int (l3 + (1 : Int32)))]) [1, 2, 3, 0] rfl (kc (l2, (l3 + (1 : Int32)), M12) (someI h))
    · have h := ifF c14 h
      refine q_iload_n 2 C dX8_heirs_29 rfl ?_
      refine q_iconst (v := (1 : Int32)) C dX8_heirs_30 (by decide) ?_
      refine q_iload_n 3 C dX8_heirs_31 rfl ?_
      refine q_ishl C dX8_heirs_32 ?_
      refine q_ior C dX8_heirs_33 ?_
      obtain ⟨n15, e16, h⟩ := nmE h
      refine q_topI e16 ?_
      refine q_istore_n (i := 2) (lv' := [(2, .int n15), (0, .ref l0), (1, .int l1), (3, .int l3)]) C dX8_heirs_34 rfl (by decide) rfl ?_
      refine q_iinc 3 (v := (l3 + (1 : Int32))) (lv' := [(3, .int (l3 + (1 : Int32))), (2, .int n15), (0, .ref l0), (1, .int l1)]) C dX8_heirs_35 rfl rfl (by decide) rfl ?_
      refine q_goto (tgt := 9) C dX8_heirs_38 (by decide) ?_
      exact q_sub (lv' := [(0, .ref l0), (1, .int l1), (2, .int n15), (3, .int (l3 + (1 : Int32)))]) [2, 3, 1, 0] rfl (kc (n15, (l3 + (1 : Int32)), M12) (someI h))
theorem w_X8_heirs_l9 {X : CX} {r : Int32 × Mem} (C : CK X cX8_heirs 4 RX8 12 258) (hRO : RO X.2.2.1 X.1.2.2.2.2.1 X.1.2.2.2.2.1.heap) (hl : X.1.2.1.stackTraces = false) (l0 : Nat) (l1 : Int32) (l2 : Int32) (l3 : Int32) (M : Mem) (h : loop (fun s => F_X8_heirs_s9 l0 l1 s.1 s.2.1 s.2.2) (l2, l3, M) = some r) (kx : ∀ e' : Int32 × Mem, r = e' → wq X 4 41 [(2, .int (e'.1))] [] e'.2) : wq X 4 9 [(0, .ref l0), (1, .int l1), (2, .int l2), (3, .int l3)] [] M :=
  loop_ind (P := fun s => wq X 4 9 [(0, .ref l0), (1, .int l1), (2, .int s.1), (3, .int s.2.1)] [] s.2.2) h (fun s y hy kc kr => w_X8_heirs_s9 C hRO hl l0 l1 s.1 s.2.1 s.2.2 hy kc (fun e' he => kx e' (kr _ he).symm))
set_option maxRecDepth 100000 in
set_option maxHeartbeats 4000000 in
theorem w_X8_heirs {X : CX} {y : (Int32 × Mem) ⊕ (Nat × Mem)} (C : CK X cX8_heirs 4 RX8 12 258) (hRO : RO X.2.2.1 X.1.2.2.2.2.1 X.1.2.2.2.2.1.heap) (hl : X.1.2.1.stackTraces = false) (l0 : Nat) (l1 : Int32) (M : Mem) (h : F_X8_heirs l0 l1 M = some y) (kf : FIN X (some .int) (rs_tI y) (ms_tI y)) : wq X 4 0 [(0, .ref l0), (1, .int l1)] [] M := by
  unfold F_X8_heirs at h
  refine q_aload_n 0 C dX8_heirs_0 rfl ?_
  refine q_iload_n 1 C dX8_heirs_1 rfl ?_
  obtain ⟨e1, h⟩ := ckOE h
  rcases bdVE h with ⟨M3, e2, h⟩ | ⟨x22, M23, e2, h⟩
  · refine q_callV (v := none) [.int l1] C hRO lk_RX8_186 vk_X8_needHouse e1 rfl rfl rfl (Nat.le_of_ble_eq_true rfl) (by decide) (by decide) dX8_heirs_2 (k_X8_needHouse X.1.2.1 hl X.2.2.1 l0 l1 M _ e2) ?_
    refine q_iconst (v := (0 : Int32)) C dX8_heirs_5 (by decide) ?_
    refine q_istore_n (i := 2) (lv' := [(2, .int (0 : Int32)), (0, .ref l0), (1, .int l1)]) C dX8_heirs_6 rfl (by decide) rfl ?_
    refine q_iconst (v := (0 : Int32)) C dX8_heirs_7 (by decide) ?_
    refine q_istore_n (i := 3) (lv' := [(3, .int (0 : Int32)), (2, .int (0 : Int32)), (0, .ref l0), (1, .int l1)]) C dX8_heirs_8 rfl (by decide) rfl ?_
    obtain ⟨⟨x19, M20⟩, e18, h⟩ := bindE h
    refine q_sub (lv' := [(0, .ref l0), (1, .int l1), (2, .int (0 : Int32)), (3, .int (0 : Int32))]) [2, 3, 1, 0] rfl (w_X8_heirs_l9 C hRO hl l0 l1 (0 : Int32) (0 : Int32) M3 e18 (fun r17 he => ?_))
    subst he
    have h := u2E h
    show wq X 4 41 [(2, .int x19)] [] M20
    refine q_iload_n 0 C dX8_heirs_41 rfl ?_
    cases h
    exact q_iret C kf dX8_heirs_42
  · skip
    cases h
    exact q_callVX [.int l1] C kf lk_RX8_186 vk_X8_needHouse e1 rfl rfl rfl (Nat.le_of_ble_eq_true rfl) (by decide) (by decide) dX8_heirs_2 (k_X8_needHouse X.1.2.1 hl X.2.2.1 l0 l1 M _ e2)
theorem k_X8_heirs (l : Launch) (hl : l.stackTraces = false) (G : GG) (l0 : Nat) (l1 : Int32) (M : Mem) (x : (Int32 × Mem) ⊕ (Nat × Mem)) (h : F_X8_heirs l0 l1 M = some x) : Ct l G yX8_heirs (.code yX8_heirs cX8_heirs 4 (some .int)) 12 258 [.ref l0, .int l1] M (rs_tI x) (ms_tI x) := by
  refine Ct_of (by decide +kernel) (Nat.le_of_ble_eq_true rfl) fun X e1 e2 e3 C FN hnm => ?_
  subst e1; subst e2
  show wq X 4 0 [(0, .ref l0), (1, .int l1)] [] M
  exact w_X8_heirs C FN.2.2.2 hl l0 l1 M h FN
/-! X8_nextDoor -/
set_option maxRecDepth 100000 in
set_option maxHeartbeats 4000000 in
theorem w_X8_nextDoor_s8 {X : CX} {y : (Int32 × Int32 × Int32) ⊕ (Int32)} (C : CK X cX8_nextDoor 6 RX8 7 140) (hRO : RO X.2.2.1 X.1.2.2.2.2.1 X.1.2.2.2.2.1.heap) (hl : X.1.2.1.stackTraces = false) (l0 : Nat) (l1 : Int32) (M : Mem) (l2 : Int32) (l3 : Int32) (l4 : Int32) (h : F_X8_nextDoor_s8 l0 l1 M l2 l3 l4 = some y) (kc : ∀ s' : Int32 × Int32 × Int32, y = .inl s' → wq X 6 8 [(0, .ref l0), (1, .int l1), (2, .int (s'.1)), (3, .int (s'.2.1)), (4, .int (s'.2.2))] [] M) (kx : ∀ e' : Int32, y = (.inr e') → wq X 6 69 [(2, .int (e'))] [] M) : wq X 6 8 [(0, .ref l0), (1, .int l1), (2, .int l2), (3, .int l3), (4, .int l4)] [] M := by
  unfold F_X8_nextDoor_s8 at h
  refine q_iload 4 C dX8_nextDoor_8 rfl ?_
  refine q_aload_n 0 C dX8_nextDoor_10 rfl ?_
  obtain ⟨v1, e2, h⟩ := bindE h
  refine q_getP C fl_RX8_23 rfl e2 dX8_nextDoor_11 ?_
  obtain ⟨v3, e4, h⟩ := bindE h
  refine q_getI C fl_RX8_119 rfl e4 dX8_nextDoor_14 ?_
  refine q_icmp_ge (tgt := 69) C dX8_nextDoor_17 (by decide) (fun c5 => ?_) (fun c5 => ?_)
  · have h := ifT c5 h
    exact q_sub (lv' := [(2, .int l2)]) [2] rfl (kx l2 (someI h))
  · have h := ifF c5 h
    refine q_aload_n 0 C dX8_nextDoor_20 rfl ?_
    obtain ⟨v6, e7, h⟩ := bindE h
    refine q_getP C fl_RX8_23 rfl e7 dX8_nextDoor_21 ?_
    obtain ⟨v8, e9, h⟩ := bindE h
    refine q_getP C fl_RX8_195 rfl e9 dX8_nextDoor_24 ?_
    refine q_iload 4 C dX8_nextDoor_27 rfl ?_
    obtain ⟨v10, e11, h⟩ := bindE h
    refine q_iaload C e11 dX8_nextDoor_29 ?_
    refine q_aload_n 0 C dX8_nextDoor_30 rfl ?_
    obtain ⟨v12, e13, h⟩ := bindE h
    refine q_getP C fl_RX8_23 rfl e13 dX8_nextDoor_31 ?_
    obtain ⟨v14, e15, h⟩ := bindE h
    refine q_getP C fl_RX8_195 rfl e15 dX8_nextDoor_34 ?_
    refine q_iload_n 1 C dX8_nextDoor_37 rfl ?_
    obtain ⟨v16, e17, h⟩ := bindE h
    refine q_iaload C e17 dX8_nextDoor_38 ?_
    refine q_isub C dX8_nextDoor_39 ?_
    refine q_mabs C ml_RX8_220 mm_abs1 mm_3 mm_abs4 (by decide) (Nat.le_of_ble_eq_true rfl) dX8_nextDoor_40 ?_
    refine q_istore (i := 5) (lv' := [(5, .int (abI (v10 - v16))), (0, .ref l0), (1, .int l1), (2, .int l2), (3, .int l3), (4, .int l4)]) C dX8_nextDoor_43 (by decide) rfl ?_
    refine q_iload 5 C dX8_nextDoor_45 rfl ?_
    refine q_iload_n 2 C dX8_nextDoor_47 rfl ?_
    refine q_icmp_eq (tgt := 63) C dX8_nextDoor_48 (by decide) (fun c18 => ?_) (fun c18 => ?_)
    · have h := ifT c18 h
      refine q_iinc 5 (v := (l4 + (1 : Int32))) (lv' := [(4, .int (l4 + (1 : Int32))), (5, .int (abI (v10 - v16))), (0, .ref l0), (1, .int l1), (2, .int l2), (3, .int l3)]) C dX8_nextDoor_63 rfl rfl (by decide) rfl ?_
      refine q_goto (tgt := 8) C dX8_nextDoor_66 (by decide) ?_
      exact q_sub (lv' := [(0, .ref l0), (1, .int l1), (2, .int l2), (3, .int l3), (4, .int (l4 + (1 : Int32)))]) [2, 3, 4, 5, 0] rfl (kc (l2, l3, (l4 + (1 : Int32))) (someI h))
    · have h := ifF c18 h
      refine q_iload 0 C dX8_nextDoor_51 rfl ?_
      refine q_iload_n 4 C dX8_nextDoor_53 rfl ?_
      refine q_icmp_ge (tgt := 63) C dX8_nextDoor_54 (by decide) (fun c19 => ?_) (fun c19 => ?_)
      · have h := ifT c19 h
        refine q_iinc 5 (v := (l4 + (1 : Int32))) (lv' := [(4, .int (l4 + (1 : Int32))), (5, .int (abI (v10 - v16))), (0, .ref l0), (1, .int l1), (2, .int l2), (3, .int l3)]) C dX8_nextDoor_63 rfl rfl (by decide) rfl ?_
        refine q_goto (tgt := 8) C dX8_nextDoor_66 (by decide) ?_
        exact q_sub (lv' := [(0, .ref l0), (1, .int l1), (2, .int l2), (3, .int l3), (4, .int (l4 + (1 : Int32)))]) [2, 3, 4, 5, 0] rfl (kc (l2, l3, (l4 + (1 : Int32))) (someI h))
      · have h := ifF c19 h
        refine q_iload 0 C dX8_nextDoor_57 rfl ?_
        refine q_istore_n (i := 3) (lv' := [(3, .int (abI (v10 - v16))), (5, .int (abI (v10 - v16))), (0, .ref l0), (1, .int l1), (2, .int l2), (4, .int l4)]) C dX8_nextDoor_59 rfl (by decide) rfl ?_
        refine q_iload 5 C dX8_nextDoor_60 rfl ?_
        refine q_istore_n (i := 2) (lv' := [(2, .int l4), (3, .int (abI (v10 - v16))), (5, .int (abI (v10 - v16))), (0, .ref l0), (1, .int l1), (4, .int l4)]) C dX8_nextDoor_62 rfl (by decide) rfl ?_
        refine q_iinc 5 (v := (l4 + (1 : Int32))) (lv' := [(4, .int (l4 + (1 : Int32))), (2, .int l4), (3, .int (abI (v10 - v16))), (5, .int (abI (v10 - v16))), (0, .ref l0), (1, .int l1)]) C dX8_nextDoor_63 rfl rfl (by decide) rfl ?_
        refine q_goto (tgt := 8) C dX8_nextDoor_66 (by decide) ?_
        exact q_sub (lv' := [(0, .ref l0), (1, .int l1), (2, .int l4), (3, .int (abI (v10 - v16))), (4, .int (l4 + (1 : Int32)))]) [4, 5, 1, 2, 0] rfl (kc (l4, (abI (v10 - v16)), (l4 + (1 : Int32))) (someI h))
theorem w_X8_nextDoor_l8 {X : CX} {r : Int32} (C : CK X cX8_nextDoor 6 RX8 7 140) (hRO : RO X.2.2.1 X.1.2.2.2.2.1 X.1.2.2.2.2.1.heap) (hl : X.1.2.1.stackTraces = false) (l0 : Nat) (l1 : Int32) (M : Mem) (l2 : Int32) (l3 : Int32) (l4 : Int32) (h : loop (fun s => F_X8_nextDoor_s8 l0 l1 M s.1 s.2.1 s.2.2) (l2, l3, l4) = some r) (kx : ∀ e' : Int32, r = e' → wq X 6 69 [(2, .int (e'))] [] M) : wq X 6 8 [(0, .ref l0), (1, .int l1), (2, .int l2), (3, .int l3), (4, .int l4)] [] M :=
  loop_ind (P := fun s => wq X 6 8 [(0, .ref l0), (1, .int l1), (2, .int s.1), (3, .int s.2.1), (4, .int s.2.2)] [] M) h (fun s y hy kc kr => w_X8_nextDoor_s8 C hRO hl l0 l1 M s.1 s.2.1 s.2.2 hy kc (fun e' he => kx e' (kr _ he).symm))
set_option maxRecDepth 100000 in
set_option maxHeartbeats 4000000 in
theorem w_X8_nextDoor {X : CX} {y : Int32} (C : CK X cX8_nextDoor 6 RX8 7 140) (hRO : RO X.2.2.1 X.1.2.2.2.2.1 X.1.2.2.2.2.1.heap) (hl : X.1.2.1.stackTraces = false) (l0 : Nat) (l1 : Int32) (M : Mem) (h : F_X8_nextDoor l0 l1 M = some y) (kf : FIN X (some .int) (rs_pI y) M) : wq X 6 0 [(0, .ref l0), (1, .int l1)] [] M := by
  unfold F_X8_nextDoor at h
  refine q_iconst (v := (-1 : Int32)) C dX8_nextDoor_0 (by decide) ?_
  refine q_istore_n (i := 2) (lv' := [(2, .int (-1 : Int32)), (0, .ref l0), (1, .int l1)]) C dX8_nextDoor_1 rfl (by decide) rfl ?_
  refine q_bipush (v := (31 : Int32)) C dX8_nextDoor_2 (by decide) ?_
  refine q_istore_n (i := 3) (lv' := [(3, .int (31 : Int32)), (2, .int (-1 : Int32)), (0, .ref l0), (1, .int l1)]) C dX8_nextDoor_4 rfl (by decide) rfl ?_
  refine q_iconst (v := (0 : Int32)) C dX8_nextDoor_5 (by decide) ?_
  refine q_istore (i := 4) (lv' := [(4, .int (0 : Int32)), (3, .int (31 : Int32)), (2, .int (-1 : Int32)), (0, .ref l0), (1, .int l1)]) C dX8_nextDoor_6 (by decide) rfl ?_
  obtain ⟨x22, e21, h⟩ := bindE h
  refine q_sub (lv' := [(0, .ref l0), (1, .int l1), (2, .int (-1 : Int32)), (3, .int (31 : Int32)), (4, .int (0 : Int32))]) [3, 4, 2, 1, 0] rfl (w_X8_nextDoor_l8 C hRO hl l0 l1 M (-1 : Int32) (31 : Int32) (0 : Int32) e21 (fun r20 he => ?_))
  subst he
  show wq X 6 69 [(2, .int x22)] [] M
  refine q_iload_n 0 C dX8_nextDoor_69 rfl ?_
  cases h
  exact q_iret C kf dX8_nextDoor_70
theorem k_X8_nextDoor (l : Launch) (hl : l.stackTraces = false) (G : GG) (l0 : Nat) (l1 : Int32) (M : Mem) (x : Int32) (h : F_X8_nextDoor l0 l1 M = some x) : Ct l G yX8_nextDoor (.code yX8_nextDoor cX8_nextDoor 6 (some .int)) 7 140 [.ref l0, .int l1] M (rs_pI x) M := by
  refine Ct_of (by decide +kernel) (Nat.le_of_ble_eq_true rfl) fun X e1 e2 e3 C FN hnm => ?_
  subst e1; subst e2
  show wq X 6 0 [(0, .ref l0), (1, .int l1)] [] M
  exact w_X8_nextDoor C FN.2.2.2 hl l0 l1 M h FN
/-! X8_room -/
set_option maxRecDepth 100000 in
set_option maxHeartbeats 4000000 in
theorem w_X8_room {X : CX} {y : Int32} (C : CK X cX8_room 3 RX8 7 140) (hRO : RO X.2.2.1 X.1.2.2.2.2.1 X.1.2.2.2.2.1.heap) (hl : X.1.2.1.stackTraces = false) (l0 : Nat) (l1 : Int32) (M : Mem) (h : F_X8_room l0 l1 M = some y) (kf : FIN X (some .int) (rs_pI y) M) : wq X 3 0 [(0, .ref l0), (1, .int l1)] [] M := by
  unfold F_X8_room at h
  refine q_aload_n 0 C dX8_room_0 rfl ?_
  obtain ⟨v1, e2, h⟩ := bindE h
  refine q_getP C fl_RX8_33 rfl e2 dX8_room_1 ?_
  obtain ⟨v3, e4, h⟩ := bindE h
  refine q_getP C fl_RX8_159 rfl e4 dX8_room_4 ?_
  refine q_iload_n 1 C dX8_room_7 rfl ?_
  obtain ⟨v5, e6, h⟩ := bindE h
  refine q_iaload C e6 dX8_room_8 ?_
  refine q_istore_n (i := 2) (lv' := [(2, .int v5), (0, .ref l0), (1, .int l1)]) C dX8_room_9 rfl (by decide) rfl ?_
  refine q_iload_n 0 C dX8_room_10 rfl ?_
  refine q_iconst (v := (-1 : Int32)) C dX8_room_11 (by decide) ?_
  refine q_icmp_ne (tgt := 19) C dX8_room_12 (by decide) (fun c7 => ?_) (fun c7 => ?_)
  · have h := ifF c7 h
    refine q_iconst (v := (0 : Int32)) C dX8_room_19 (by decide) ?_
    refine q_aload_n 1 C dX8_room_20 rfl ?_
    obtain ⟨v8, e9, h⟩ := bindE h
    refine q_getP C fl_RX8_33 rfl e9 dX8_room_21 ?_
    obtain ⟨v10, e11, h⟩ := bindE h
    refine q_getP C fl_RX8_189 rfl e11 dX8_room_24 ?_
    refine q_iload_n 2 C dX8_room_27 rfl ?_
    obtain ⟨v12, e13, h⟩ := bindE h
    refine q_iaload C e13 dX8_room_28 ?_
    refine q_aload_n 1 C dX8_room_29 rfl ?_
    obtain ⟨v14, e15, h⟩ := bindE h
    refine q_getP C fl_RX8_33 rfl e15 dX8_room_30 ?_
    obtain ⟨v16, e17, h⟩ := bindE h
    refine q_getP C fl_RX8_212 rfl e17 dX8_room_33 ?_
    refine q_iload_n 0 C dX8_room_36 rfl ?_
    obtain ⟨v18, e19, h⟩ := bindE h
    refine q_iaload C e19 dX8_room_37 ?_
    refine q_isub C dX8_room_38 ?_
    refine q_mmax C ml_RX8_215 mm_max1 mm_3 mm_max4 (by decide) (Nat.le_of_ble_eq_true rfl) dX8_room_39 ?_
    cases h
    exact q_iret C kf dX8_room_42
  · have h := ifT c7 h
    refine q_iconst (v := (0 : Int32)) C dX8_room_15 (by decide) ?_
    refine q_goto (tgt := 42) C dX8_room_16 (by decide) ?_
    cases h
    exact q_iret C kf dX8_room_42
theorem k_X8_room (l : Launch) (hl : l.stackTraces = false) (G : GG) (l0 : Nat) (l1 : Int32) (M : Mem) (x : Int32) (h : F_X8_room l0 l1 M = some x) : Ct l G yX8_room (.code yX8_room cX8_room 3 (some .int)) 7 140 [.ref l0, .int l1] M (rs_pI x) M := by
  refine Ct_of (by decide +kernel) (Nat.le_of_ble_eq_true rfl) fun X e1 e2 e3 C FN hnm => ?_
  subst e1; subst e2
  show wq X 3 0 [(0, .ref l0), (1, .int l1)] [] M
  exact w_X8_room C FN.2.2.2 hl l0 l1 M h FN
/-! X8_house -/
set_option maxRecDepth 100000 in
set_option maxHeartbeats 4000000 in
theorem w_X8_house {X : CX} {y : (Int32 × Mem) ⊕ (Nat × Mem)} (C : CK X cX8_house 3 RX8 8 165) (hRO : RO X.2.2.1 X.1.2.2.2.2.1 X.1.2.2.2.2.1.heap) (hl : X.1.2.1.stackTraces = false) (l0 : Nat) (l1 : Int32) (l2 : Int32) (M : Mem) (h : F_X8_house l0 l1 l2 M = some y) (kf : FIN X (some .int) (rs_tI y) (ms_tI y)) : wq X 3 0 [(0, .ref l0), (1, .int l1), (2, .int l2)] [] M := by
  unfold F_X8_house at h
  refine q_aload_n 0 C dX8_house_0 rfl ?_
  refine q_iload_n 1 C dX8_house_1 rfl ?_
  obtain ⟨e1, h⟩ := ckOE h
  rcases bdVE h with ⟨M3, e2, h⟩ | ⟨x57, M58, e2, h⟩
  · refine q_callV (v := none) [.int l1] C hRO lk_RX8_186 vk_X8_needHouse e1 rfl rfl rfl (Nat.le_of_ble_eq_true rfl) (by decide) (by decide) dX8_house_2 (k_X8_needHouse X.1.2.1 hl X.2.2.1 l0 l1 M _ e2) ?_
    refine q_iload_n 2 C dX8_house_5 rfl ?_
    by_cases c5 : l2 = (0 : Int32)
    · have h := ifT c5 h
      refine q_tableIn (off := 46) (tgt := 52) C dX8_house_6 (by rw [c5]; decide) (by rw [c5]; decide) (by rw [c5]; rfl) (by decide) ?_
      refine q_aload_n 0 C dX8_house_52 rfl ?_
      obtain ⟨v6, e7, h⟩ := bindE h
      refine q_getP C fl_RX8_33 rfl e7 dX8_house_53 ?_
      obtain ⟨v8, e9, h⟩ := bindE h
      refine q_getP C fl_RX8_189 rfl e9 dX8_house_56 ?_
      refine q_iload_n 1 C dX8_house_59 rfl ?_
      obtain ⟨v10, e11, h⟩ := bindE h
      refine q_iaload C e11 dX8_house_60 ?_
      cases h
      exact q_iret C kf dX8_house_61
    have h := ifF c5 h
    by_cases c12 : l2 = (1 : Int32)
    · have h := ifT c12 h
      refine q_tableIn (off := 56) (tgt := 62) C dX8_house_6 (by rw [c12]; decide) (by rw [c12]; decide) (by rw [c12]; rfl) (by decide) ?_
      refine q_aload_n 0 C dX8_house_62 rfl ?_
      obtain ⟨v13, e14, h⟩ := bindE h
      refine q_getP C fl_RX8_23 rfl e14 dX8_house_63 ?_
      obtain ⟨v15, e16, h⟩ := bindE h
      refine q_getP C fl_RX8_192 rfl e16 dX8_house_66 ?_
      refine q_iload_n 1 C dX8_house_69 rfl ?_
      obtain ⟨v17, e18, h⟩ := bindE h
      refine q_iaload C e18 dX8_house_70 ?_
      cases h
      exact q_iret C kf dX8_house_71
    have h := ifF c12 h
    by_cases c19 : l2 = (2 : Int32)
    · have h := ifT c19 h
      refine q_tableIn (off := 66) (tgt := 72) C dX8_house_6 (by rw [c19]; decide) (by rw [c19]; decide) (by rw [c19]; rfl) (by decide) ?_
      refine q_aload_n 0 C dX8_house_72 rfl ?_
      obtain ⟨v20, e21, h⟩ := bindE h
      refine q_getP C fl_RX8_23 rfl e21 dX8_house_73 ?_
      obtain ⟨v22, e23, h⟩ := bindE h
      refine q_getP C fl_RX8_195 rfl e23 dX8_house_76 ?_
      refine q_iload_n 1 C dX8_house_79 rfl ?_
      obtain ⟨v24, e25, h⟩ := bindE h
      refine q_iaload C e25 dX8_house_80 ?_
      cases h
      exact q_iret C kf dX8_house_81
    have h := ifF c19 h
    by_cases c26 : l2 = (3 : Int32)
    · have h := ifT c26 h
      refine q_tableIn (off := 76) (tgt := 82) C dX8_house_6 (by rw [c26]; decide) (by rw [c26]; decide) (by rw [c26]; rfl) (by decide) ?_
      refine q_aload_n 0 C dX8_house_82 rfl ?_
      obtain ⟨v27, e28, h⟩ := bindE h
      refine q_getP C fl_RX8_33 rfl e28 dX8_house_83 ?_
      obtain ⟨v29, e30, h⟩ := bindE h
      refine q_getP C fl_RX8_197 rfl e30 dX8_house_86 ?_
      refine q_iload_n 1 C dX8_house_89 rfl ?_
      obtain ⟨v31, e32, h⟩ := bindE h
      refine q_iaload C e32 dX8_house_90 ?_
      cases h
      exact q_iret C kf dX8_house_91
    have h := ifF c26 h
    by_cases c33 : l2 = (4 : Int32)
    · have h := ifT c33 h
      refine q_tableIn (off := 86) (tgt := 92) C dX8_house_6 (by rw [c33]; decide) (by rw [c33]; decide) (by rw [c33]; rfl) (by decide) ?_
      refine q_aload_n 0 C dX8_house_92 rfl ?_
      obtain ⟨v34, e35, h⟩ := bindE h
      refine q_getP C fl_RX8_33 rfl e35 dX8_house_93 ?_
      obtain ⟨v36, e37, h⟩ := bindE h
      refine q_getP C fl_RX8_159 rfl e37 dX8_house_96 ?_
      refine q_iload_n 1 C dX8_house_99 rfl ?_
      obtain ⟨v38, e39, h⟩ := bindE h
      refine q_iaload C e39 dX8_house_100 ?_
      cases h
      exact q_iret C kf dX8_house_101
    have h := ifF c33 h
    by_cases c40 : l2 = (5 : Int32)
    · have h := ifT c40 h
      refine q_tableIn (off := 96) (tgt := 102) C dX8_house_6 (by rw [c40]; decide) (by rw [c40]; decide) (by rw [c40]; rfl) (by decide) ?_
      refine q_aload_n 0 C dX8_house_102 rfl ?_
      obtain ⟨v41, e42, h⟩ := bindE h
      refine q_getP C fl_RX8_33 rfl e42 dX8_house_103 ?_
      refine q_iload_n 1 C dX8_house_106 rfl ?_
      obtain ⟨e43, h⟩ := ckOE h
      obtain ⟨v45, e44, h⟩ := bindE h
      refine q_callV (v := some (.int v45)) [.int l1] C hRO lk_RX8_200 vk_X6_isBurst e43 rfl rfl rfl (Nat.le_of_ble_eq_true rfl) (by decide) (by decide) dX8_house_107 (k_X6_isBurst X.1.2.1 hl X.2.2.1 v41 l1 M3 _ e44) ?_
      refine q_if_eq (tgt := 117) C dX8_house_110 (by decide) (fun c46 => ?_) (fun c46 => ?_)
      · have h := ifT c46 h
        refine q_iconst (v := (0 : Int32)) C dX8_house_117 (by decide) ?_
        cases h
        exact q_iret C kf dX8_house_118
      · have h := ifF c46 h
        refine q_iconst (v := (1 : Int32)) C dX8_house_113 (by decide) ?_
        refine q_goto (tgt := 118) C dX8_house_114 (by decide) ?_
        cases h
        exact q_iret C kf dX8_house_118
    have h := ifF c40 h
    by_cases c47 : l2 = (6 : Int32)
    · have h := ifT c47 h
      refine q_tableIn (off := 113) (tgt := 119) C dX8_house_6 (by rw [c47]; decide) (by rw [c47]; decide) (by rw [c47]; rfl) (by decide) ?_
      refine q_aload_n 0 C dX8_house_119 rfl ?_
      refine q_iload_n 1 C dX8_house_120 rfl ?_
      obtain ⟨e48, h⟩ := ckOE h
      obtain ⟨v50, e49, h⟩ := bindE h
      refine q_callV (v := some (.int v50)) [.int l1] C hRO lk_RX8_204 vk_X8_room e48 rfl rfl rfl (Nat.le_of_ble_eq_true rfl) (by decide) (by decide) dX8_house_121 (k_X8_room X.1.2.1 hl X.2.2.1 l0 l1 M3 _ e49) ?_
      cases h
      exact q_iret C kf dX8_house_124
    have h := ifF c47 h
    by_cases c51 : l2 = (7 : Int32)
    · have h := ifT c51 h
      refine q_tableIn (off := 119) (tgt := 125) C dX8_house_6 (by rw [c51]; decide) (by rw [c51]; decide) (by rw [c51]; rfl) (by decide) ?_
      refine q_aload_n 0 C dX8_house_125 rfl ?_
      refine q_iload_n 1 C dX8_house_126 rfl ?_
      obtain ⟨e52, h⟩ := ckOE h
      obtain ⟨v54, e53, h⟩ := bindE h
      refine q_callV (v := some (.int v54)) [.int l1] C hRO lk_RX8_207 vk_X8_nextDoor e52 rfl rfl rfl (Nat.le_of_ble_eq_true rfl) (by decide) (by decide) dX8_house_127 (k_X8_nextDoor X.1.2.1 hl X.2.2.1 l0 l1 M3 _ e53) ?_
      cases h
      exact q_iret C kf dX8_house_130
    have h := ifF c51 h
    refine q_tableOut (tgt := 131) C dX8_house_6 (by have z0 := neI c5; have z1 := neI c12; have z2 := neI c19; have z3 := neI c26; have z4 := neI c33; have z5 := neI c40; have z6 := neI c47; have z7 := neI c51; simp only [Int32.reduceToInt] at *; omega) (by decide) ?_
    obtain ⟨M55, e56, h⟩ := bindE h
    cases h
    exact q_throwN (e0 := 1) (i := 18) C kf hl (by decide) cl_RX8_154 in_ex1 rfl at_RX8_158 gd_RX8_158 e56 dX8_house_131 dX8_house_134 dX8_house_135 dX8_house_137 dX8_house_140 (by decide) (Nat.le_of_ble_eq_true rfl)
  · skip
    cases h
    exact q_callVX [.int l1] C kf lk_RX8_186 vk_X8_needHouse e1 rfl rfl rfl (Nat.le_of_ble_eq_true rfl) (by decide) (by decide) dX8_house_2 (k_X8_needHouse X.1.2.1 hl X.2.2.1 l0 l1 M _ e2)
theorem k_X8_house (l : Launch) (hl : l.stackTraces = false) (G : GG) (l0 : Nat) (l1 : Int32) (l2 : Int32) (M : Mem) (x : (Int32 × Mem) ⊕ (Nat × Mem)) (h : F_X8_house l0 l1 l2 M = some x) : Ct l G yX8_house (.code yX8_house cX8_house 3 (some .int)) 8 165 [.ref l0, .int l1, .int l2] M (rs_tI x) (ms_tI x) := by
  refine Ct_of (by decide +kernel) (Nat.le_of_ble_eq_true rfl) fun X e1 e2 e3 C FN hnm => ?_
  subst e1; subst e2
  show wq X 3 0 [(0, .ref l0), (1, .int l1), (2, .int l2)] [] M
  exact w_X8_house C FN.2.2.2 hl l0 l1 l2 M h FN
/-! X8_image -/
set_option maxRecDepth 100000 in
set_option maxHeartbeats 4000000 in
theorem w_X8_image {X : CX} {y : Mem} (C : CK X cX8_image 1 RX8 11 227) (hRO : RO X.2.2.1 X.1.2.2.2.2.1 X.1.2.2.2.2.1.heap) (hl : X.1.2.1.stackTraces = false) (l0 : Nat) (M : Mem) (h : F_X8_image l0 M = some y) (kf : FIN X none (rs_mV y) (ms_mV y)) : wq X 1 0 [(0, .ref l0)] [] M := by
  unfold F_X8_image at h
  refine q_aload_n 0 C dX8_image_0 rfl ?_
  obtain ⟨v1, e2, h⟩ := bindE h
  refine q_getP C fl_RX8_58 rfl e2 dX8_image_1 ?_
  refine q_aload_n 0 C dX8_image_4 rfl ?_
  obtain ⟨v3, e4, h⟩ := bindE h
  refine q_getP C fl_RX8_33 rfl e4 dX8_image_5 ?_
  obtain ⟨e5, h⟩ := ckOE h
  obtain ⟨M7, e6, h⟩ := bindE h
  refine q_callV (v := none) [.ref v3] C hRO lk_RX8_274 vk_X6_copy e5 rfl rfl rfl (Nat.le_of_ble_eq_true rfl) (by decide) (by decide) dX8_image_8 (k_X6_copy X.1.2.1 hl X.2.2.1 v1 v3 M _ e6) ?_
  refine q_aload_n 0 C dX8_image_11 rfl ?_
  obtain ⟨v9, e10, h⟩ := bindE h
  refine q_getP C fl_RX8_61 rfl e10 dX8_image_12 ?_
  refine q_aload_n 0 C dX8_image_15 rfl ?_
  obtain ⟨v11, e12, h⟩ := bindE h
  refine q_getP C fl_RX8_43 rfl e12 dX8_image_16 ?_
  obtain ⟨e13, h⟩ := ckOE h
  obtain ⟨M15, e14, h⟩ := bindE h
  refine q_callV (v := none) [.ref v11] C hRO lk_RX8_404 vk_X0_copy e13 rfl rfl rfl (Nat.le_of_ble_eq_true rfl) (by decide) (by decide) dX8_image_19 (k_X0_copy X.1.2.1 hl X.2.2.1 v9 v11 M7 _ e14) ?_
  refine q_aload_n 0 C dX8_image_22 rfl ?_
  obtain ⟨v17, e18, h⟩ := bindE h
  refine q_getP C fl_RX8_64 rfl e18 dX8_image_23 ?_
  refine q_aload_n 0 C dX8_image_26 rfl ?_
  obtain ⟨v19, e20, h⟩ := bindE h
  refine q_getP C fl_RX8_50 rfl e20 dX8_image_27 ?_
  obtain ⟨e21, h⟩ := ckOE h
  obtain ⟨M23, e22, h⟩ := bindE h
  refine q_callV (v := none) [.ref v19] C hRO lk_RX8_407 vk_X5_copy e21 rfl rfl rfl (Nat.le_of_ble_eq_true rfl) (by decide) (by decide) dX8_image_30 (k_X5_copy X.1.2.1 hl X.2.2.1 v17 v19 M15 _ e22) ?_
  refine q_aload_n 0 C dX8_image_33 rfl ?_
  refine q_iconst (v := (1 : Int32)) C dX8_image_34 (by decide) ?_
  obtain ⟨M25, e26, h⟩ := bindE h
  refine q_putZ C fp_RX8_54 rfl e26 dX8_image_35 ?_
  cases h
  exact q_vret C kf dX8_image_38
theorem k_X8_image (l : Launch) (hl : l.stackTraces = false) (G : GG) (l0 : Nat) (M : Mem) (x : Mem) (h : F_X8_image l0 M = some x) : Ct l G yX8_image (.code yX8_image cX8_image 1 none) 11 227 [.ref l0] M (rs_mV x) (ms_mV x) := by
  refine Ct_of (by decide +kernel) (Nat.le_of_ble_eq_true rfl) fun X e1 e2 e3 C FN hnm => ?_
  subst e1; subst e2
  show wq X 1 0 [(0, .ref l0)] [] M
  exact w_X8_image C FN.2.2.2 hl l0 M h FN
/-! X8_kept -/
set_option maxRecDepth 100000 in
set_option maxHeartbeats 4000000 in
theorem w_X8_kept_s16 {X : CX} {y : (Int32 × Int32) ⊕ (Int32)} (C : CK X cX8_kept 5 RX8 13 281) (hRO : RO X.2.2.1 X.1.2.2.2.2.1 X.1.2.2.2.2.1.heap) (hl : X.1.2.1.stackTraces = false) (l0 : Nat) (l2 : Nat) (M : Mem) (l3 : Int32) (l4 : Int32) (h : F_X8_kept_s16 l0 l2 M l3 l4 = some y) (kc : ∀ s' : Int32 × Int32, y = .inl s' → wq X 5 16 [(0, .ref l0), (2, .ref l2), (3, .int (s'.1)), (4, .int (s'.2))] [] M) (kx : ∀ e' : Int32, y = (.inr e') → wq X 5 75 [(3, .int (e'))] [] M) : wq X 5 16 [(0, .ref l0), (2, .ref l2), (3, .int l3), (4, .int l4)] [] M := by
  unfold F_X8_kept_s16 at h
  refine q_iload 3 C dX8_kept_16 rfl ?_
  refine q_aload_n 0 C dX8_kept_18 rfl ?_
  obtain ⟨v8, e9, h⟩ := bindE h
  refine q_getP C fl_RX8_23 rfl e9 dX8_kept_19 ?_
  obtain ⟨v10, e11, h⟩ := bindE h
  refine q_getI C fl_RX8_122 rfl e11 dX8_kept_22 ?_
  refine q_icmp_ge (tgt := 75) C dX8_kept_25 (by decide) (fun c12 => ?_) (fun c12 => ?_)
  · have h := ifT c12 h
    exact q_sub (lv' := [(3, .int l3)]) [2] rfl (kx l3 (someI h))
  · have h := ifF c12 h
    refine q_aload_n 0 C dX8_kept_28 rfl ?_
    obtain ⟨v13, e14, h⟩ := bindE h
    refine q_getP C fl_RX8_33 rfl e14 dX8_kept_29 ?_
    obtain ⟨v15, e16, h⟩ := bindE h
    refine q_getP C fl_RX8_162 rfl e16 dX8_kept_32 ?_
    refine q_iload 3 C dX8_kept_35 rfl ?_
    obtain ⟨v17, e18, h⟩ := bindE h
    refine q_iaload C e18 dX8_kept_37 ?_
    refine q_iconst (v := (-1 : Int32)) C dX8_kept_38 (by decide) ?_
    refine q_icmp_eq (tgt := 69) C dX8_kept_39 (by decide) (fun c19 => ?_) (fun c19 => ?_)
    · have h := ifT c19 h
      refine q_iinc 3 (v := (l4 + (1 : Int32))) (lv' := [(4, .int (l4 + (1 : Int32))), (0, .ref l0), (2, .ref l2), (3, .int l3)]) C dX8_kept_69 rfl rfl (by decide) rfl ?_
      refine q_goto (tgt := 16) C dX8_kept_72 (by decide) ?_
      exact q_sub (lv' := [(0, .ref l0), (2, .ref l2), (3, .int l3), (4, .int (l4 + (1 : Int32)))]) [1, 2, 3, 0] rfl (kc (l3, (l4 + (1 : Int32))) (someI h))
    · have h := ifF c19 h
      refine q_aload_n 1 C dX8_kept_42 rfl ?_
      obtain ⟨v20, e21, h⟩ := bindE h
      refine q_getP C fl_RX8_162 rfl e21 dX8_kept_43 ?_
      refine q_iload 3 C dX8_kept_46 rfl ?_
      obtain ⟨v22, e23, h⟩ := bindE h
      refine q_iaload C e23 dX8_kept_48 ?_
      refine q_aload_n 0 C dX8_kept_49 rfl ?_
      obtain ⟨v24, e25, h⟩ := bindE h
      refine q_getP C fl_RX8_33 rfl e25 dX8_kept_50 ?_
      obtain ⟨v26, e27, h⟩ := bindE h
      refine q_getP C fl_RX8_162 rfl e27 dX8_kept_53 ?_
      refine q_iload 3 C dX8_kept_56 rfl ?_
      obtain ⟨v28, e29, h⟩ := bindE h
      refine q_iaload C e29 dX8_kept_58 ?_
      refine q_icmp_ne (tgt := 69) C dX8_kept_59 (by decide) (fun c30 => ?_) (fun c30 => ?_)
      · have h := ifF c30 h
        refine q_iinc 3 (v := (l4 + (1 : Int32))) (lv' := [(4, .int (l4 + (1 : Int32))), (0, .ref l0), (2, .ref l2), (3, .int l3)]) C dX8_kept_69 rfl rfl (by decide) rfl ?_
        refine q_goto (tgt := 16) C dX8_kept_72 (by decide) ?_
        exact q_sub (lv' := [(0, .ref l0), (2, .ref l2), (3, .int l3), (4, .int (l4 + (1 : Int32)))]) [1, 2, 3, 0] rfl (kc (l3, (l4 + (1 : Int32))) (someI h))
      · have h := ifT c30 h
        refine q_iload_n 2 C dX8_kept_62 rfl ?_
        refine q_iconst (v := (1 : Int32)) C dX8_kept_63 (by decide) ?_
        refine q_iload 3 C dX8_kept_64 rfl ?_
        refine q_ishl C dX8_kept_66 ?_
        refine q_ior C dX8_kept_67 ?_
        obtain ⟨n31, e32, h⟩ := nmE h
        refine q_topI e32 ?_
        refine q_istore_n (i := 3) (lv' := [(3, .int n31), (0, .ref l0), (2, .ref l2), (4, .int l4)]) C dX8_kept_68 rfl (by decide) rfl ?_
        refine q_iinc 3 (v := (l4 + (1 : Int32))) (lv' := [(4, .int (l4 + (1 : Int32))), (3, .int n31), (0, .ref l0), (2, .ref l2)]) C dX8_kept_69 rfl rfl (by decide) rfl ?_
        refine q_goto (tgt := 16) C dX8_kept_72 (by decide) ?_
        exact q_sub (lv' := [(0, .ref l0), (2, .ref l2), (3, .int n31), (4, .int (l4 + (1 : Int32)))]) [2, 3, 1, 0] rfl (kc (n31, (l4 + (1 : Int32))) (someI h))
theorem w_X8_kept_l16 {X : CX} {r : Int32} (C : CK X cX8_kept 5 RX8 13 281) (hRO : RO X.2.2.1 X.1.2.2.2.2.1 X.1.2.2.2.2.1.heap) (hl : X.1.2.1.stackTraces = false) (l0 : Nat) (l2 : Nat) (M : Mem) (l3 : Int32) (l4 : Int32) (h : loop (fun s => F_X8_kept_s16 l0 l2 M s.1 s.2) (l3, l4) = some r) (kx : ∀ e' : Int32, r = e' → wq X 5 75 [(3, .int (e'))] [] M) : wq X 5 16 [(0, .ref l0), (2, .ref l2), (3, .int l3), (4, .int l4)] [] M :=
  loop_ind (P := fun s => wq X 5 16 [(0, .ref l0), (2, .ref l2), (3, .int s.1), (4, .int s.2)] [] M) h (fun s y hy kc kr => w_X8_kept_s16 C hRO hl l0 l2 M s.1 s.2 hy kc (fun e' he => kx e' (kr _ he).symm))
set_option maxRecDepth 100000 in
set_option maxHeartbeats 4000000 in
theorem w_X8_kept {X : CX} {y : (Int32 × Mem) ⊕ (Nat × Mem)} (C : CK X cX8_kept 5 RX8 13 281) (hRO : RO X.2.2.1 X.1.2.2.2.2.1 X.1.2.2.2.2.1.heap) (hl : X.1.2.1.stackTraces = false) (l0 : Nat) (l1 : Int32) (M : Mem) (h : F_X8_kept l0 l1 M = some y) (kf : FIN X (some .int) (rs_tI y) (ms_tI y)) : wq X 5 0 [(0, .ref l0), (1, .int l1)] [] M := by
  unfold F_X8_kept at h
  refine q_iload_n 1 C dX8_kept_0 rfl ?_
  refine q_iconst (v := (0 : Int32)) C dX8_kept_1 (by decide) ?_
  rcases bdVE h with ⟨M2, e1, h⟩ | ⟨x37, M38, e1, h⟩
  · refine q_callS (v := none) [.int l1, .int (0 : Int32)] C hRO lk_RX8_280 sk_X8_needDays rfl rfl (Nat.le_of_ble_eq_true rfl) (by decide) (by decide) dX8_kept_2 (k_X8_needDays X.1.2.1 hl X.2.2.1 l1 (0 : Int32) M _ e1) ?_
    refine q_aload_n 0 C dX8_kept_5 rfl ?_
    refine q_iload_n 1 C dX8_kept_6 rfl ?_
    obtain ⟨e4, h⟩ := ckOE h
    obtain ⟨v7, M6, e5, h⟩ := bd2E h
    refine q_callV (v := some (.ref v7)) [.int l1] C hRO lk_RX8_283 vk_X8_after e4 rfl rfl rfl (Nat.le_of_ble_eq_true rfl) (by decide) (by decide) dX8_kept_7 (k_X8_after X.1.2.1 hl X.2.2.1 l0 l1 M2 _ e5) ?_
    refine q_astore_n (i := 2) (lv' := [(2, .ref v7), (0, .ref l0), (1, .int l1)]) C dX8_kept_10 rfl (by decide) rfl ?_
    refine q_iconst (v := (0 : Int32)) C dX8_kept_11 (by decide) ?_
    refine q_istore_n (i := 3) (lv' := [(3, .int (0 : Int32)), (2, .ref v7), (0, .ref l0), (1, .int l1)]) C dX8_kept_12 rfl (by decide) rfl ?_
    refine q_iconst (v := (0 : Int32)) C dX8_kept_13 (by decide) ?_
    refine q_istore (i := 4) (lv' := [(4, .int (0 : Int32)), (3, .int (0 : Int32)), (2, .ref v7), (0, .ref l0), (1, .int l1)]) C dX8_kept_14 (by decide) rfl ?_
    obtain ⟨x35, e34, h⟩ := bindE h
    refine q_sub (lv' := [(0, .ref l0), (2, .ref v7), (3, .int (0 : Int32)), (4, .int (0 : Int32))]) [3, 2, 1, 0] rfl (w_X8_kept_l16 C hRO hl l0 v7 M6 (0 : Int32) (0 : Int32) e34 (fun r33 he => ?_))
    subst he
    show wq X 5 75 [(3, .int x35)] [] M6
    refine q_iload_n 0 C dX8_kept_75 rfl ?_
    cases h
    exact q_iret C kf dX8_kept_76
  · skip
    cases h
    exact q_callSX [.int l1, .int (0 : Int32)] C kf lk_RX8_280 sk_X8_needDays rfl rfl (Nat.le_of_ble_eq_true rfl) (by decide) (by decide) dX8_kept_2 (k_X8_needDays X.1.2.1 hl X.2.2.1 l1 (0 : Int32) M _ e1)
theorem k_X8_kept (l : Launch) (hl : l.stackTraces = false) (G : GG) (l0 : Nat) (l1 : Int32) (M : Mem) (x : (Int32 × Mem) ⊕ (Nat × Mem)) (h : F_X8_kept l0 l1 M = some x) : Ct l G yX8_kept (.code yX8_kept cX8_kept 5 (some .int)) 13 281 [.ref l0, .int l1] M (rs_tI x) (ms_tI x) := by
  refine Ct_of (by decide +kernel) (Nat.le_of_ble_eq_true rfl) fun X e1 e2 e3 C FN hnm => ?_
  subst e1; subst e2
  show wq X 5 0 [(0, .ref l0), (1, .int l1)] [] M
  exact w_X8_kept C FN.2.2.2 hl l0 l1 M h FN
/-! X8_leastSize -/
set_option maxRecDepth 100000 in
set_option maxHeartbeats 4000000 in
theorem w_X8_leastSize_s2 {X : CX} {y : (Int32) ⊕ ((Unit) ⊕ (Int32))} (C : CK X cX8_leastSize 3 RX8 7 140) (hRO : RO X.2.2.1 X.1.2.2.2.2.1 X.1.2.2.2.2.1.heap) (hl : X.1.2.1.stackTraces = false) (l0 : Int64) (M : Mem) (l2 : Int32) (h : F_X8_leastSize_s2 l0 M l2 = some y) (kc : ∀ s' : Int32, y = .inl s' → wq X 3 2 [(0, .long l0), (2, .int (s'))] [] M) (kx : ∀ e' : Unit, y = (.inr (.inl e')) → wq X 3 26 [] [] M) (kf : ∀ f' : Int32, y = (.inr (.inr f')) → FIN X (some .int) (rs_pI f') M) : wq X 3 2 [(0, .long l0), (2, .int l2)] [] M := by
  unfold F_X8_leastSize_s2 at h
  refine q_iload_n 1 C dX8_leastSize_2 rfl ?_
  refine q_bipush (v := (60 : Int32)) C dX8_leastSize_3 (by decide) ?_
  refine q_icmp_gt (tgt := 26) C dX8_leastSize_5 (by decide) (fun c1 => ?_) (fun c1 => ?_)
  · have h := ifT c1 h
    exact q_sub (lv' := []) [] rfl (kx () (someI h))
  · have h := ifF c1 h
    refine q_lload_n 0 C dX8_leastSize_8 rfl ?_
    refine q_iload_n 1 C dX8_leastSize_9 rfl ?_
    refine q_lshr C dX8_leastSize_10 ?_
    refine q_lconst (v := (1 : Int64)) C dX8_leastSize_11 (by decide) ?_
    refine q_land C dX8_leastSize_12 ?_
    refine q_lconst (v := (1 : Int64)) C dX8_leastSize_13 (by decide) ?_
    refine q_lcmp C dX8_leastSize_14 ?_
    refine q_if_ne (tgt := 20) C dX8_leastSize_15 (by decide) (fun c2 => ?_) (fun c2 => ?_)
    · have h := ifF c2 h
      refine q_iinc 1 (v := (l2 + (1 : Int32))) (lv' := [(2, .int (l2 + (1 : Int32))), (0, .long l0)]) C dX8_leastSize_20 rfl rfl (by decide) rfl ?_
      refine q_goto (tgt := 2) C dX8_leastSize_23 (by decide) ?_
      exact q_sub (lv' := [(0, .long l0), (2, .int (l2 + (1 : Int32)))]) [1, 0] rfl (kc (l2 + (1 : Int32)) (someI h))
    · have h := ifT c2 h
      refine q_iload_n 1 C dX8_leastSize_18 rfl ?_
      exact q_iret C (kf _ (someI h)) dX8_leastSize_19
theorem w_X8_leastSize_l2 {X : CX} {r : (Unit) ⊕ (Int32)} (C : CK X cX8_leastSize 3 RX8 7 140) (hRO : RO X.2.2.1 X.1.2.2.2.2.1 X.1.2.2.2.2.1.heap) (hl : X.1.2.1.stackTraces = false) (l0 : Int64) (M : Mem) (l2 : Int32) (h : loop (fun s => F_X8_leastSize_s2 l0 M s) l2 = some r) (kx : ∀ e' : Unit, r = .inl e' → wq X 3 26 [] [] M) (kf : ∀ f' : Int32, r = .inr f' → FIN X (some .int) (rs_pI f') M) : wq X 3 2 [(0, .long l0), (2, .int l2)] [] M :=
  loop_ind (P := fun s => wq X 3 2 [(0, .long l0), (2, .int s)] [] M) h (fun s y hy kc kr => w_X8_leastSize_s2 C hRO hl l0 M s hy kc (fun e' he => kx e' (kr _ he).symm) (fun f' he => kf f' (kr _ he).symm))
set_option maxRecDepth 100000 in
set_option maxHeartbeats 4000000 in
theorem w_X8_leastSize {X : CX} {y : Int32} (C : CK X cX8_leastSize 3 RX8 7 140) (hRO : RO X.2.2.1 X.1.2.2.2.2.1 X.1.2.2.2.2.1.heap) (hl : X.1.2.1.stackTraces = false) (l0 : Int64) (M : Mem) (h : F_X8_leastSize l0 M = some y) (kf : FIN X (some .int) (rs_pI y) M) : wq X 3 0 [(0, .long l0)] [] M := by
  unfold F_X8_leastSize at h
  refine q_iconst (v := (1 : Int32)) C dX8_leastSize_0 (by decide) ?_
  refine q_istore_n (i := 2) (lv' := [(2, .int (1 : Int32)), (0, .long l0)]) C dX8_leastSize_1 rfl (by decide) rfl ?_
  obtain ⟨r3, e4, h⟩ := bindE h
  refine q_sub (lv' := [(0, .long l0), (2, .int (1 : Int32))]) [1, 0] rfl (w_X8_leastSize_l2 C hRO hl l0 M (1 : Int32) e4 (fun q5 he => ?_) (fun f6 he => ?_))
  · subst he
    have h := elimL h
    show wq X 3 26 [] [] M
    refine q_iconst (v := (0 : Int32)) C dX8_leastSize_26 (by decide) ?_
    cases h
    exact q_iret C kf dX8_leastSize_27
  · subst he
    have h := elimR h
    cases h
    exact kf
theorem k_X8_leastSize (l : Launch) (hl : l.stackTraces = false) (G : GG) (l0 : Int64) (M : Mem) (x : Int32) (h : F_X8_leastSize l0 M = some x) : Ct l G yX8_leastSize (.code yX8_leastSize cX8_leastSize 3 (some .int)) 7 140 [.long l0] M (rs_pI x) M := by
  refine Ct_of (by decide +kernel) (Nat.le_of_ble_eq_true rfl) fun X e1 e2 e3 C FN hnm => ?_
  subst e1; subst e2
  show wq X 3 0 [(0, .long l0)] [] M
  exact w_X8_leastSize C FN.2.2.2 hl l0 M h FN
/-! X8_large -/
set_option maxRecDepth 100000 in
set_option maxHeartbeats 4000000 in
theorem w_X8_large_j84_38 {X : CX} {y : (Int32 × Int32 × Int32) ⊕ (Int32 × Int32)} (C : CK X cX8_large 5 RX8 14 310) (hRO : RO X.2.2.1 X.1.2.2.2.2.1 X.1.2.2.2.2.1.heap) (hl : X.1.2.1.stackTraces = false) (l0 : Nat) (l1 : Int32) (l2 : Int32) (l3 : Int32) (l4 : Int32) (M : Mem) (h : F_X8_large_j84_38 l0 l2 l3 l4 M = some y) (kc : ∀ s' : Int32 × Int32 × Int32, y = .inl s' → wq X 5 38 [(0, .ref l0), (1, .int l1), (2, .int (s'.1)), (3, .int (s'.2.1)), (4, .int (s'.2.2))] [] M) (kx : ∀ e' : Int32 × Int32, y = (.inr e') → wq X 5 103 [(1, .int l1), (2, .int (e'.1)), (3, .int (e'.2))] [] M) : wq X 5 84 [(0, .ref l0), (1, .int l1), (2, .int l2), (3, .int l3), (4, .int l4)] [] M := by
  unfold F_X8_large_j84_38 at h
  refine q_iload_n 2 C dX8_large_84 rfl ?_
  refine q_aload_n 0 C dX8_large_85 rfl ?_
  obtain ⟨v15, e16, h⟩ := bindE h
  refine q_getP C fl_RX8_85 rfl e16 dX8_large_86 ?_
  refine q_iload 4 C dX8_large_89 rfl ?_
  obtain ⟨v17, e18, h⟩ := bindE h
  refine q_laload C e18 dX8_large_91 ?_
  obtain ⟨v20, e19, h⟩ := bindE h
  refine q_callS (v := some (.int v20)) [.long v17] C hRO lk_RX8_328 sk_J13_bitCount_95d88 rfl rfl (Nat.le_of_ble_eq_true rfl) (by decide) (by decide) dX8_large_92 (k_J13_bitCount_95d88 X.1.2.1 hl X.2.2.1 v17 M _ e19) ?_
  refine q_iadd C dX8_large_95 ?_
  refine q_istore_n (i := 2) (lv' := [(2, .int (l2 + v20)), (0, .ref l0), (1, .int l1), (3, .int l3), (4, .int l4)]) C dX8_large_96 rfl (by decide) rfl ?_
  refine q_iinc 4 (v := (l4 + (1 : Int32))) (lv' := [(4, .int (l4 + (1 : Int32))), (2, .int (l2 + v20)), (0, .ref l0), (1, .int l1), (3, .int l3)]) C dX8_large_97 rfl rfl (by decide) rfl ?_
  refine q_goto (tgt := 38) C dX8_large_100 (by decide) ?_
  exact q_sub (lv' := [(0, .ref l0), (1, .int l1), (2, .int (l2 + v20)), (3, .int l3), (4, .int (l4 + (1 : Int32)))]) [2, 3, 1, 4, 0] rfl (kc ((l2 + v20), l3, (l4 + (1 : Int32))) (someI h))
set_option maxRecDepth 100000 in
set_option maxHeartbeats 4000000 in
theorem w_X8_large_s38 {X : CX} {y : (Int32 × Int32 × Int32) ⊕ (Int32 × Int32)} (C : CK X cX8_large 5 RX8 14 310) (hRO : RO X.2.2.1 X.1.2.2.2.2.1 X.1.2.2.2.2.1.heap) (hl : X.1.2.1.stackTraces = false) (l0 : Nat) (l1 : Int32) (M : Mem) (l2 : Int32) (l3 : Int32) (l4 : Int32) (h : F_X8_large_s38 l0 M l2 l3 l4 = some y) (kc : ∀ s' : Int32 × Int32 × Int32, y = .inl s' → wq X 5 38 [(0, .ref l0), (1, .int l1), (2, .int (s'.1)), (3, .int (s'.2.1)), (4, .int (s'.2.2))] [] M) (kx : ∀ e' : Int32 × Int32, y = (.inr e') → wq X 5 103 [(1, .int l1), (2, .int (e'.1)), (3, .int (e'.2))] [] M) : wq X 5 38 [(0, .ref l0), (1, .int l1), (2, .int l2), (3, .int l3), (4, .int l4)] [] M := by
  unfold F_X8_large_s38 at h
  refine q_iload 4 C dX8_large_38 rfl ?_
  refine q_aload_n 0 C dX8_large_40 rfl ?_
  obtain ⟨v9, e10, h⟩ := bindE h
  refine q_getP C fl_RX8_23 rfl e10 dX8_large_41 ?_
  obtain ⟨v11, e12, h⟩ := bindE h
  refine q_getI C fl_RX8_122 rfl e12 dX8_large_44 ?_
  refine q_icmp_ge (tgt := 103) C dX8_large_47 (by decide) (fun c13 => ?_) (fun c13 => ?_)
  · have h := ifT c13 h
    exact q_sub (lv' := [(1, .int l1), (2, .int l2), (3, .int l3)]) [1, 2, 3] rfl (kx (l2, l3) (someI h))
  · have h := ifF c13 h
    refine q_iload_n 3 C dX8_large_50 rfl ?_
    refine q_iconst (v := (-1 : Int32)) C dX8_large_51 (by decide) ?_
    refine q_icmp_ne (tgt := 84) C dX8_large_52 (by decide) (fun c14 => ?_) (fun c14 => ?_)
    · have h := ifF c14 h
      exact q_sub (lv' := [(0, .ref l0), (1, .int l1), (2, .int l2), (3, .int l3), (4, .int l4)]) [0, 1, 2, 3, 4] rfl (w_X8_large_j84_38 C hRO hl l0 l1 l2 l3 l4 M h kc kx)
    · have h := ifT c14 h
      refine q_aload_n 0 C dX8_large_55 rfl ?_
      obtain ⟨v21, e22, h⟩ := bindE h
      refine q_getP C fl_RX8_85 rfl e22 dX8_large_56 ?_
      refine q_iload 4 C dX8_large_59 rfl ?_
      obtain ⟨v23, e24, h⟩ := bindE h
      refine q_laload C e24 dX8_large_61 ?_
      refine q_lconst (v := (0 : Int64)) C dX8_large_62 (by decide) ?_
      refine q_lcmp C dX8_large_63 ?_
      refine q_if_eq (tgt := 84) C dX8_large_64 (by decide) (fun c25 => ?_) (fun c25 => ?_)
      · have h := ifT c25 h
        exact q_sub (lv' := [(0, .ref l0), (1, .int l1), (2, .int l2), (3, .int l3), (4, .int l4)]) [0, 1, 2, 3, 4] rfl (w_X8_large_j84_38 C hRO hl l0 l1 l2 l3 l4 M h kc kx)
      · have h := ifF c25 h
        refine q_bipush (v := (100 : Int32)) C dX8_large_67 (by decide) ?_
        refine q_iload 4 C dX8_large_69 rfl ?_
        refine q_imul C dX8_large_71 ?_
        refine q_aload_n 0 C dX8_large_72 rfl ?_
        obtain ⟨v26, e27, h⟩ := bindE h
        refine q_getP C fl_RX8_85 rfl e27 dX8_large_73 ?_
        refine q_iload 4 C dX8_large_76 rfl ?_
        obtain ⟨v28, e29, h⟩ := bindE h
        refine q_laload C e29 dX8_large_78 ?_
        obtain ⟨v31, e30, h⟩ := bindE h
        refine q_callS (v := some (.int v31)) [.long v28] C hRO lk_RX8_324 sk_X8_leastSize rfl rfl (Nat.le_of_ble_eq_true rfl) (by decide) (by decide) dX8_large_79 (k_X8_leastSize X.1.2.1 hl X.2.2.1 v28 M _ e30) ?_
        refine q_iadd C dX8_large_82 ?_
        obtain ⟨n32, e33, h⟩ := nmE h
        refine q_topI e33 ?_
        refine q_istore_n (i := 3) (lv' := [(3, .int n32), (0, .ref l0), (1, .int l1), (2, .int l2), (4, .int l4)]) C dX8_large_83 rfl (by decide) rfl ?_
        exact q_sub (lv' := [(0, .ref l0), (1, .int l1), (2, .int l2), (3, .int n32), (4, .int l4)]) [1, 2, 3, 0, 4] rfl (w_X8_large_j84_38 C hRO hl l0 l1 l2 n32 l4 M h kc kx)
theorem w_X8_large_l38 {X : CX} {r : Int32 × Int32} (C : CK X cX8_large 5 RX8 14 310) (hRO : RO X.2.2.1 X.1.2.2.2.2.1 X.1.2.2.2.2.1.heap) (hl : X.1.2.1.stackTraces = false) (l0 : Nat) (l1 : Int32) (M : Mem) (l2 : Int32) (l3 : Int32) (l4 : Int32) (h : loop (fun s => F_X8_large_s38 l0 M s.1 s.2.1 s.2.2) (l2, l3, l4) = some r) (kx : ∀ e' : Int32 × Int32, r = e' → wq X 5 103 [(1, .int l1), (2, .int (e'.1)), (3, .int (e'.2))] [] M) : wq X 5 38 [(0, .ref l0), (1, .int l1), (2, .int l2), (3, .int l3), (4, .int l4)] [] M :=
  loop_ind (P := fun s => wq X 5 38 [(0, .ref l0), (1, .int l1), (2, .int s.1), (3, .int s.2.1), (4, .int s.2.2)] [] M) h (fun s y hy kc kr => w_X8_large_s38 C hRO hl l0 l1 M s.1 s.2.1 s.2.2 hy kc (fun e' he => kx e' (kr _ he).symm))
set_option maxRecDepth 100000 in
set_option maxHeartbeats 4000000 in
theorem w_X8_large {X : CX} {y : (Int32 × Mem) ⊕ (Nat × Mem)} (C : CK X cX8_large 5 RX8 14 310) (hRO : RO X.2.2.1 X.1.2.2.2.2.1 X.1.2.2.2.2.1.heap) (hl : X.1.2.1.stackTraces = false) (l0 : Nat) (l1 : Int32) (M : Mem) (h : F_X8_large l0 l1 M = some y) (kf : FIN X (some .int) (rs_tI y) (ms_tI y)) : wq X 5 0 [(0, .ref l0), (1, .int l1)] [] M := by
  unfold F_X8_large at h
  refine q_iload_n 1 C dX8_large_0 rfl ?_
  refine q_iconst (v := (2 : Int32)) C dX8_large_1 (by decide) ?_
  rcases bdVE h with ⟨M2, e1, h⟩ | ⟨x48, M49, e1, h⟩
  · refine q_callS (v := none) [.int l1, .int (2 : Int32)] C hRO lk_RX8_277 sk_X8_needWhat rfl rfl (Nat.le_of_ble_eq_true rfl) (by decide) (by decide) dX8_large_2 (k_X8_needWhat X.1.2.1 hl X.2.2.1 l1 (2 : Int32) M _ e1) ?_
    refine q_iload_n 1 C dX8_large_5 rfl ?_
    refine q_iconst (v := (2 : Int32)) C dX8_large_6 (by decide) ?_
    refine q_icmp_ne (tgt := 27) C dX8_large_7 (by decide) (fun c4 => ?_) (fun c4 => ?_)
    · have h := ifF c4 h
      refine q_aload_n 0 C dX8_large_27 rfl ?_
      obtain ⟨e5, h⟩ := ckOE h
      obtain ⟨M7, e6, h⟩ := bindE h
      refine q_callV (v := none) [] C hRO lk_RX8_321 vk_X8_findFitting e5 rfl rfl rfl (Nat.le_of_ble_eq_true rfl) (by decide) (by decide) dX8_large_28 (k_X8_findFitting X.1.2.1 hl X.2.2.1 l0 M2 _ e6) ?_
      refine q_iconst (v := (0 : Int32)) C dX8_large_31 (by decide) ?_
      refine q_istore_n (i := 2) (lv' := [(2, .int (0 : Int32)), (0, .ref l0), (1, .int l1)]) C dX8_large_32 rfl (by decide) rfl ?_
      refine q_iconst (v := (-1 : Int32)) C dX8_large_33 (by decide) ?_
      refine q_istore_n (i := 3) (lv' := [(3, .int (-1 : Int32)), (2, .int (0 : Int32)), (0, .ref l0), (1, .int l1)]) C dX8_large_34 rfl (by decide) rfl ?_
      refine q_iconst (v := (0 : Int32)) C dX8_large_35 (by decide) ?_
      refine q_istore (i := 4) (lv' := [(4, .int (0 : Int32)), (3, .int (-1 : Int32)), (2, .int (0 : Int32)), (0, .ref l0), (1, .int l1)]) C dX8_large_36 (by decide) rfl ?_
      obtain ⟨⟨x36, x37⟩, e35, h⟩ := bindE h
      refine q_sub (lv' := [(0, .ref l0), (1, .int l1), (2, .int (0 : Int32)), (3, .int (-1 : Int32)), (4, .int (0 : Int32))]) [3, 4, 2, 1, 0] rfl (w_X8_large_l38 C hRO hl l0 l1 M7 (0 : Int32) (-1 : Int32) (0 : Int32) e35 (fun r34 he => ?_))
      subst he
      have h := u2E h
      show wq X 5 103 [(1, .int l1), (2, .int x36), (3, .int x37)] [] M7
      refine q_iload_n 0 C dX8_large_103 rfl ?_
      refine q_if_ne (tgt := 111) C dX8_large_104 (by decide) (fun c38 => ?_) (fun c38 => ?_)
      · have h := ifF c38 h
        refine q_iload_n 2 C dX8_large_111 rfl ?_
        cases h
        exact q_iret C kf dX8_large_112
      · have h := ifT c38 h
        refine q_iload_n 1 C dX8_large_107 rfl ?_
        refine q_goto (tgt := 112) C dX8_large_108 (by decide) ?_
        cases h
        exact q_iret C kf dX8_large_112
    · have h := ifT c4 h
      refine q_aload_n 0 C dX8_large_10 rfl ?_
      obtain ⟨e40, h⟩ := ckOE h
      obtain ⟨v43, M42, e41, h⟩ := bd2E h
      refine q_callV (v := some (.int v43)) [] C hRO lk_RX8_315 vk_X8_agreeingHouses e40 rfl rfl rfl (Nat.le_of_ble_eq_true rfl) (by decide) (by decide) dX8_large_11 (k_X8_agreeingHouses X.1.2.1 hl X.2.2.1 l0 M2 _ e41) ?_
      refine q_aload_n 0 C dX8_large_14 rfl ?_
      obtain ⟨e44, h⟩ := ckOE h
      obtain ⟨v46, e45, h⟩ := bindE h
      refine q_callV (v := some (.int v46)) [] C hRO lk_RX8_318 vk_X8_allHouses e44 rfl rfl rfl (Nat.le_of_ble_eq_true rfl) (by decide) (by decide) dX8_large_15 (k_X8_allHouses X.1.2.1 hl X.2.2.1 l0 M42 _ e45) ?_
      refine q_icmp_ne (tgt := 25) C dX8_large_18 (by decide) (fun c47 => ?_) (fun c47 => ?_)
      · have h := ifF c47 h
        refine q_iconst (v := (0 : Int32)) C dX8_large_25 (by decide) ?_
        cases h
        exact q_iret C kf dX8_large_26
      · have h := ifT c47 h
        refine q_iconst (v := (1 : Int32)) C dX8_large_21 (by decide) ?_
        refine q_goto (tgt := 26) C dX8_large_22 (by decide) ?_
        cases h
        exact q_iret C kf dX8_large_26
  · skip
    cases h
    exact q_callSX [.int l1, .int (2 : Int32)] C kf lk_RX8_277 sk_X8_needWhat rfl rfl (Nat.le_of_ble_eq_true rfl) (by decide) (by decide) dX8_large_2 (k_X8_needWhat X.1.2.1 hl X.2.2.1 l1 (2 : Int32) M _ e1)
theorem k_X8_large (l : Launch) (hl : l.stackTraces = false) (G : GG) (l0 : Nat) (l1 : Int32) (M : Mem) (x : (Int32 × Mem) ⊕ (Nat × Mem)) (h : F_X8_large l0 l1 M = some x) : Ct l G yX8_large (.code yX8_large cX8_large 5 (some .int)) 14 310 [.ref l0, .int l1] M (rs_tI x) (ms_tI x) := by
  refine Ct_of (by decide +kernel) (Nat.le_of_ble_eq_true rfl) fun X e1 e2 e3 C FN hnm => ?_
  subst e1; subst e2
  show wq X 5 0 [(0, .ref l0), (1, .int l1)] [] M
  exact w_X8_large C FN.2.2.2 hl l0 l1 M h FN
/-! X8_larger -/
set_option maxRecDepth 100000 in
set_option maxHeartbeats 4000000 in
theorem w_X8_larger_s9 {X : CX} {y : (Int32 × Int32) ⊕ (Int32)} (C : CK X cX8_larger 4 RX8 8 161) (hRO : RO X.2.2.1 X.1.2.2.2.2.1 X.1.2.2.2.2.1.heap) (hl : X.1.2.1.stackTraces = false) (l0 : Nat) (l1 : Int32) (M : Mem) (l2 : Int32) (l3 : Int32) (h : F_X8_larger_s9 l0 l1 M l2 l3 = some y) (kc : ∀ s' : Int32 × Int32, y = .inl s' → wq X 4 9 [(0, .ref l0), (1, .int l1), (2, .int (s'.1)), (3, .int (s'.2))] [] M) (kx : ∀ e' : Int32, y = (.inr e') → wq X 4 50 [(2, .int (e'))] [] M) : wq X 4 9 [(0, .ref l0), (1, .int l1), (2, .int l2), (3, .int l3)] [] M := by
  unfold F_X8_larger_s9 at h
  refine q_iload_n 3 C dX8_larger_9 rfl ?_
  refine q_aload_n 0 C dX8_larger_10 rfl ?_
  obtain ⟨v5, e6, h⟩ := bindE h
  refine q_getP C fl_RX8_23 rfl e6 dX8_larger_11 ?_
  obtain ⟨v7, e8, h⟩ := bindE h
  refine q_getI C fl_RX8_122 rfl e8 dX8_larger_14 ?_
  refine q_icmp_ge (tgt := 50) C dX8_larger_17 (by decide) (fun c9 => ?_) (fun c9 => ?_)
  · have h := ifT c9 h
    exact q_sub (lv' := [(2, .int l2)]) [2] rfl (kx l2 (someI h))
  · have h := ifF c9 h
    refine q_aload_n 0 C dX8_larger_20 rfl ?_
    obtain ⟨v10, e11, h⟩ := bindE h
    refine q_getP C fl_RX8_33 rfl e11 dX8_larger_21 ?_
    obtain ⟨v12, e13, h⟩ := bindE h
    refine q_getP C fl_RX8_212 rfl e13 dX8_larger_24 ?_
    refine q_iload_n 3 C dX8_larger_27 rfl ?_
    obtain ⟨v14, e15, h⟩ := bindE h
    refine q_iaload C e15 dX8_larger_28 ?_
    refine q_aload_n 0 C dX8_larger_29 rfl ?_
    obtain ⟨v16, e17, h⟩ := bindE h
    refine q_getP C fl_RX8_33 rfl e17 dX8_larger_30 ?_
    obtain ⟨v18, e19, h⟩ := bindE h
    refine q_getP C fl_RX8_212 rfl e19 dX8_larger_33 ?_
    refine q_iload_n 1 C dX8_larger_36 rfl ?_
    obtain ⟨v20, e21, h⟩ := bindE h
    refine q_iaload C e21 dX8_larger_37 ?_
    refine q_icmp_le (tgt := 44) C dX8_larger_38 (by decide) (fun c22 => ?_) (fun c22 => ?_)
    · have h := ifT c22 h
      refine q_iinc 3 (v := (l3 + (1 : Int32))) (lv' := [(3, .int (l3 + (1 : Int32))), (0, .ref l0), (1, .int l1), (2, .int l2)]) C dX8_larger_44 rfl rfl (by decide) rfl ?_
      refine q_goto (tgt := 9) C dX8_larger_47 (by decide) ?_
      exact q_sub (lv' := [(0, .ref l0), (1, .int l1), (2, .int l2), (3, .int (l3 + (1 : Int32)))]) [1, 2, 3, 0] rfl (kc (l2, (l3 + (1 : Int32))) (someI h))
    · have h := ifF c22 h
      refine q_iinc 2 (v := (l2 + (1 : Int32))) (lv' := [(2, .int (l2 + (1 : Int32))), (0, .ref l0), (1, .int l1), (3, .int l3)]) C dX8_larger_41 rfl rfl (by decide) rfl ?_
      refine q_iinc 3 (v := (l3 + (1 : Int32))) (lv' := [(3, .int (l3 + (1 : Int32))), (2, .int (l2 + (1 : Int32))), (0, .ref l0), (1, .int l1)]) C dX8_larger_44 rfl rfl (by decide) rfl ?_
      refine q_goto (tgt := 9) C dX8_larger_47 (by decide) ?_
      exact q_sub (lv' := [(0, .ref l0), (1, .int l1), (2, .int (l2 + (1 : Int32))), (3, .int (l3 + (1 : Int32)))]) [2, 3, 1, 0] rfl (kc ((l2 + (1 : Int32)), (l3 + (1 : Int32))) (someI h))
theorem w_X8_larger_l9 {X : CX} {r : Int32} (C : CK X cX8_larger 4 RX8 8 161) (hRO : RO X.2.2.1 X.1.2.2.2.2.1 X.1.2.2.2.2.1.heap) (hl : X.1.2.1.stackTraces = false) (l0 : Nat) (l1 : Int32) (M : Mem) (l2 : Int32) (l3 : Int32) (h : loop (fun s => F_X8_larger_s9 l0 l1 M s.1 s.2) (l2, l3) = some r) (kx : ∀ e' : Int32, r = e' → wq X 4 50 [(2, .int (e'))] [] M) : wq X 4 9 [(0, .ref l0), (1, .int l1), (2, .int l2), (3, .int l3)] [] M :=
  loop_ind (P := fun s => wq X 4 9 [(0, .ref l0), (1, .int l1), (2, .int s.1), (3, .int s.2)] [] M) h (fun s y hy kc kr => w_X8_larger_s9 C hRO hl l0 l1 M s.1 s.2 hy kc (fun e' he => kx e' (kr _ he).symm))
set_option maxRecDepth 100000 in
set_option maxHeartbeats 4000000 in
theorem w_X8_larger {X : CX} {y : (Int32 × Mem) ⊕ (Nat × Mem)} (C : CK X cX8_larger 4 RX8 8 161) (hRO : RO X.2.2.1 X.1.2.2.2.2.1 X.1.2.2.2.2.1.heap) (hl : X.1.2.1.stackTraces = false) (l0 : Nat) (l1 : Int32) (M : Mem) (h : F_X8_larger l0 l1 M = some y) (kf : FIN X (some .int) (rs_tI y) (ms_tI y)) : wq X 4 0 [(0, .ref l0), (1, .int l1)] [] M := by
  unfold F_X8_larger at h
  refine q_aload_n 0 C dX8_larger_0 rfl ?_
  refine q_iload_n 1 C dX8_larger_1 rfl ?_
  obtain ⟨e1, h⟩ := ckOE h
  rcases bdVE h with ⟨M3, e2, h⟩ | ⟨x27, M28, e2, h⟩
  · refine q_callV (v := none) [.int l1] C hRO lk_RX8_223 vk_X8_needPerson e1 rfl rfl rfl (Nat.le_of_ble_eq_true rfl) (by decide) (by decide) dX8_larger_2 (k_X8_needPerson X.1.2.1 hl X.2.2.1 l0 l1 M _ e2) ?_
    refine q_iconst (v := (0 : Int32)) C dX8_larger_5 (by decide) ?_
    refine q_istore_n (i := 2) (lv' := [(2, .int (0 : Int32)), (0, .ref l0), (1, .int l1)]) C dX8_larger_6 rfl (by decide) rfl ?_
    refine q_iconst (v := (0 : Int32)) C dX8_larger_7 (by decide) ?_
    refine q_istore_n (i := 3) (lv' := [(3, .int (0 : Int32)), (2, .int (0 : Int32)), (0, .ref l0), (1, .int l1)]) C dX8_larger_8 rfl (by decide) rfl ?_
    obtain ⟨x25, e24, h⟩ := bindE h
    refine q_sub (lv' := [(0, .ref l0), (1, .int l1), (2, .int (0 : Int32)), (3, .int (0 : Int32))]) [2, 3, 1, 0] rfl (w_X8_larger_l9 C hRO hl l0 l1 M3 (0 : Int32) (0 : Int32) e24 (fun r23 he => ?_))
    subst he
    show wq X 4 50 [(2, .int x25)] [] M3
    refine q_iload_n 0 C dX8_larger_50 rfl ?_
    cases h
    exact q_iret C kf dX8_larger_51
  · skip
    cases h
    exact q_callVX [.int l1] C kf lk_RX8_223 vk_X8_needPerson e1 rfl rfl rfl (Nat.le_of_ble_eq_true rfl) (by decide) (by decide) dX8_larger_2 (k_X8_needPerson X.1.2.1 hl X.2.2.1 l0 l1 M _ e2)
theorem k_X8_larger (l : Launch) (hl : l.stackTraces = false) (G : GG) (l0 : Nat) (l1 : Int32) (M : Mem) (x : (Int32 × Mem) ⊕ (Nat × Mem)) (h : F_X8_larger l0 l1 M = some x) : Ct l G yX8_larger (.code yX8_larger cX8_larger 4 (some .int)) 8 161 [.ref l0, .int l1] M (rs_tI x) (ms_tI x) := by
  refine Ct_of (by decide +kernel) (Nat.le_of_ble_eq_true rfl) fun X e1 e2 e3 C FN hnm => ?_
  subst e1; subst e2
  show wq X 4 0 [(0, .ref l0), (1, .int l1)] [] M
  exact w_X8_larger C FN.2.2.2 hl l0 l1 M h FN
/-! X8_leastBit -/
set_option maxRecDepth 100000 in
set_option maxHeartbeats 4000000 in
theorem w_X8_leastBit_s2 {X : CX} {y : (Int32) ⊕ ((Unit) ⊕ (Int32))} (C : CK X cX8_leastBit 2 RX8 7 140) (hRO : RO X.2.2.1 X.1.2.2.2.2.1 X.1.2.2.2.2.1.heap) (hl : X.1.2.1.stackTraces = false) (l0 : Int32) (M : Mem) (l1 : Int32) (h : F_X8_leastBit_s2 l0 M l1 = some y) (kc : ∀ s' : Int32, y = .inl s' → wq X 2 2 [(0, .int l0), (1, .int (s'))] [] M) (kx : ∀ e' : Unit, y = (.inr (.inl e')) → wq X 2 25 [] [] M) (kf : ∀ f' : Int32, y = (.inr (.inr f')) → FIN X (some .int) (rs_pI f') M) : wq X 2 2 [(0, .int l0), (1, .int l1)] [] M := by
  unfold F_X8_leastBit_s2 at h
  refine q_iload_n 1 C dX8_leastBit_2 rfl ?_
  refine q_bipush (v := (8 : Int32)) C dX8_leastBit_3 (by decide) ?_
  refine q_icmp_ge (tgt := 25) C dX8_leastBit_5 (by decide) (fun c1 => ?_) (fun c1 => ?_)
  · have h := ifT c1 h
    exact q_sub (lv' := []) [] rfl (kx () (someI h))
  · have h := ifF c1 h
    refine q_iload_n 0 C dX8_leastBit_8 rfl ?_
    refine q_iload_n 1 C dX8_leastBit_9 rfl ?_
    refine q_ishr C dX8_leastBit_10 ?_
    refine q_iconst (v := (1 : Int32)) C dX8_leastBit_11 (by decide) ?_
    refine q_iand C dX8_leastBit_12 ?_
    refine q_iconst (v := (1 : Int32)) C dX8_leastBit_13 (by decide) ?_
    refine q_icmp_ne (tgt := 19) C dX8_leastBit_14 (by decide) (fun c2 => ?_) (fun c2 => ?_)
    · have h := ifF c2 h
      refine q_iinc 1 (v := (l1 + (1 : Int32))) (lv' := [(1, .int (l1 + (1 : Int32))), (0, .int l0)]) C dX8_leastBit_19 rfl rfl (by decide) rfl ?_
      refine q_goto (tgt := 2) C dX8_leastBit_22 (by decide) ?_
      exact q_sub (lv' := [(0, .int l0), (1, .int (l1 + (1 : Int32)))]) [1, 0] rfl (kc (l1 + (1 : Int32)) (someI h))
    · have h := ifT c2 h
      refine q_iload_n 1 C dX8_leastBit_17 rfl ?_
      exact q_iret C (kf _ (someI h)) dX8_leastBit_18
theorem w_X8_leastBit_l2 {X : CX} {r : (Unit) ⊕ (Int32)} (C : CK X cX8_leastBit 2 RX8 7 140) (hRO : RO X.2.2.1 X.1.2.2.2.2.1 X.1.2.2.2.2.1.heap) (hl : X.1.2.1.stackTraces = false) (l0 : Int32) (M : Mem) (l1 : Int32) (h : loop (fun s => F_X8_leastBit_s2 l0 M s) l1 = some r) (kx : ∀ e' : Unit, r = .inl e' → wq X 2 25 [] [] M) (kf : ∀ f' : Int32, r = .inr f' → FIN X (some .int) (rs_pI f') M) : wq X 2 2 [(0, .int l0), (1, .int l1)] [] M :=
  loop_ind (P := fun s => wq X 2 2 [(0, .int l0), (1, .int s)] [] M) h (fun s y hy kc kr => w_X8_leastBit_s2 C hRO hl l0 M s hy kc (fun e' he => kx e' (kr _ he).symm) (fun f' he => kf f' (kr _ he).symm))
set_option maxRecDepth 100000 in
set_option maxHeartbeats 4000000 in
theorem w_X8_leastBit {X : CX} {y : Int32} (C : CK X cX8_leastBit 2 RX8 7 140) (hRO : RO X.2.2.1 X.1.2.2.2.2.1 X.1.2.2.2.2.1.heap) (hl : X.1.2.1.stackTraces = false) (l0 : Int32) (M : Mem) (h : F_X8_leastBit l0 M = some y) (kf : FIN X (some .int) (rs_pI y) M) : wq X 2 0 [(0, .int l0)] [] M := by
  unfold F_X8_leastBit at h
  refine q_iconst (v := (0 : Int32)) C dX8_leastBit_0 (by decide) ?_
  refine q_istore_n (i := 1) (lv' := [(1, .int (0 : Int32)), (0, .int l0)]) C dX8_leastBit_1 rfl (by decide) rfl ?_
  obtain ⟨r3, e4, h⟩ := bindE h
  refine q_sub (lv' := [(0, .int l0), (1, .int (0 : Int32))]) [1, 0] rfl (w_X8_leastBit_l2 C hRO hl l0 M (0 : Int32) e4 (fun q5 he => ?_) (fun f6 he => ?_))
  · subst he
    have h := elimL h
    show wq X 2 25 [] [] M
    refine q_iconst (v := (-1 : Int32)) C dX8_leastBit_25 (by decide) ?_
    cases h
    exact q_iret C kf dX8_leastBit_26
  · subst he
    have h := elimR h
    cases h
    exact kf
theorem k_X8_leastBit (l : Launch) (hl : l.stackTraces = false) (G : GG) (l0 : Int32) (M : Mem) (x : Int32) (h : F_X8_leastBit l0 M = some x) : Ct l G yX8_leastBit (.code yX8_leastBit cX8_leastBit 2 (some .int)) 7 140 [.int l0] M (rs_pI x) M := by
  refine Ct_of (by decide +kernel) (Nat.le_of_ble_eq_true rfl) fun X e1 e2 e3 C FN hnm => ?_
  subst e1; subst e2
  show wq X 2 0 [(0, .int l0)] [] M
  exact w_X8_leastBit C FN.2.2.2 hl l0 M h FN
/-! X8_last -/
set_option maxRecDepth 100000 in
set_option maxHeartbeats 4000000 in
theorem w_X8_last_s29 {X : CX} {y : (Int32 × Int32 × Int32 × Int32 × Mem) ⊕ (Int32 × Int32 × Int32 × Mem)} (C : CK X cX8_last 7 RX8 12 260) (hRO : RO X.2.2.1 X.1.2.2.2.2.1 X.1.2.2.2.2.1.heap) (hl : X.1.2.1.stackTraces = false) (l0 : Nat) (l1 : Int32) (l2 : Int32) (l3 : Int32) (l4 : Int32) (l5 : Int32) (M : Mem) (h : F_X8_last_s29 l0 l2 l3 l4 l5 M = some y) (kc : ∀ s' : Int32 × Int32 × Int32 × Int32 × Mem, y = .inl s' → wq X 7 29 [(0, .ref l0), (1, .int l1), (2, .int (s'.1)), (3, .int (s'.2.1)), (4, .int (s'.2.2.1)), (5, .int (s'.2.2.2.1))] [] s'.2.2.2.2) (kx : ∀ e' : Int32 × Int32 × Int32 × Mem, y = (.inr e') → wq X 7 81 [(1, .int l1), (2, .int (e'.1)), (3, .int (e'.2.1)), (4, .int (e'.2.2.1))] [] e'.2.2.2) : wq X 7 29 [(0, .ref l0), (1, .int l1), (2, .int l2), (3, .int l3), (4, .int l4), (5, .int l5)] [] M := by
  unfold F_X8_last_s29 at h
  refine q_iload 5 C dX8_last_29 rfl ?_
  refine q_bipush (v := (40 : Int32)) C dX8_last_31 (by decide) ?_
  refine q_icmp_gt (tgt := 81) C dX8_last_33 (by decide) (fun c15 => ?_) (fun c15 => ?_)
  · have h := ifT c15 h
    exact q_sub (lv' := [(1, .int l1), (2, .int l2), (3, .int l3), (4, .int l4)]) [1, 2, 3, 4] rfl (kx (l2, l3, l4, M) (someI h))
  · have h := ifF c15 h
    refine q_aload_n 0 C dX8_last_36 rfl ?_
    refine q_aload_n 0 C dX8_last_37 rfl ?_
    obtain ⟨v16, e17, h⟩ := bindE h
    refine q_getP C fl_RX8_37 rfl e17 dX8_last_38 ?_
    refine q_iconst (v := (1 : Int32)) C dX8_last_41 (by decide) ?_
    obtain ⟨e18, h⟩ := ckOE h
    obtain ⟨M20, e19, h⟩ := bindE h
    refine q_callV (v := none) [.ref v16, .int (1 : Int32)] C hRO lk_RX8_245 vk_X8_pass e18 rfl rfl rfl (Nat.le_of_ble_eq_true rfl) (by decide) (by decide) dX8_last_42 (k_X8_pass X.1.2.1 hl X.2.2.1 l0 v16 (1 : Int32) M _ e19) ?_
    refine q_iload_n 2 C dX8_last_45 rfl ?_
    refine q_aload_n 0 C dX8_last_46 rfl ?_
    obtain ⟨v22, e23, h⟩ := bindE h
    refine q_getP C fl_RX8_37 rfl e23 dX8_last_47 ?_
    obtain ⟨v24, e25, h⟩ := bindE h
    refine q_getI C fl_RX8_132 rfl e25 dX8_last_50 ?_
    refine q_iand C dX8_last_53 ?_
    refine q_istore (i := 6) (lv' := [(6, .int (l2 &&& v24)), (0, .ref l0), (1, .int l1), (2, .int l2), (3, .int l3), (4, .int l4), (5, .int l5)]) C dX8_last_54 (by decide) rfl ?_
    refine q_iload 0 C dX8_last_56 rfl ?_
    refine q_if_eq (tgt := 75) C dX8_last_58 (by decide) (fun c26 => ?_) (fun c26 => ?_)
    · have h := ifT c26 h
      refine q_iinc 6 (v := (l5 + (1 : Int32))) (lv' := [(5, .int (l5 + (1 : Int32))), (6, .int (l2 &&& v24)), (0, .ref l0), (1, .int l1), (2, .int l2), (3, .int l3), (4, .int l4)]) C dX8_last_75 rfl rfl (by decide) rfl ?_
      refine q_goto (tgt := 29) C dX8_last_78 (by decide) ?_
      exact q_sub (lv' := [(0, .ref l0), (1, .int l1), (2, .int l2), (3, .int l3), (4, .int l4), (5, .int (l5 + (1 : Int32)))]) [2, 3, 4, 5, 6, 0] rfl (kc (l2, l3, l4, (l5 + (1 : Int32)), M20) (someI h))
    · have h := ifF c26 h
      refine q_iload 0 C dX8_last_61 rfl ?_
      refine q_istore_n (i := 3) (lv' := [(3, .int (l2 &&& v24)), (6, .int (l2 &&& v24)), (0, .ref l0), (1, .int l1), (2, .int l2), (4, .int l4), (5, .int l5)]) C dX8_last_63 rfl (by decide) rfl ?_
      refine q_iload 6 C dX8_last_64 rfl ?_
      refine q_istore (i := 4) (lv' := [(4, .int l5), (3, .int (l2 &&& v24)), (6, .int (l2 &&& v24)), (0, .ref l0), (1, .int l1), (2, .int l2), (5, .int l5)]) C dX8_last_66 (by decide) rfl ?_
      refine q_iload_n 5 C dX8_last_68 rfl ?_
      refine q_iload 2 C dX8_last_69 rfl ?_
      refine q_iconst (v := (-1 : Int32)) C dX8_last_71 (by decide) ?_
      refine q_ixor C dX8_last_72 ?_
      refine q_iand C dX8_last_73 ?_
      obtain ⟨n27, e28, h⟩ := nmE h
      refine q_topI e28 ?_
      refine q_istore_n (i := 2) (lv' := [(2, .int n27), (4, .int l5), (3, .int (l2 &&& v24)), (6, .int (l2 &&& v24)), (0, .ref l0), (1, .int l1), (5, .int l5)]) C dX8_last_74 rfl (by decide) rfl ?_
      refine q_iinc 6 (v := (l5 + (1 : Int32))) (lv' := [(5, .int (l5 + (1 : Int32))), (2, .int n27), (4, .int l5), (3, .int (l2 &&& v24)), (6, .int (l2 &&& v24)), (0, .ref l0), (1, .int l1)]) C dX8_last_75 rfl rfl (by decide) rfl ?_
      refine q_goto (tgt := 29) C dX8_last_78 (by decide) ?_
      exact q_sub (lv' := [(0, .ref l0), (1, .int l1), (2, .int n27), (3, .int (l2 &&& v24)), (4, .int l5), (5, .int (l5 + (1 : Int32)))]) [5, 6, 1, 3, 2, 0] rfl (kc (n27, (l2 &&& v24), l5, (l5 + (1 : Int32)), M20) (someI h))
theorem w_X8_last_l29 {X : CX} {r : Int32 × Int32 × Int32 × Mem} (C : CK X cX8_last 7 RX8 12 260) (hRO : RO X.2.2.1 X.1.2.2.2.2.1 X.1.2.2.2.2.1.heap) (hl : X.1.2.1.stackTraces = false) (l0 : Nat) (l1 : Int32) (l2 : Int32) (l3 : Int32) (l4 : Int32) (l5 : Int32) (M : Mem) (h : loop (fun s => F_X8_last_s29 l0 s.1 s.2.1 s.2.2.1 s.2.2.2.1 s.2.2.2.2) (l2, l3, l4, l5, M) = some r) (kx : ∀ e' : Int32 × Int32 × Int32 × Mem, r = e' → wq X 7 81 [(1, .int l1), (2, .int (e'.1)), (3, .int (e'.2.1)), (4, .int (e'.2.2.1))] [] e'.2.2.2) : wq X 7 29 [(0, .ref l0), (1, .int l1), (2, .int l2), (3, .int l3), (4, .int l4), (5, .int l5)] [] M :=
  loop_ind (P := fun s => wq X 7 29 [(0, .ref l0), (1, .int l1), (2, .int s.1), (3, .int s.2.1), (4, .int s.2.2.1), (5, .int s.2.2.2.1)] [] s.2.2.2.2) h (fun s y hy kc kr => w_X8_last_s29 C hRO hl l0 l1 s.1 s.2.1 s.2.2.1 s.2.2.2.1 s.2.2.2.2 hy kc (fun e' he => kx e' (kr _ he).symm))
set_option maxRecDepth 100000 in
set_option maxHeartbeats 4000000 in
theorem w_X8_last {X : CX} {y : (Int32 × Mem) ⊕ (Nat × Mem)} (C : CK X cX8_last 7 RX8 12 260) (hRO : RO X.2.2.1 X.1.2.2.2.2.1 X.1.2.2.2.2.1.heap) (hl : X.1.2.1.stackTraces = false) (l0 : Nat) (l1 : Int32) (M : Mem) (h : F_X8_last l0 l1 M = some y) (kf : FIN X (some .int) (rs_tI y) (ms_tI y)) : wq X 7 0 [(0, .ref l0), (1, .int l1)] [] M := by
  unfold F_X8_last at h
  refine q_iload_n 1 C dX8_last_0 rfl ?_
  refine q_iconst (v := (1 : Int32)) C dX8_last_1 (by decide) ?_
  rcases bdVE h with ⟨M2, e1, h⟩ | ⟨x43, M44, e1, h⟩
  · refine q_callS (v := none) [.int l1, .int (1 : Int32)] C hRO lk_RX8_277 sk_X8_needWhat rfl rfl (Nat.le_of_ble_eq_true rfl) (by decide) (by decide) dX8_last_2 (k_X8_needWhat X.1.2.1 hl X.2.2.1 l1 (1 : Int32) M _ e1) ?_
    refine q_aload_n 0 C dX8_last_5 rfl ?_
    obtain ⟨e4, h⟩ := ckOE h
    obtain ⟨v6, e5, h⟩ := bindE h
    refine q_callV (v := some (.int v6)) [] C hRO lk_RX8_135 vk_X8_housesInUse e4 rfl rfl rfl (Nat.le_of_ble_eq_true rfl) (by decide) (by decide) dX8_last_6 (k_X8_housesInUse X.1.2.1 hl X.2.2.1 l0 M2 _ e5) ?_
    refine q_istore_n (i := 2) (lv' := [(2, .int v6), (0, .ref l0), (1, .int l1)]) C dX8_last_9 rfl (by decide) rfl ?_
    refine q_iconst (v := (0 : Int32)) C dX8_last_10 (by decide) ?_
    refine q_istore_n (i := 3) (lv' := [(3, .int (0 : Int32)), (2, .int v6), (0, .ref l0), (1, .int l1)]) C dX8_last_11 rfl (by decide) rfl ?_
    refine q_iconst (v := (-1 : Int32)) C dX8_last_12 (by decide) ?_
    refine q_istore (i := 4) (lv' := [(4, .int (-1 : Int32)), (3, .int (0 : Int32)), (2, .int v6), (0, .ref l0), (1, .int l1)]) C dX8_last_13 (by decide) rfl ?_
    refine q_aload_n 3 C dX8_last_15 rfl ?_
    obtain ⟨v7, e8, h⟩ := bindE h
    refine q_getP C fl_RX8_37 rfl e8 dX8_last_16 ?_
    refine q_aload_n 3 C dX8_last_19 rfl ?_
    obtain ⟨v9, e10, h⟩ := bindE h
    refine q_getP C fl_RX8_33 rfl e10 dX8_last_20 ?_
    obtain ⟨e11, h⟩ := ckOE h
    obtain ⟨M13, e12, h⟩ := bindE h
    refine q_callV (v := none) [.ref v9] C hRO lk_RX8_274 vk_X6_copy e11 rfl rfl rfl (Nat.le_of_ble_eq_true rfl) (by decide) (by decide) dX8_last_23 (k_X6_copy X.1.2.1 hl X.2.2.1 v7 v9 M2 _ e12) ?_
    refine q_iconst (v := (1 : Int32)) C dX8_last_26 (by decide) ?_
    refine q_istore (i := 5) (lv' := [(5, .int (1 : Int32)), (4, .int (-1 : Int32)), (3, .int (0 : Int32)), (2, .int v6), (0, .ref l0), (1, .int l1)]) C dX8_last_27 (by decide) rfl ?_
    obtain ⟨⟨x31, x32, x33, M34⟩, e30, h⟩ := bindE h
    refine q_sub (lv' := [(0, .ref l0), (1, .int l1), (2, .int v6), (3, .int (0 : Int32)), (4, .int (-1 : Int32)), (5, .int (1 : Int32))]) [4, 5, 3, 2, 1, 0] rfl (w_X8_last_l29 C hRO hl l0 l1 v6 (0 : Int32) (-1 : Int32) (1 : Int32) M13 e30 (fun r29 he => ?_))
    subst he
    have h := u4E h
    show wq X 7 81 [(1, .int l1), (2, .int x31), (3, .int x32), (4, .int x33)] [] M34
    refine q_iload_n 0 C dX8_last_81 rfl ?_
    refine q_if_ne (tgt := 98) C dX8_last_82 (by decide) (fun c35 => ?_) (fun c35 => ?_)
    · have h := ifF c35 h
      refine q_iload_n 1 C dX8_last_98 rfl ?_
      refine q_if_eq (tgt := 106) C dX8_last_99 (by decide) (fun c36 => ?_) (fun c36 => ?_)
      · have h := ifT c36 h
        refine q_iload 3 C dX8_last_106 rfl ?_
        cases h
        exact q_iret C kf dX8_last_108
      · have h := ifF c36 h
        refine q_iconst (v := (-1 : Int32)) C dX8_last_102 (by decide) ?_
        refine q_goto (tgt := 108) C dX8_last_103 (by decide) ?_
        cases h
        exact q_iret C kf dX8_last_108
    · have h := ifT c35 h
      refine q_iload_n 1 C dX8_last_85 rfl ?_
      refine q_if_eq (tgt := 93) C dX8_last_86 (by decide) (fun c37 => ?_) (fun c37 => ?_)
      · have h := ifT c37 h
        refine q_iload_n 2 C dX8_last_93 rfl ?_
        obtain ⟨v39, e38, h⟩ := bindE h
        refine q_callS (v := some (.int v39)) [.int x32] C hRO lk_RX8_294 sk_X8_leastBit rfl rfl (Nat.le_of_ble_eq_true rfl) (by decide) (by decide) dX8_last_94 (k_X8_leastBit X.1.2.1 hl X.2.2.1 x32 M34 _ e38) ?_
        cases h
        exact q_iret C kf dX8_last_97
      · have h := ifF c37 h
        refine q_iload_n 1 C dX8_last_89 rfl ?_
        refine q_goto (tgt := 94) C dX8_last_90 (by decide) ?_
        obtain ⟨v41, e40, h⟩ := bindE h
        refine q_callS (v := some (.int v41)) [.int x31] C hRO lk_RX8_294 sk_X8_leastBit rfl rfl (Nat.le_of_ble_eq_true rfl) (by decide) (by decide) dX8_last_94 (k_X8_leastBit X.1.2.1 hl X.2.2.1 x31 M34 _ e40) ?_
        cases h
        exact q_iret C kf dX8_last_97
  · skip
    cases h
    exact q_callSX [.int l1, .int (1 : Int32)] C kf lk_RX8_277 sk_X8_needWhat rfl rfl (Nat.le_of_ble_eq_true rfl) (by decide) (by decide) dX8_last_2 (k_X8_needWhat X.1.2.1 hl X.2.2.1 l1 (1 : Int32) M _ e1)
theorem k_X8_last (l : Launch) (hl : l.stackTraces = false) (G : GG) (l0 : Nat) (l1 : Int32) (M : Mem) (x : (Int32 × Mem) ⊕ (Nat × Mem)) (h : F_X8_last l0 l1 M = some x) : Ct l G yX8_last (.code yX8_last cX8_last 7 (some .int)) 12 260 [.ref l0, .int l1] M (rs_tI x) (ms_tI x) := by
  refine Ct_of (by decide +kernel) (Nat.le_of_ble_eq_true rfl) fun X e1 e2 e3 C FN hnm => ?_
  subst e1; subst e2
  show wq X 7 0 [(0, .ref l0), (1, .int l1)] [] M
  exact w_X8_last C FN.2.2.2 hl l0 l1 M h FN
/-! X8_leastOfMost -/
set_option maxRecDepth 100000 in
set_option maxHeartbeats 4000000 in
theorem w_X8_leastOfMost_s7 {X : CX} {y : (Int32 × Int32 × Int32) ⊕ (Int32)} (C : CK X cX8_leastOfMost 5 RX8 7 140) (hRO : RO X.2.2.1 X.1.2.2.2.2.1 X.1.2.2.2.2.1.heap) (hl : X.1.2.1.stackTraces = false) (l0 : Nat) (l1 : Int32) (M : Mem) (l2 : Int32) (l3 : Int32) (l4 : Int32) (h : F_X8_leastOfMost_s7 l0 l1 M l2 l3 l4 = some y) (kc : ∀ s' : Int32 × Int32 × Int32, y = .inl s' → wq X 5 7 [(0, .ref l0), (1, .int l1), (2, .int (s'.1)), (3, .int (s'.2.1)), (4, .int (s'.2.2))] [] M) (kx : ∀ e' : Int32, y = (.inr e') → wq X 5 42 [(2, .int (e'))] [] M) : wq X 5 7 [(0, .ref l0), (1, .int l1), (2, .int l2), (3, .int l3), (4, .int l4)] [] M := by
  unfold F_X8_leastOfMost_s7 at h
  refine q_iload 4 C dX8_leastOfMost_7 rfl ?_
  refine q_iload_n 1 C dX8_leastOfMost_9 rfl ?_
  refine q_icmp_ge (tgt := 42) C dX8_leastOfMost_10 (by decide) (fun c1 => ?_) (fun c1 => ?_)
  · have h := ifT c1 h
    exact q_sub (lv' := [(2, .int l2)]) [2] rfl (kx l2 (someI h))
  · have h := ifF c1 h
    refine q_iload 4 C dX8_leastOfMost_13 rfl ?_
    refine q_aload_n 0 C dX8_leastOfMost_15 rfl ?_
    obtain ⟨v2, e3, h⟩ := bindE h
    refine q_alen 0 100 C rfl (by decide) (by decide) e3 dX8_leastOfMost_16 ?_
    refine q_icmp_ge (tgt := 42) C dX8_leastOfMost_17 (by decide) (fun c4 => ?_) (fun c4 => ?_)
    · have h := ifT c4 h
      exact q_sub (lv' := [(2, .int l2)]) [2] rfl (kx l2 (someI h))
    · have h := ifF c4 h
      refine q_aload_n 0 C dX8_leastOfMost_20 rfl ?_
      refine q_iload 4 C dX8_leastOfMost_21 rfl ?_
      obtain ⟨v5, e6, h⟩ := bindE h
      refine q_iaload C e6 dX8_leastOfMost_23 ?_
      refine q_iload_n 3 C dX8_leastOfMost_24 rfl ?_
      refine q_icmp_le (tgt := 36) C dX8_leastOfMost_25 (by decide) (fun c7 => ?_) (fun c7 => ?_)
      · have h := ifT c7 h
        refine q_iinc 4 (v := (l4 + (1 : Int32))) (lv' := [(4, .int (l4 + (1 : Int32))), (0, .ref l0), (1, .int l1), (2, .int l2), (3, .int l3)]) C dX8_leastOfMost_36 rfl rfl (by decide) rfl ?_
        refine q_goto (tgt := 7) C dX8_leastOfMost_39 (by decide) ?_
        exact q_sub (lv' := [(0, .ref l0), (1, .int l1), (2, .int l2), (3, .int l3), (4, .int (l4 + (1 : Int32)))]) [1, 2, 3, 4, 0] rfl (kc (l2, l3, (l4 + (1 : Int32))) (someI h))
      · have h := ifF c7 h
        refine q_aload_n 0 C dX8_leastOfMost_28 rfl ?_
        refine q_iload 4 C dX8_leastOfMost_29 rfl ?_
        obtain ⟨v8, e9, h⟩ := bindE h
        refine q_iaload C e9 dX8_leastOfMost_31 ?_
        refine q_istore_n (i := 3) (lv' := [(3, .int v8), (0, .ref l0), (1, .int l1), (2, .int l2), (4, .int l4)]) C dX8_leastOfMost_32 rfl (by decide) rfl ?_
        refine q_iload 4 C dX8_leastOfMost_33 rfl ?_
        refine q_istore_n (i := 2) (lv' := [(2, .int l4), (3, .int v8), (0, .ref l0), (1, .int l1), (4, .int l4)]) C dX8_leastOfMost_35 rfl (by decide) rfl ?_
        refine q_iinc 4 (v := (l4 + (1 : Int32))) (lv' := [(4, .int (l4 + (1 : Int32))), (2, .int l4), (3, .int v8), (0, .ref l0), (1, .int l1)]) C dX8_leastOfMost_36 rfl rfl (by decide) rfl ?_
        refine q_goto (tgt := 7) C dX8_leastOfMost_39 (by decide) ?_
        exact q_sub (lv' := [(0, .ref l0), (1, .int l1), (2, .int l4), (3, .int v8), (4, .int (l4 + (1 : Int32)))]) [3, 4, 1, 2, 0] rfl (kc (l4, v8, (l4 + (1 : Int32))) (someI h))
theorem w_X8_leastOfMost_l7 {X : CX} {r : Int32} (C : CK X cX8_leastOfMost 5 RX8 7 140) (hRO : RO X.2.2.1 X.1.2.2.2.2.1 X.1.2.2.2.2.1.heap) (hl : X.1.2.1.stackTraces = false) (l0 : Nat) (l1 : Int32) (M : Mem) (l2 : Int32) (l3 : Int32) (l4 : Int32) (h : loop (fun s => F_X8_leastOfMost_s7 l0 l1 M s.1 s.2.1 s.2.2) (l2, l3, l4) = some r) (kx : ∀ e' : Int32, r = e' → wq X 5 42 [(2, .int (e'))] [] M) : wq X 5 7 [(0, .ref l0), (1, .int l1), (2, .int l2), (3, .int l3), (4, .int l4)] [] M :=
  loop_ind (P := fun s => wq X 5 7 [(0, .ref l0), (1, .int l1), (2, .int s.1), (3, .int s.2.1), (4, .int s.2.2)] [] M) h (fun s y hy kc kr => w_X8_leastOfMost_s7 C hRO hl l0 l1 M s.1 s.2.1 s.2.2 hy kc (fun e' he => kx e' (kr _ he).symm))
set_option maxRecDepth 100000 in
set_option maxHeartbeats 4000000 in
theorem w_X8_leastOfMost {X : CX} {y : Int32} (C : CK X cX8_leastOfMost 5 RX8 7 140) (hRO : RO X.2.2.1 X.1.2.2.2.2.1 X.1.2.2.2.2.1.heap) (hl : X.1.2.1.stackTraces = false) (l0 : Nat) (l1 : Int32) (M : Mem) (h : F_X8_leastOfMost l0 l1 M = some y) (kf : FIN X (some .int) (rs_pI y) M) : wq X 5 0 [(0, .ref l0), (1, .int l1)] [] M := by
  unfold F_X8_leastOfMost at h
  refine q_iconst (v := (-1 : Int32)) C dX8_leastOfMost_0 (by decide) ?_
  refine q_istore_n (i := 2) (lv' := [(2, .int (-1 : Int32)), (0, .ref l0), (1, .int l1)]) C dX8_leastOfMost_1 rfl (by decide) rfl ?_
  refine q_iconst (v := (-1 : Int32)) C dX8_leastOfMost_2 (by decide) ?_
  refine q_istore_n (i := 3) (lv' := [(3, .int (-1 : Int32)), (2, .int (-1 : Int32)), (0, .ref l0), (1, .int l1)]) C dX8_leastOfMost_3 rfl (by decide) rfl ?_
  refine q_iconst (v := (0 : Int32)) C dX8_leastOfMost_4 (by decide) ?_
  refine q_istore (i := 4) (lv' := [(4, .int (0 : Int32)), (3, .int (-1 : Int32)), (2, .int (-1 : Int32)), (0, .ref l0), (1, .int l1)]) C dX8_leastOfMost_5 (by decide) rfl ?_
  obtain ⟨x12, e11, h⟩ := bindE h
  refine q_sub (lv' := [(0, .ref l0), (1, .int l1), (2, .int (-1 : Int32)), (3, .int (-1 : Int32)), (4, .int (0 : Int32))]) [3, 4, 2, 1, 0] rfl (w_X8_leastOfMost_l7 C hRO hl l0 l1 M (-1 : Int32) (-1 : Int32) (0 : Int32) e11 (fun r10 he => ?_))
  subst he
  show wq X 5 42 [(2, .int x12)] [] M
  refine q_iload_n 0 C dX8_leastOfMost_42 rfl ?_
  cases h
  exact q_iret C kf dX8_leastOfMost_43
theorem k_X8_leastOfMost (l : Launch) (hl : l.stackTraces = false) (G : GG) (l0 : Nat) (l1 : Int32) (M : Mem) (x : Int32) (h : F_X8_leastOfMost l0 l1 M = some x) : Ct l G yX8_leastOfMost (.code yX8_leastOfMost cX8_leastOfMost 5 (some .int)) 7 140 [.ref l0, .int l1] M (rs_pI x) M := by
  refine Ct_of (by decide +kernel) (Nat.le_of_ble_eq_true rfl) fun X e1 e2 e3 C FN hnm => ?_
  subst e1; subst e2
  show wq X 5 0 [(0, .ref l0), (1, .int l1)] [] M
  exact w_X8_leastOfMost C FN.2.2.2 hl l0 l1 M h FN
/-! X8_letIn -/
set_option maxRecDepth 100000 in
set_option maxHeartbeats 4000000 in
theorem w_X8_letIn {X : CX} {y : Int32 × Mem} (C : CK X cX8_letIn 2 RX8 11 226) (hRO : RO X.2.2.1 X.1.2.2.2.2.1 X.1.2.2.2.2.1.heap) (hl : X.1.2.1.stackTraces = false) (l0 : Nat) (M : Mem) (h : F_X8_letIn l0 M = some y) (kf : FIN X (some .int) (rs_mI y) (ms_mI y)) : wq X 2 0 [(0, .ref l0)] [] M := by
  unfold F_X8_letIn at h
  refine q_aload_n 0 C dX8_letIn_0 rfl ?_
  obtain ⟨v1, e2, h⟩ := bindE h
  refine q_getP C fl_RX8_33 rfl e2 dX8_letIn_1 ?_
  obtain ⟨v3, e4, h⟩ := bindE h
  refine q_getI C fl_RX8_266 rfl e4 dX8_letIn_4 ?_
  refine q_if_eq (tgt := 15) C dX8_letIn_7 (by decide) (fun c5 => ?_) (fun c5 => ?_)
  · have h := ifT c5 h
    refine q_aload_n 0 C dX8_letIn_15 rfl ?_
    obtain ⟨v6, e7, h⟩ := bindE h
    refine q_getP C fl_RX8_43 rfl e7 dX8_letIn_16 ?_
    refine q_aload_n 0 C dX8_letIn_19 rfl ?_
    obtain ⟨v8, e9, h⟩ := bindE h
    refine q_getP C fl_RX8_33 rfl e9 dX8_letIn_20 ?_
    obtain ⟨e10, h⟩ := ckOE h
    obtain ⟨M12, e11, h⟩ := bindE h
    refine q_callV (v := none) [.ref v8] C hRO lk_RX8_242 vk_X0_keep e10 rfl rfl rfl (Nat.le_of_ble_eq_true rfl) (by decide) (by decide) dX8_letIn_23 (k_X0_keep X.1.2.1 hl X.2.2.1 v6 v8 M _ e11) ?_
    refine q_aload_n 0 C dX8_letIn_26 rfl ?_
    obtain ⟨v14, e15, h⟩ := bindE h
    refine q_getP C fl_RX8_23 rfl e15 dX8_letIn_27 ?_
    refine q_aload_n 0 C dX8_letIn_30 rfl ?_
    obtain ⟨v16, e17, h⟩ := bindE h
    refine q_getP C fl_RX8_33 rfl e17 dX8_letIn_31 ?_
    obtain ⟨e18, h⟩ := ckOE h
    obtain ⟨v20, e19, h⟩ := bindE h
    refine q_callV (v := some (.int v20)) [.ref v16] C hRO lk_RX8_128 vk_X2_dampOf e18 rfl rfl rfl (Nat.le_of_ble_eq_true rfl) (by decide) (by decide) dX8_letIn_34 (k_X2_dampOf X.1.2.1 hl X.2.2.1 v14 v16 M12 _ e19) ?_
    refine q_istore_n (i := 1) (lv' := [(1, .int v20), (0, .ref l0)]) C dX8_letIn_37 rfl (by decide) rfl ?_
    refine q_aload_n 1 C dX8_letIn_38 rfl ?_
    obtain ⟨v21, e22, h⟩ := bindE h
    refine q_getP C fl_RX8_33 rfl e22 dX8_letIn_39 ?_
    refine q_iconst (v := (1 : Int32)) C dX8_letIn_42 (by decide) ?_
    obtain ⟨M23, e24, h⟩ := bindE h
    refine q_putZ C fp_RX8_266 rfl e24 dX8_letIn_43 ?_
    refine q_iload_n 0 C dX8_letIn_46 rfl ?_
    cases h
    exact q_iret C kf dX8_letIn_47
  · have h := ifF c5 h
    refine q_aload_n 0 C dX8_letIn_10 rfl ?_
    obtain ⟨e25, h⟩ := ckOE h
    obtain ⟨v28, M27, e26, h⟩ := bd2E h
    refine q_callV (v := some (.int v28)) [] C hRO lk_RX8_239 vk_X8_refuseAct e25 rfl rfl rfl (Nat.le_of_ble_eq_true rfl) (by decide) (by decide) dX8_letIn_11 (k_X8_refuseAct X.1.2.1 hl X.2.2.1 l0 M _ e26) ?_
    cases h
    exact q_iret C kf dX8_letIn_14
theorem k_X8_letIn (l : Launch) (hl : l.stackTraces = false) (G : GG) (l0 : Nat) (M : Mem) (x : Int32 × Mem) (h : F_X8_letIn l0 M = some x) : Ct l G yX8_letIn (.code yX8_letIn cX8_letIn 2 (some .int)) 11 226 [.ref l0] M (rs_mI x) (ms_mI x) := by
  refine Ct_of (by decide +kernel) (Nat.le_of_ble_eq_true rfl) fun X e1 e2 e3 C FN hnm => ?_
  subst e1; subst e2
  show wq X 2 0 [(0, .ref l0)] [] M
  exact w_X8_letIn C FN.2.2.2 hl l0 M h FN
/-! X8_match -/
set_option maxRecDepth 100000 in
set_option maxHeartbeats 4000000 in
theorem w_X8_match {X : CX} {y : (Int32 × Mem) ⊕ (Nat × Mem)} (C : CK X cX8_match 2 RX8 12 262) (hRO : RO X.2.2.1 X.1.2.2.2.2.1 X.1.2.2.2.2.1.heap) (hl : X.1.2.1.stackTraces = false) (l0 : Nat) (l1 : Int32) (M : Mem) (h : F_X8_match l0 l1 M = some y) (kf : FIN X (some .int) (rs_tI y) (ms_tI y)) : wq X 2 0 [(0, .ref l0), (1, .int l1)] [] M := by
  unfold F_X8_match at h
  refine q_iload_n 1 C dX8_match_0 rfl ?_
  refine q_iconst (v := (1 : Int32)) C dX8_match_1 (by decide) ?_
  rcases bdVE h with ⟨M2, e1, h⟩ | ⟨x25, M26, e1, h⟩
  · refine q_callS (v := none) [.int l1, .int (1 : Int32)] C hRO lk_RX8_277 sk_X8_needWhat rfl rfl (Nat.le_of_ble_eq_true rfl) (by decide) (by decide) dX8_match_2 (k_X8_needWhat X.1.2.1 hl X.2.2.1 l1 (1 : Int32) M _ e1) ?_
    refine q_aload_n 0 C dX8_match_5 rfl ?_
    obtain ⟨v4, e5, h⟩ := bindE h
    refine q_getP C fl_RX8_74 rfl e5 dX8_match_6 ?_
    refine q_aload_n 0 C dX8_match_9 rfl ?_
    obtain ⟨v6, e7, h⟩ := bindE h
    refine q_getP C fl_RX8_23 rfl e7 dX8_match_10 ?_
    refine q_aload_n 0 C dX8_match_13 rfl ?_
    obtain ⟨v8, e9, h⟩ := bindE h
    refine q_getP C fl_RX8_33 rfl e9 dX8_match_14 ?_
    obtain ⟨e10, h⟩ := ckOE h
    obtain ⟨M12, e11, h⟩ := bindE h
    refine q_callV (v := none) [.ref v6, .ref v8] C hRO lk_RX8_176 vk_X1_solve e10 rfl rfl rfl (Nat.le_of_ble_eq_true rfl) (by decide) (by decide) dX8_match_17 (k_X1_solve X.1.2.1 hl X.2.2.1 v4 v6 v8 M2 _ e11) ?_
    refine q_iload_n 1 C dX8_match_20 rfl ?_
    refine q_if_ne (tgt := 34) C dX8_match_21 (by decide) (fun c14 => ?_) (fun c14 => ?_)
    · have h := ifF c14 h
      refine q_aload_n 0 C dX8_match_34 rfl ?_
      obtain ⟨v15, e16, h⟩ := bindE h
      refine q_getP C fl_RX8_74 rfl e16 dX8_match_35 ?_
      obtain ⟨e17, h⟩ := ckOE h
      obtain ⟨v19, e18, h⟩ := bindE h
      refine q_callV (v := some (.int v19)) [] C hRO lk_RX8_297 vk_X1_tight e17 rfl rfl rfl (Nat.le_of_ble_eq_true rfl) (by decide) (by decide) dX8_match_38 (k_X1_tight X.1.2.1 hl X.2.2.1 v15 M12 _ e18) ?_
      cases h
      exact q_iret C kf dX8_match_41
    · have h := ifT c14 h
      refine q_aload_n 0 C dX8_match_24 rfl ?_
      obtain ⟨v20, e21, h⟩ := bindE h
      refine q_getP C fl_RX8_74 rfl e21 dX8_match_25 ?_
      obtain ⟨e22, h⟩ := ckOE h
      obtain ⟨v24, e23, h⟩ := bindE h
      refine q_callV (v := some (.int v24)) [] C hRO lk_RX8_183 vk_X1_lodge e22 rfl rfl rfl (Nat.le_of_ble_eq_true rfl) (by decide) (by decide) dX8_match_28 (k_X1_lodge X.1.2.1 hl X.2.2.1 v20 M12 _ e23) ?_
      refine q_goto (tgt := 41) C dX8_match_31 (by decide) ?_
      cases h
      exact q_iret C kf dX8_match_41
  · skip
    cases h
    exact q_callSX [.int l1, .int (1 : Int32)] C kf lk_RX8_277 sk_X8_needWhat rfl rfl (Nat.le_of_ble_eq_true rfl) (by decide) (by decide) dX8_match_2 (k_X8_needWhat X.1.2.1 hl X.2.2.1 l1 (1 : Int32) M _ e1)
theorem k_X8_match (l : Launch) (hl : l.stackTraces = false) (G : GG) (l0 : Nat) (l1 : Int32) (M : Mem) (x : (Int32 × Mem) ⊕ (Nat × Mem)) (h : F_X8_match l0 l1 M = some x) : Ct l G yX8_match (.code yX8_match cX8_match 2 (some .int)) 12 262 [.ref l0, .int l1] M (rs_tI x) (ms_tI x) := by
  refine Ct_of (by decide +kernel) (Nat.le_of_ble_eq_true rfl) fun X e1 e2 e3 C FN hnm => ?_
  subst e1; subst e2
  show wq X 2 0 [(0, .ref l0), (1, .int l1)] [] M
  exact w_X8_match C FN.2.2.2 hl l0 l1 M h FN
/-! X8_matched -/
set_option maxRecDepth 100000 in
set_option maxHeartbeats 4000000 in
theorem w_X8_matched {X : CX} {y : (Int32 × Mem) ⊕ (Nat × Mem)} (C : CK X cX8_matched 2 RX8 12 262) (hRO : RO X.2.2.1 X.1.2.2.2.2.1 X.1.2.2.2.2.1.heap) (hl : X.1.2.1.stackTraces = false) (l0 : Nat) (l1 : Int32) (M : Mem) (h : F_X8_matched l0 l1 M = some y) (kf : FIN X (some .int) (rs_tI y) (ms_tI y)) : wq X 2 0 [(0, .ref l0), (1, .int l1)] [] M := by
  unfold F_X8_matched at h
  refine q_aload_n 0 C dX8_matched_0 rfl ?_
  refine q_iload_n 1 C dX8_matched_1 rfl ?_
  obtain ⟨e1, h⟩ := ckOE h
  rcases bdVE h with ⟨M3, e2, h⟩ | ⟨x20, M21, e2, h⟩
  · refine q_callV (v := none) [.int l1] C hRO lk_RX8_223 vk_X8_needPerson e1 rfl rfl rfl (Nat.le_of_ble_eq_true rfl) (by decide) (by decide) dX8_matched_2 (k_X8_needPerson X.1.2.1 hl X.2.2.1 l0 l1 M _ e2) ?_
    refine q_aload_n 0 C dX8_matched_5 rfl ?_
    obtain ⟨v5, e6, h⟩ := bindE h
    refine q_getP C fl_RX8_74 rfl e6 dX8_matched_6 ?_
    refine q_aload_n 0 C dX8_matched_9 rfl ?_
    obtain ⟨v7, e8, h⟩ := bindE h
    refine q_getP C fl_RX8_23 rfl e8 dX8_matched_10 ?_
    refine q_aload_n 0 C dX8_matched_13 rfl ?_
    obtain ⟨v9, e10, h⟩ := bindE h
    refine q_getP C fl_RX8_33 rfl e10 dX8_matched_14 ?_
    obtain ⟨e11, h⟩ := ckOE h
    obtain ⟨M13, e12, h⟩ := bindE h
    refine q_callV (v := none) [.ref v7, .ref v9] C hRO lk_RX8_176 vk_X1_solve e11 rfl rfl rfl (Nat.le_of_ble_eq_true rfl) (by decide) (by decide) dX8_matched_17 (k_X1_solve X.1.2.1 hl X.2.2.1 v5 v7 v9 M3 _ e12) ?_
    refine q_aload_n 0 C dX8_matched_20 rfl ?_
    obtain ⟨v15, e16, h⟩ := bindE h
    refine q_getP C fl_RX8_74 rfl e16 dX8_matched_21 ?_
    refine q_iload_n 1 C dX8_matched_24 rfl ?_
    obtain ⟨e17, h⟩ := ckOE h
    obtain ⟨v19, e18, h⟩ := bindE h
    refine q_callV (v := some (.int v19)) [.int l1] C hRO lk_RX8_299 vk_X1_houseOf e17 rfl rfl rfl (Nat.le_of_ble_eq_true rfl) (by decide) (by decide) dX8_matched_25 (k_X1_houseOf X.1.2.1 hl X.2.2.1 v15 l1 M13 _ e18) ?_
    cases h
    exact q_iret C kf dX8_matched_28
  · skip
    cases h
    exact q_callVX [.int l1] C kf lk_RX8_223 vk_X8_needPerson e1 rfl rfl rfl (Nat.le_of_ble_eq_true rfl) (by decide) (by decide) dX8_matched_2 (k_X8_needPerson X.1.2.1 hl X.2.2.1 l0 l1 M _ e2)
theorem k_X8_matched (l : Launch) (hl : l.stackTraces = false) (G : GG) (l0 : Nat) (l1 : Int32) (M : Mem) (x : (Int32 × Mem) ⊕ (Nat × Mem)) (h : F_X8_matched l0 l1 M = some x) : Ct l G yX8_matched (.code yX8_matched cX8_matched 2 (some .int)) 12 262 [.ref l0, .int l1] M (rs_tI x) (ms_tI x) := by
  refine Ct_of (by decide +kernel) (Nat.le_of_ble_eq_true rfl) fun X e1 e2 e3 C FN hnm => ?_
  subst e1; subst e2
  show wq X 2 0 [(0, .ref l0), (1, .int l1)] [] M
  exact w_X8_matched C FN.2.2.2 hl l0 l1 M h FN
/-! X8_wornAtSill -/
set_option maxRecDepth 100000 in
set_option maxHeartbeats 4000000 in
theorem w_X8_wornAtSill_s24 {X : CX} {y : (Int32 × Mem) ⊕ (Mem)} (C : CK X cX8_wornAtSill 5 RX8 11 238) (hRO : RO X.2.2.1 X.1.2.2.2.2.1 X.1.2.2.2.2.1.heap) (hl : X.1.2.1.stackTraces = false) (l0 : Nat) (l3 : Int32) (l4 : Int32) (M : Mem) (h : F_X8_wornAtSill_s24 l0 l3 l4 M = some y) (kc : ∀ s' : Int32 × Mem, y = .inl s' → wq X 5 24 [(0, .ref l0), (3, .int l3), (4, .int (s'.1))] [] s'.2) (kx : ∀ e' : Mem, y = (.inr e') → wq X 5 59 [(0, .ref l0), (3, .int l3)] [] e') : wq X 5 24 [(0, .ref l0), (3, .int l3), (4, .int l4)] [] M := by
  unfold F_X8_wornAtSill_s24 at h
  refine q_iload 2 C dX8_wornAtSill_24 rfl ?_
  refine q_iconst (v := (5 : Int32)) C dX8_wornAtSill_26 (by decide) ?_
  refine q_icmp_ge (tgt := 59) C dX8_wornAtSill_27 (by decide) (fun c15 => ?_) (fun c15 => ?_)
  · have h := ifT c15 h
    exact q_sub (lv' := [(0, .ref l0), (3, .int l3)]) [0, 1] rfl (kx M (someI h))
  · have h := ifF c15 h
    refine q_aload_n 0 C dX8_wornAtSill_30 rfl ?_
    obtain ⟨v16, e17, h⟩ := bindE h
    refine q_getP C fl_RX8_23 rfl e17 dX8_wornAtSill_31 ?_
    refine q_aload_n 0 C dX8_wornAtSill_34 rfl ?_
    obtain ⟨v18, e19, h⟩ := bindE h
    refine q_getP C fl_RX8_37 rfl e19 dX8_wornAtSill_35 ?_
    refine q_iload_n 1 C dX8_wornAtSill_38 rfl ?_
    refine q_aload_n 0 C dX8_wornAtSill_39 rfl ?_
    obtain ⟨v20, e21, h⟩ := bindE h
    refine q_getP C fl_RX8_23 rfl e21 dX8_wornAtSill_40 ?_
    refine q_aload_n 0 C dX8_wornAtSill_43 rfl ?_
    obtain ⟨v22, e23, h⟩ := bindE h
    refine q_getP C fl_RX8_37 rfl e23 dX8_wornAtSill_44 ?_
    obtain ⟨e24, h⟩ := ckOE h
    obtain ⟨v26, e25, h⟩ := bindE h
    refine q_callV (v := some (.int v26)) [.ref v22] C hRO lk_RX8_128 vk_X2_dampOf e24 rfl rfl rfl (Nat.le_of_ble_eq_true rfl) (by decide) (by decide) dX8_wornAtSill_47 (k_X2_dampOf X.1.2.1 hl X.2.2.1 v20 v22 M _ e25) ?_
    obtain ⟨e27, h⟩ := ckOE h
    obtain ⟨M29, e28, h⟩ := bindE h
    refine q_callV (v := none) [.ref v18, .int l3, .int v26] C hRO lk_RX8_290 vk_X2_passAlone e27 rfl rfl rfl (Nat.le_of_ble_eq_true rfl) (by decide) (by decide) dX8_wornAtSill_50 (k_X2_passAlone X.1.2.1 hl X.2.2.1 v16 v18 l3 v26 M _ e28) ?_
    refine q_iinc 2 (v := (l4 + (1 : Int32))) (lv' := [(4, .int (l4 + (1 : Int32))), (0, .ref l0), (3, .int l3)]) C dX8_wornAtSill_53 rfl rfl (by decide) rfl ?_
    refine q_goto (tgt := 24) C dX8_wornAtSill_56 (by decide) ?_
    exact q_sub (lv' := [(0, .ref l0), (3, .int l3), (4, .int (l4 + (1 : Int32)))]) [1, 2, 0] rfl (kc ((l4 + (1 : Int32)), M29) (someI h))
theorem w_X8_wornAtSill_l24 {X : CX} {r : Mem} (C : CK X cX8_wornAtSill 5 RX8 11 238) (hRO : RO X.2.2.1 X.1.2.2.2.2.1 X.1.2.2.2.2.1.heap) (hl : X.1.2.1.stackTraces = false) (l0 : Nat) (l3 : Int32) (l4 : Int32) (M : Mem) (h : loop (fun s => F_X8_wornAtSill_s24 l0 l3 s.1 s.2) (l4, M) = some r) (kx : ∀ e' : Mem, r = e' → wq X 5 59 [(0, .ref l0), (3, .int l3)] [] e') : wq X 5 24 [(0, .ref l0), (3, .int l3), (4, .int l4)] [] M :=
  loop_ind (P := fun s => wq X 5 24 [(0, .ref l0), (3, .int l3), (4, .int s.1)] [] s.2) h (fun s y hy kc kr => w_X8_wornAtSill_s24 C hRO hl l0 l3 s.1 s.2 hy kc (fun e' he => kx e' (kr _ he).symm))
set_option maxRecDepth 100000 in
set_option maxHeartbeats 4000000 in
theorem w_X8_wornAtSill {X : CX} {y : Int32 × Mem} (C : CK X cX8_wornAtSill 5 RX8 11 238) (hRO : RO X.2.2.1 X.1.2.2.2.2.1 X.1.2.2.2.2.1.heap) (hl : X.1.2.1.stackTraces = false) (l0 : Nat) (l1 : Int32) (l2 : Int32) (l3 : Int32) (M : Mem) (h : F_X8_wornAtSill l0 l1 l2 l3 M = some y) (kf : FIN X (some .int) (rs_mI y) (ms_mI y)) : wq X 5 0 [(0, .ref l0), (1, .int l1), (2, .int l2), (3, .int l3)] [] M := by
  unfold F_X8_wornAtSill at h
  refine q_aload_n 0 C dX8_wornAtSill_0 rfl ?_
  obtain ⟨v1, e2, h⟩ := bindE h
  refine q_getP C fl_RX8_37 rfl e2 dX8_wornAtSill_1 ?_
  refine q_aload_n 0 C dX8_wornAtSill_4 rfl ?_
  obtain ⟨v3, e4, h⟩ := bindE h
  refine q_getP C fl_RX8_33 rfl e4 dX8_wornAtSill_5 ?_
  obtain ⟨e5, h⟩ := ckOE h
  obtain ⟨M7, e6, h⟩ := bindE h
  refine q_callV (v := none) [.ref v3] C hRO lk_RX8_274 vk_X6_copy e5 rfl rfl rfl (Nat.le_of_ble_eq_true rfl) (by decide) (by decide) dX8_wornAtSill_8 (k_X6_copy X.1.2.1 hl X.2.2.1 v1 v3 M _ e6) ?_
  refine q_aload_n 0 C dX8_wornAtSill_11 rfl ?_
  obtain ⟨v9, e10, h⟩ := bindE h
  refine q_getP C fl_RX8_37 rfl e10 dX8_wornAtSill_12 ?_
  obtain ⟨v11, e12, h⟩ := bindE h
  refine q_getP C fl_RX8_212 rfl e12 dX8_wornAtSill_15 ?_
  refine q_iload_n 1 C dX8_wornAtSill_18 rfl ?_
  refine q_iload_n 2 C dX8_wornAtSill_19 rfl ?_
  obtain ⟨M13, e14, h⟩ := bindE h
  refine q_iastore C e14 dX8_wornAtSill_20 ?_
  refine q_iconst (v := (0 : Int32)) C dX8_wornAtSill_21 (by decide) ?_
  refine q_istore (i := 4) (lv' := [(4, .int (0 : Int32)), (0, .ref l0), (1, .int l1), (2, .int l2), (3, .int l3)]) C dX8_wornAtSill_22 (by decide) rfl ?_
  obtain ⟨M33, e32, h⟩ := bindE h
  refine q_sub (lv' := [(0, .ref l0), (3, .int l3), (4, .int (0 : Int32))]) [1, 4, 0] rfl (w_X8_wornAtSill_l24 C hRO hl l0 l3 (0 : Int32) M13 e32 (fun r31 he => ?_))
  subst he
  show wq X 5 59 [(0, .ref l0), (3, .int l3)] [] M33
  refine q_aload_n 0 C dX8_wornAtSill_59 rfl ?_
  obtain ⟨v34, e35, h⟩ := bindE h
  refine q_getP C fl_RX8_37 rfl e35 dX8_wornAtSill_60 ?_
  obtain ⟨v36, e37, h⟩ := bindE h
  refine q_getP C fl_RX8_197 rfl e37 dX8_wornAtSill_63 ?_
  refine q_iload_n 1 C dX8_wornAtSill_66 rfl ?_
  obtain ⟨v38, e39, h⟩ := bindE h
  refine q_iaload C e39 dX8_wornAtSill_67 ?_
  cases h
  exact q_iret C kf dX8_wornAtSill_68
theorem k_X8_wornAtSill (l : Launch) (hl : l.stackTraces = false) (G : GG) (l0 : Nat) (l1 : Int32) (l2 : Int32) (l3 : Int32) (M : Mem) (x : Int32 × Mem) (h : F_X8_wornAtSill l0 l1 l2 l3 M = some x) : Ct l G yX8_wornAtSill (.code yX8_wornAtSill cX8_wornAtSill 5 (some .int)) 11 238 [.ref l0, .int l1, .int l2, .int l3] M (rs_mI x) (ms_mI x) := by
  refine Ct_of (by decide +kernel) (Nat.le_of_ble_eq_true rfl) fun X e1 e2 e3 C FN hnm => ?_
  subst e1; subst e2
  show wq X 5 0 [(0, .ref l0), (1, .int l1), (2, .int l2), (3, .int l3)] [] M
  exact w_X8_wornAtSill C FN.2.2.2 hl l0 l1 l2 l3 M h FN
/-! X8_unlikeWorn -/
set_option maxRecDepth 100000 in
set_option maxHeartbeats 4000000 in
theorem w_X8_unlikeWorn_j111_65 {X : CX} {y : (Int64 × Int64 × Int32 × Mem) ⊕ (Int64 × Int64 × Mem)} (C : CK X cX8_unlikeWorn 11 RX8 12 262) (hRO : RO X.2.2.1 X.1.2.2.2.2.1 X.1.2.2.2.2.1.heap) (hl : X.1.2.1.stackTraces = false) (l0 : Nat) (l1 : Int32) (l4 : Int64) (l6 : Int32) (l7 : Int64) (l9 : Int32) (l10 : Int32) (t0 : Int64) (t1 : Int64) (M : Mem) (h : F_X8_unlikeWorn_j111_65 l0 l1 l4 l6 l7 l9 l10 t0 t1 M = some y) (kc : ∀ s' : Int64 × Int64 × Int32 × Mem, y = .inl s' → wq X 11 65 [(0, .ref l0), (1, .int l1), (2, .long (s'.1)), (4, .long (s'.2.1)), (6, .int l6), (7, .long l7), (9, .int (s'.2.2.1))] [] s'.2.2.2) (kx : ∀ e' : Int64 × Int64 × Mem, y = (.inr e') → wq X 11 142 [(0, .ref l0), (1, .int l1), (2, .long (e'.1)), (4, .long (e'.2.1)), (6, .int l6)] [] e'.2.2) : wq X 11 111 [(0, .ref l0), (1, .int l1), (4, .long l4), (6, .int l6), (7, .long l7), (9, .int l9), (10, .int l10)] [.long t0, .long t1] M := by
  unfold F_X8_unlikeWorn_j111_65 at h
  refine q_lor C dX8_unlikeWorn_111 ?_
  refine q_lstore_n (i := 2) (lv' := [(2, .long (t1 ||| t0)), (0, .ref l0), (1, .int l1), (4, .long l4), (6, .int l6), (7, .long l7), (9, .int l9), (10, .int l10)]) C dX8_unlikeWorn_112 rfl (by decide) rfl ?_
  refine q_lload 3 C dX8_unlikeWorn_113 rfl ?_
  refine q_iload 7 C dX8_unlikeWorn_115 rfl ?_
  refine q_bipush (v := (50 : Int32)) C dX8_unlikeWorn_117 (by decide) ?_
  refine q_icmp_ge (tgt := 126) C dX8_unlikeWorn_119 (by decide) (fun c28 => ?_) (fun c28 => ?_)
  · have h := ifT c28 h
    refine q_lconst (v := (1 : Int64)) C dX8_unlikeWorn_126 (by decide) ?_
    refine q_iload 7 C dX8_unlikeWorn_127 rfl ?_
    refine q_bipush (v := (50 : Int32)) C dX8_unlikeWorn_129 (by decide) ?_
    refine q_isub C dX8_unlikeWorn_131 ?_
    refine q_lshl C dX8_unlikeWorn_132 ?_
    refine q_lor C dX8_unlikeWorn_133 ?_
    obtain ⟨n29, e30, h⟩ := nmE h
    refine q_topL e30 ?_
    refine q_lstore (i := 4) (lv' := [(4, .long n29), (2, .long (t1 ||| t0)), (0, .ref l0), (1, .int l1), (6, .int l6), (7, .long l7), (9, .int l9), (10, .int l10)]) C dX8_unlikeWorn_134 (by decide) rfl ?_
    refine q_iinc 6 (v := (l9 + (1 : Int32))) (lv' := [(9, .int (l9 + (1 : Int32))), (4, .long n29), (2, .long (t1 ||| t0)), (0, .ref l0), (1, .int l1), (6, .int l6), (7, .long l7), (10, .int l10)]) C dX8_unlikeWorn_136 rfl rfl (by decide) rfl ?_
    refine q_goto (tgt := 65) C dX8_unlikeWorn_139 (by decide) ?_
    exact q_sub (lv' := [(0, .ref l0), (1, .int l1), (2, .long (t1 ||| t0)), (4, .long n29), (6, .int l6), (7, .long l7), (9, .int (l9 + (1 : Int32)))]) [3, 4, 2, 1, 5, 6, 0] rfl (kc ((t1 ||| t0), n29, (l9 + (1 : Int32)), M) (someI h))
  · have h := ifF c28 h
    refine q_lconst (v := (0 : Int64)) C dX8_unlikeWorn_122 (by decide) ?_
    refine q_goto (tgt := 133) C dX8_unlikeWorn_123 (by decide) ?_
    refine q_lor C dX8_unlikeWorn_133 ?_
    refine q_lstore (i := 4) (lv' := [(4, .long (l4 ||| (0 : Int64))), (2, .long (t1 ||| t0)), (0, .ref l0), (1, .int l1), (6, .int l6), (7, .long l7), (9, .int l9), (10, .int l10)]) C dX8_unlikeWorn_134 (by decide) rfl ?_
    refine q_iinc 6 (v := (l9 + (1 : Int32))) (lv' := [(9, .int (l9 + (1 : Int32))), (4, .long (l4 ||| (0 : Int64))), (2, .long (t1 ||| t0)), (0, .ref l0), (1, .int l1), (6, .int l6), (7, .long l7), (10, .int l10)]) C dX8_unlikeWorn_136 rfl rfl (by decide) rfl ?_
    refine q_goto (tgt := 65) C dX8_unlikeWorn_139 (by decide) ?_
    exact q_sub (lv' := [(0, .ref l0), (1, .int l1), (2, .long (t1 ||| t0)), (4, .long (l4 ||| (0 : Int64))), (6, .int l6), (7, .long l7), (9, .int (l9 + (1 : Int32)))]) [3, 4, 2, 1, 5, 6, 0] rfl (kc ((t1 ||| t0), (l4 ||| (0 : Int64)), (l9 + (1 : Int32)), M) (someI h))
set_option maxRecDepth 100000 in
set_option maxHeartbeats 4000000 in
theorem w_X8_unlikeWorn_s65 {X : CX} {y : (Int64 × Int64 × Int32 × Mem) ⊕ (Int64 × Int64 × Mem)} (C : CK X cX8_unlikeWorn 11 RX8 12 262) (hRO : RO X.2.2.1 X.1.2.2.2.2.1 X.1.2.2.2.2.1.heap) (hl : X.1.2.1.stackTraces = false) (l0 : Nat) (l1 : Int32) (l6 : Int32) (l7 : Int64) (l2 : Int64) (l4 : Int64) (l9 : Int32) (M : Mem) (h : F_X8_unlikeWorn_s65 l0 l1 l6 l7 l2 l4 l9 M = some y) (kc : ∀ s' : Int64 × Int64 × Int32 × Mem, y = .inl s' → wq X 11 65 [(0, .ref l0), (1, .int l1), (2, .long (s'.1)), (4, .long (s'.2.1)), (6, .int l6), (7, .long l7), (9, .int (s'.2.2.1))] [] s'.2.2.2) (kx : ∀ e' : Int64 × Int64 × Mem, y = (.inr e') → wq X 11 142 [(0, .ref l0), (1, .int l1), (2, .long (e'.1)), (4, .long (e'.2.1)), (6, .int l6)] [] e'.2.2) : wq X 11 65 [(0, .ref l0), (1, .int l1), (2, .long l2), (4, .long l4), (6, .int l6), (7, .long l7), (9, .int l9)] [] M := by
  unfold F_X8_unlikeWorn_s65 at h
  refine q_iload 6 C dX8_unlikeWorn_65 rfl ?_
  refine q_bipush (v := (60 : Int32)) C dX8_unlikeWorn_67 (by decide) ?_
  refine q_icmp_gt (tgt := 142) C dX8_unlikeWorn_69 (by decide) (fun c21 => ?_) (fun c21 => ?_)
  · have h := ifT c21 h
    exact q_sub (lv' := [(0, .ref l0), (1, .int l1), (2, .long l2), (4, .long l4), (6, .int l6)]) [0, 1, 2, 3, 4] rfl (kx (l2, l4, M) (someI h))
  · have h := ifF c21 h
    refine q_lload 5 C dX8_unlikeWorn_72 rfl ?_
    refine q_iload 6 C dX8_unlikeWorn_74 rfl ?_
    refine q_lshr C dX8_unlikeWorn_76 ?_
    refine q_lconst (v := (1 : Int64)) C dX8_unlikeWorn_77 (by decide) ?_
    refine q_land C dX8_unlikeWorn_78 ?_
    refine q_lconst (v := (1 : Int64)) C dX8_unlikeWorn_79 (by decide) ?_
    refine q_lcmp C dX8_unlikeWorn_80 ?_
    refine q_if_ne (tgt := 136) C dX8_unlikeWorn_81 (by decide) (fun c22 => ?_) (fun c22 => ?_)
    · have h := ifF c22 h
      refine q_iinc 6 (v := (l9 + (1 : Int32))) (lv' := [(9, .int (l9 + (1 : Int32))), (0, .ref l0), (1, .int l1), (2, .long l2), (4, .long l4), (6, .int l6), (7, .long l7)]) C dX8_unlikeWorn_136 rfl rfl (by decide) rfl ?_
      refine q_goto (tgt := 65) C dX8_unlikeWorn_139 (by decide) ?_
      exact q_sub (lv' := [(0, .ref l0), (1, .int l1), (2, .long l2), (4, .long l4), (6, .int l6), (7, .long l7), (9, .int (l9 + (1 : Int32)))]) [1, 2, 3, 4, 5, 6, 0] rfl (kc (l2, l4, (l9 + (1 : Int32)), M) (someI h))
    · have h := ifT c22 h
      refine q_aload_n 0 C dX8_unlikeWorn_84 rfl ?_
      refine q_iload 4 C dX8_unlikeWorn_85 rfl ?_
      refine q_iload 6 C dX8_unlikeWorn_87 rfl ?_
      refine q_iload_n 1 C dX8_unlikeWorn_89 rfl ?_
      obtain ⟨e23, h⟩ := ckOE h
      obtain ⟨v26, M25, e24, h⟩ := bd2E h
      refine q_callV (v := some (.int v26)) [.int l6, .int l9, .int l1] C hRO lk_RX8_350 vk_X8_wornAtSill e23 rfl rfl rfl (Nat.le_of_ble_eq_true rfl) (by decide) (by decide) dX8_unlikeWorn_90 (k_X8_wornAtSill X.1.2.1 hl X.2.2.1 l0 l6 l9 l1 M _ e24) ?_
      refine q_istore (i := 10) (lv' := [(10, .int v26), (0, .ref l0), (1, .int l1), (2, .long l2), (4, .long l4), (6, .int l6), (7, .long l7), (9, .int l9)]) C dX8_unlikeWorn_93 (by decide) rfl ?_
      refine q_lload_n 3 C dX8_unlikeWorn_95 rfl ?_
      refine q_iload 0 C dX8_unlikeWorn_96 rfl ?_
      refine q_bipush (v := (50 : Int32)) C dX8_unlikeWorn_98 (by decide) ?_
      refine q_icmp_ge (tgt := 110) C dX8_unlikeWorn_100 (by decide) (fun c27 => ?_) (fun c27 => ?_)
      · have h := ifT c27 h
        refine q_lconst (v := (0 : Int64)) C dX8_unlikeWorn_110 (by decide) ?_
        exact q_sub (lv' := [(0, .ref l0), (1, .int l1), (4, .long l4), (6, .int l6), (7, .long l7), (9, .int l9), (10, .int v26)]) [1, 2, 4, 5, 6, 7, 0] rfl (w_X8_unlikeWorn_j111_65 C hRO hl l0 l1 l4 l6 l7 l9 v26 (0 : Int64) l2 M25 h kc kx)
      · have h := ifF c27 h
        refine q_lconst (v := (1 : Int64)) C dX8_unlikeWorn_103 (by decide) ?_
        refine q_iload 0 C dX8_unlikeWorn_104 rfl ?_
        refine q_lshl C dX8_unlikeWorn_106 ?_
        refine q_goto (tgt := 111) C dX8_unlikeWorn_107 (by decide) ?_
        exact q_sub (lv' := [(0, .ref l0), (1, .int l1), (4, .long l4), (6, .int l6), (7, .long l7), (9, .int l9), (10, .int v26)]) [1, 2, 4, 5, 6, 7, 0] rfl (w_X8_unlikeWorn_j111_65 C hRO hl l0 l1 l4 l6 l7 l9 v26 ((1 : Int64) <<< ((v26).toInt64 &&& 63)) l2 M25 h kc kx)
theorem w_X8_unlikeWorn_l65 {X : CX} {r : Int64 × Int64 × Mem} (C : CK X cX8_unlikeWorn 11 RX8 12 262) (hRO : RO X.2.2.1 X.1.2.2.2.2.1 X.1.2.2.2.2.1.heap) (hl : X.1.2.1.stackTraces = false) (l0 : Nat) (l1 : Int32) (l6 : Int32) (l7 : Int64) (l2 : Int64) (l4 : Int64) (l9 : Int32) (M : Mem) (h : loop (fun s => F_X8_unlikeWorn_s65 l0 l1 l6 l7 s.1 s.2.1 s.2.2.1 s.2.2.2) (l2, l4, l9, M) = some r) (kx : ∀ e' : Int64 × Int64 × Mem, r = e' → wq X 11 142 [(0, .ref l0), (1, .int l1), (2, .long (e'.1)), (4, .long (e'.2.1)), (6, .int l6)] [] e'.2.2) : wq X 11 65 [(0, .ref l0), (1, .int l1), (2, .long l2), (4, .long l4), (6, .int l6), (7, .long l7), (9, .int l9)] [] M :=
  loop_ind (P := fun s => wq X 11 65 [(0, .ref l0), (1, .int l1), (2, .long s.1), (4, .long s.2.1), (6, .int l6), (7, .long l7), (9, .int s.2.2.1)] [] s.2.2.2) h (fun s y hy kc kr => w_X8_unlikeWorn_s65 C hRO hl l0 l1 l6 l7 s.1 s.2.1 s.2.2.1 s.2.2.2 hy kc (fun e' he => kx e' (kr _ he).symm))
set_option maxRecDepth 100000 in
set_option maxHeartbeats 4000000 in
theorem w_X8_unlikeWorn_s8 {X : CX} {y : (Int64 × Int64 × Int32 × Mem) ⊕ (Int64 × Int64 × Mem)} (C : CK X cX8_unlikeWorn 11 RX8 12 262) (hRO : RO X.2.2.1 X.1.2.2.2.2.1 X.1.2.2.2.2.1.heap) (hl : X.1.2.1.stackTraces = false) (l0 : Nat) (l1 : Int32) (l2 : Int64) (l4 : Int64) (l6 : Int32) (M : Mem) (h : F_X8_unlikeWorn_s8 l0 l1 l2 l4 l6 M = some y) (kc : ∀ s' : Int64 × Int64 × Int32 × Mem, y = .inl s' → wq X 11 8 [(0, .ref l0), (1, .int l1), (2, .long (s'.1)), (4, .long (s'.2.1)), (6, .int (s'.2.2.1))] [] s'.2.2.2) (kx : ∀ e' : Int64 × Int64 × Mem, y = (.inr e') → wq X 11 148 [(2, .long (e'.1)), (4, .long (e'.2.1))] [] e'.2.2) : wq X 11 8 [(0, .ref l0), (1, .int l1), (2, .long l2), (4, .long l4), (6, .int l6)] [] M := by
  unfold F_X8_unlikeWorn_s8 at h
  refine q_iload 4 C dX8_unlikeWorn_8 rfl ?_
  refine q_aload_n 0 C dX8_unlikeWorn_10 rfl ?_
  obtain ⟨v1, e2, h⟩ := bindE h
  refine q_getP C fl_RX8_23 rfl e2 dX8_unlikeWorn_11 ?_
  obtain ⟨v3, e4, h⟩ := bindE h
  refine q_getI C fl_RX8_122 rfl e4 dX8_unlikeWorn_14 ?_
  refine q_icmp_ge (tgt := 148) C dX8_unlikeWorn_17 (by decide) (fun c5 => ?_) (fun c5 => ?_)
  · have h := ifT c5 h
    exact q_sub (lv' := [(2, .long l2), (4, .long l4)]) [2, 3] rfl (kx (l2, l4, M) (someI h))
  · have h := ifF c5 h
    refine q_aload_n 0 C dX8_unlikeWorn_20 rfl ?_
    obtain ⟨v6, e7, h⟩ := bindE h
    refine q_getP C fl_RX8_33 rfl e7 dX8_unlikeWorn_21 ?_
    obtain ⟨v8, e9, h⟩ := bindE h
    refine q_getP C fl_RX8_162 rfl e9 dX8_unlikeWorn_24 ?_
    refine q_iload 4 C dX8_unlikeWorn_27 rfl ?_
    obtain ⟨v10, e11, h⟩ := bindE h
    refine q_iaload C e11 dX8_unlikeWorn_29 ?_
    refine q_iload_n 1 C dX8_unlikeWorn_30 rfl ?_
    refine q_icmp_ne (tgt := 44) C dX8_unlikeWorn_31 (by decide) (fun c12 => ?_) (fun c12 => ?_)
    · have h := ifF c12 h
      refine q_aload_n 0 C dX8_unlikeWorn_44 rfl ?_
      obtain ⟨v13, e14, h⟩ := bindE h
      refine q_getP C fl_RX8_85 rfl e14 dX8_unlikeWorn_45 ?_
      refine q_iload 4 C dX8_unlikeWorn_48 rfl ?_
      obtain ⟨v15, e16, h⟩ := bindE h
      refine q_laload C e16 dX8_unlikeWorn_50 ?_
      refine q_aload_n 0 C dX8_unlikeWorn_51 rfl ?_
      obtain ⟨v17, e18, h⟩ := bindE h
      refine q_getP C fl_RX8_85 rfl e18 dX8_unlikeWorn_52 ?_
      refine q_iload 4 C dX8_unlikeWorn_55 rfl ?_
      obtain ⟨v19, e20, h⟩ := bindE h
      refine q_laload C e20 dX8_unlikeWorn_57 ?_
      refine q_lneg C dX8_unlikeWorn_58 ?_
      refine q_land C dX8_unlikeWorn_59 ?_
      refine q_lstore (i := 7) (lv' := [(7, .long (v15 &&& (-v19))), (0, .ref l0), (1, .int l1), (2, .long l2), (4, .long l4), (6, .int l6)]) C dX8_unlikeWorn_60 (by decide) rfl ?_
      refine q_iconst (v := (1 : Int32)) C dX8_unlikeWorn_62 (by decide) ?_
      refine q_istore (i := 9) (lv' := [(9, .int (1 : Int32)), (7, .long (v15 &&& (-v19))), (0, .ref l0), (1, .int l1), (2, .long l2), (4, .long l4), (6, .int l6)]) C dX8_unlikeWorn_63 (by decide) rfl ?_
      obtain ⟨⟨x33, x34, M35⟩, e32, h⟩ := bindE h
      refine q_sub (lv' := [(0, .ref l0), (1, .int l1), (2, .long l2), (4, .long l4), (6, .int l6), (7, .long (v15 &&& (-v19))), (9, .int (1 : Int32))]) [2, 3, 4, 5, 6, 1, 0] rfl (w_X8_unlikeWorn_l65 C hRO hl l0 l1 l6 (v15 &&& (-v19)) l2 l4 (1 : Int32) M e32 (fun r31 he => ?_))
      subst he
      have h := u3E h
      show wq X 11 142 [(0, .ref l0), (1, .int l1), (2, .long x33), (4, .long x34), (6, .int l6)] [] M35
      refine q_iinc 4 (v := (l6 + (1 : Int32))) (lv' := [(6, .int (l6 + (1 : Int32))), (0, .ref l0), (1, .int l1), (2, .long x33), (4, .long x34)]) C dX8_unlikeWorn_142 rfl rfl (by decide) rfl ?_
      refine q_goto (tgt := 8) C dX8_unlikeWorn_145 (by decide) ?_
      exact q_sub (lv' := [(0, .ref l0), (1, .int l1), (2, .long x33), (4, .long x34), (6, .int (l6 + (1 : Int32)))]) [1, 2, 3, 4, 0] rfl (kc (x33, x34, (l6 + (1 : Int32)), M35) (someI h))
    · have h := ifT c12 h
      refine q_aload_n 0 C dX8_unlikeWorn_34 rfl ?_
      obtain ⟨v37, e38, h⟩ := bindE h
      refine q_getP C fl_RX8_85 rfl e38 dX8_unlikeWorn_35 ?_
      refine q_iload 4 C dX8_unlikeWorn_38 rfl ?_
      obtain ⟨v39, e40, h⟩ := bindE h
      refine q_laload C e40 dX8_unlikeWorn_40 ?_
      refine q_goto (tgt := 60) C dX8_unlikeWorn_41 (by decide) ?_
      refine q_lstore (i := 7) (lv' := [(7, .long v39), (0, .ref l0), (1, .int l1), (2, .long l2), (4, .long l4), (6, .int l6)]) C dX8_unlikeWorn_60 (by decide) rfl ?_
      refine q_iconst (v := (1 : Int32)) C dX8_unlikeWorn_62 (by decide) ?_
      refine q_istore (i := 9) (lv' := [(9, .int (1 : Int32)), (7, .long v39), (0, .ref l0), (1, .int l1), (2, .long l2), (4, .long l4), (6, .int l6)]) C dX8_unlikeWorn_63 (by decide) rfl ?_
      obtain ⟨⟨x43, x44, M45⟩, e42, h⟩ := bindE h
      refine q_sub (lv' := [(0, .ref l0), (1, .int l1), (2, .long l2), (4, .long l4), (6, .int l6), (7, .long v39), (9, .int (1 : Int32))]) [2, 3, 4, 5, 6, 1, 0] rfl (w_X8_unlikeWorn_l65 C hRO hl l0 l1 l6 v39 l2 l4 (1 : Int32) M e42 (fun r41 he => ?_))
      subst he
      have h := u3E h
      show wq X 11 142 [(0, .ref l0), (1, .int l1), (2, .long x43), (4, .long x44), (6, .int l6)] [] M45
      refine q_iinc 4 (v := (l6 + (1 : Int32))) (lv' := [(6, .int (l6 + (1 : Int32))), (0, .ref l0), (1, .int l1), (2, .long x43), (4, .long x44)]) C dX8_unlikeWorn_142 rfl rfl (by decide) rfl ?_
      refine q_goto (tgt := 8) C dX8_unlikeWorn_145 (by decide) ?_
      exact q_sub (lv' := [(0, .ref l0), (1, .int l1), (2, .long x43), (4, .long x44), (6, .int (l6 + (1 : Int32)))]) [1, 2, 3, 4, 0] rfl (kc (x43, x44, (l6 + (1 : Int32)), M45) (someI h))
theorem w_X8_unlikeWorn_l8 {X : CX} {r : Int64 × Int64 × Mem} (C : CK X cX8_unlikeWorn 11 RX8 12 262) (hRO : RO X.2.2.1 X.1.2.2.2.2.1 X.1.2.2.2.2.1.heap) (hl : X.1.2.1.stackTraces = false) (l0 : Nat) (l1 : Int32) (l2 : Int64) (l4 : Int64) (l6 : Int32) (M : Mem) (h : loop (fun s => F_X8_unlikeWorn_s8 l0 l1 s.1 s.2.1 s.2.2.1 s.2.2.2) (l2, l4, l6, M) = some r) (kx : ∀ e' : Int64 × Int64 × Mem, r = e' → wq X 11 148 [(2, .long (e'.1)), (4, .long (e'.2.1))] [] e'.2.2) : wq X 11 8 [(0, .ref l0), (1, .int l1), (2, .long l2), (4, .long l4), (6, .int l6)] [] M :=
  loop_ind (P := fun s => wq X 11 8 [(0, .ref l0), (1, .int l1), (2, .long s.1), (4, .long s.2.1), (6, .int s.2.2.1)] [] s.2.2.2) h (fun s y hy kc kr => w_X8_unlikeWorn_s8 C hRO hl l0 l1 s.1 s.2.1 s.2.2.1 s.2.2.2 hy kc (fun e' he => kx e' (kr _ he).symm))
set_option maxRecDepth 100000 in
set_option maxHeartbeats 4000000 in
theorem w_X8_unlikeWorn {X : CX} {y : Int32 × Mem} (C : CK X cX8_unlikeWorn 11 RX8 12 262) (hRO : RO X.2.2.1 X.1.2.2.2.2.1 X.1.2.2.2.2.1.heap) (hl : X.1.2.1.stackTraces = false) (l0 : Nat) (l1 : Int32) (M : Mem) (h : F_X8_unlikeWorn l0 l1 M = some y) (kf : FIN X (some .int) (rs_mI y) (ms_mI y)) : wq X 11 0 [(0, .ref l0), (1, .int l1)] [] M := by
  unfold F_X8_unlikeWorn at h
  refine q_lconst (v := (0 : Int64)) C dX8_unlikeWorn_0 (by decide) ?_
  refine q_lstore_n (i := 2) (lv' := [(2, .long (0 : Int64)), (0, .ref l0), (1, .int l1)]) C dX8_unlikeWorn_1 rfl (by decide) rfl ?_
  refine q_lconst (v := (0 : Int64)) C dX8_unlikeWorn_2 (by decide) ?_
  refine q_lstore (i := 4) (lv' := [(4, .long (0 : Int64)), (2, .long (0 : Int64)), (0, .ref l0), (1, .int l1)]) C dX8_unlikeWorn_3 (by decide) rfl ?_
  refine q_iconst (v := (0 : Int32)) C dX8_unlikeWorn_5 (by decide) ?_
  refine q_istore (i := 6) (lv' := [(6, .int (0 : Int32)), (4, .long (0 : Int64)), (2, .long (0 : Int64)), (0, .ref l0), (1, .int l1)]) C dX8_unlikeWorn_6 (by decide) rfl ?_
  obtain ⟨⟨x49, x50, M51⟩, e48, h⟩ := bindE h
  refine q_sub (lv' := [(0, .ref l0), (1, .int l1), (2, .long (0 : Int64)), (4, .long (0 : Int64)), (6, .int (0 : Int32))]) [3, 4, 2, 1, 0] rfl (w_X8_unlikeWorn_l8 C hRO hl l0 l1 (0 : Int64) (0 : Int64) (0 : Int32) M e48 (fun r47 he => ?_))
  subst he
  have h := u3E h
  show wq X 11 148 [(2, .long x49), (4, .long x50)] [] M51
  refine q_lload_n 0 C dX8_unlikeWorn_148 rfl ?_
  obtain ⟨v53, e52, h⟩ := bindE h
  refine q_callS (v := some (.int v53)) [.long x49] C hRO lk_RX8_328 sk_J13_bitCount_95d88 rfl rfl (Nat.le_of_ble_eq_true rfl) (by decide) (by decide) dX8_unlikeWorn_149 (k_J13_bitCount_95d88 X.1.2.1 hl X.2.2.1 x49 M51 _ e52) ?_
  refine q_lload 1 C dX8_unlikeWorn_152 rfl ?_
  obtain ⟨v55, e54, h⟩ := bindE h
  refine q_callS (v := some (.int v55)) [.long x50] C hRO lk_RX8_328 sk_J13_bitCount_95d88 rfl rfl (Nat.le_of_ble_eq_true rfl) (by decide) (by decide) dX8_unlikeWorn_154 (k_J13_bitCount_95d88 X.1.2.1 hl X.2.2.1 x50 M51 _ e54) ?_
  refine q_iadd C dX8_unlikeWorn_157 ?_
  cases h
  exact q_iret C kf dX8_unlikeWorn_158
theorem k_X8_unlikeWorn (l : Launch) (hl : l.stackTraces = false) (G : GG) (l0 : Nat) (l1 : Int32) (M : Mem) (x : Int32 × Mem) (h : F_X8_unlikeWorn l0 l1 M = some x) : Ct l G yX8_unlikeWorn (.code yX8_unlikeWorn cX8_unlikeWorn 11 (some .int)) 12 262 [.ref l0, .int l1] M (rs_mI x) (ms_mI x) := by
  refine Ct_of (by decide +kernel) (Nat.le_of_ble_eq_true rfl) fun X e1 e2 e3 C FN hnm => ?_
  subst e1; subst e2
  show wq X 11 0 [(0, .ref l0), (1, .int l1)] [] M
  exact w_X8_unlikeWorn C FN.2.2.2 hl l0 l1 M h FN
/-! X8_next -/
set_option maxRecDepth 100000 in
set_option maxHeartbeats 4000000 in
theorem w_X8_next_s16 {X : CX} {y : (Int32 × Int32 × Int32 × Mem) ⊕ (Int32 × Int32 × Mem)} (C : CK X cX8_next 6 RX8 14 310) (hRO : RO X.2.2.1 X.1.2.2.2.2.1 X.1.2.2.2.2.1.heap) (hl : X.1.2.1.stackTraces = false) (l0 : Nat) (l1 : Int32) (l2 : Int32) (l3 : Int32) (l4 : Int32) (M : Mem) (h : F_X8_next_s16 l0 l2 l3 l4 M = some y) (kc : ∀ s' : Int32 × Int32 × Int32 × Mem, y = .inl s' → wq X 6 16 [(0, .ref l0), (1, .int l1), (2, .int (s'.1)), (3, .int (s'.2.1)), (4, .int (s'.2.2.1))] [] s'.2.2.2) (kx : ∀ e' : Int32 × Int32 × Mem, y = (.inr e') → wq X 6 54 [(1, .int l1), (2, .int (e'.1)), (3, .int (e'.2.1))] [] e'.2.2) : wq X 6 16 [(0, .ref l0), (1, .int l1), (2, .int l2), (3, .int l3), (4, .int l4)] [] M := by
  unfold F_X8_next_s16 at h
  refine q_iload 4 C dX8_next_16 rfl ?_
  refine q_aload_n 0 C dX8_next_18 rfl ?_
  obtain ⟨v8, e9, h⟩ := bindE h
  refine q_getP C fl_RX8_23 rfl e9 dX8_next_19 ?_
  obtain ⟨v10, e11, h⟩ := bindE h
  refine q_getI C fl_RX8_119 rfl e11 dX8_next_22 ?_
  refine q_icmp_ge (tgt := 54) C dX8_next_25 (by decide) (fun c12 => ?_) (fun c12 => ?_)
  · have h := ifT c12 h
    exact q_sub (lv' := [(1, .int l1), (2, .int l2), (3, .int l3)]) [1, 2, 3] rfl (kx (l2, l3, M) (someI h))
  · have h := ifF c12 h
    refine q_aload_n 0 C dX8_next_28 rfl ?_
    refine q_iload 4 C dX8_next_29 rfl ?_
    obtain ⟨e13, h⟩ := ckOE h
    obtain ⟨v16, M15, e14, h⟩ := bd2E h
    refine q_callV (v := some (.int v16)) [.int l4] C hRO lk_RX8_347 vk_X8_unlikeWorn e13 rfl rfl rfl (Nat.le_of_ble_eq_true rfl) (by decide) (by decide) dX8_next_31 (k_X8_unlikeWorn X.1.2.1 hl X.2.2.1 l0 l4 M _ e14) ?_
    refine q_istore (i := 5) (lv' := [(5, .int v16), (0, .ref l0), (1, .int l1), (2, .int l2), (3, .int l3), (4, .int l4)]) C dX8_next_34 (by decide) rfl ?_
    refine q_iload 0 C dX8_next_36 rfl ?_
    refine q_iload_n 4 C dX8_next_38 rfl ?_
    refine q_icmp_le (tgt := 48) C dX8_next_39 (by decide) (fun c17 => ?_) (fun c17 => ?_)
    · have h := ifT c17 h
      refine q_iinc 5 (v := (l4 + (1 : Int32))) (lv' := [(4, .int (l4 + (1 : Int32))), (5, .int v16), (0, .ref l0), (1, .int l1), (2, .int l2), (3, .int l3)]) C dX8_next_48 rfl rfl (by decide) rfl ?_
      refine q_goto (tgt := 16) C dX8_next_51 (by decide) ?_
      exact q_sub (lv' := [(0, .ref l0), (1, .int l1), (2, .int l2), (3, .int l3), (4, .int (l4 + (1 : Int32)))]) [2, 3, 4, 5, 0] rfl (kc (l2, l3, (l4 + (1 : Int32)), M15) (someI h))
    · have h := ifF c17 h
      refine q_iload 0 C dX8_next_42 rfl ?_
      refine q_istore_n (i := 3) (lv' := [(3, .int v16), (5, .int v16), (0, .ref l0), (1, .int l1), (2, .int l2), (4, .int l4)]) C dX8_next_44 rfl (by decide) rfl ?_
      refine q_iload 5 C dX8_next_45 rfl ?_
      refine q_istore_n (i := 2) (lv' := [(2, .int l4), (3, .int v16), (5, .int v16), (0, .ref l0), (1, .int l1), (4, .int l4)]) C dX8_next_47 rfl (by decide) rfl ?_
      refine q_iinc 5 (v := (l4 + (1 : Int32))) (lv' := [(4, .int (l4 + (1 : Int32))), (2, .int l4), (3, .int v16), (5, .int v16), (0, .ref l0), (1, .int l1)]) C dX8_next_48 rfl rfl (by decide) rfl ?_
      refine q_goto (tgt := 16) C dX8_next_51 (by decide) ?_
      exact q_sub (lv' := [(0, .ref l0), (1, .int l1), (2, .int l4), (3, .int v16), (4, .int (l4 + (1 : Int32)))]) [4, 5, 1, 2, 0] rfl (kc (l4, v16, (l4 + (1 : Int32)), M15) (someI h))
theorem w_X8_next_l16 {X : CX} {r : Int32 × Int32 × Mem} (C : CK X cX8_next 6 RX8 14 310) (hRO : RO X.2.2.1 X.1.2.2.2.2.1 X.1.2.2.2.2.1.heap) (hl : X.1.2.1.stackTraces = false) (l0 : Nat) (l1 : Int32) (l2 : Int32) (l3 : Int32) (l4 : Int32) (M : Mem) (h : loop (fun s => F_X8_next_s16 l0 s.1 s.2.1 s.2.2.1 s.2.2.2) (l2, l3, l4, M) = some r) (kx : ∀ e' : Int32 × Int32 × Mem, r = e' → wq X 6 54 [(1, .int l1), (2, .int (e'.1)), (3, .int (e'.2.1))] [] e'.2.2) : wq X 6 16 [(0, .ref l0), (1, .int l1), (2, .int l2), (3, .int l3), (4, .int l4)] [] M :=
  loop_ind (P := fun s => wq X 6 16 [(0, .ref l0), (1, .int l1), (2, .int s.1), (3, .int s.2.1), (4, .int s.2.2.1)] [] s.2.2.2) h (fun s y hy kc kr => w_X8_next_s16 C hRO hl l0 l1 s.1 s.2.1 s.2.2.1 s.2.2.2 hy kc (fun e' he => kx e' (kr _ he).symm))
set_option maxRecDepth 100000 in
set_option maxHeartbeats 4000000 in
theorem w_X8_next {X : CX} {y : (Int32 × Mem) ⊕ (Nat × Mem)} (C : CK X cX8_next 6 RX8 14 310) (hRO : RO X.2.2.1 X.1.2.2.2.2.1 X.1.2.2.2.2.1.heap) (hl : X.1.2.1.stackTraces = false) (l0 : Nat) (l1 : Int32) (M : Mem) (h : F_X8_next l0 l1 M = some y) (kf : FIN X (some .int) (rs_tI y) (ms_tI y)) : wq X 6 0 [(0, .ref l0), (1, .int l1)] [] M := by
  unfold F_X8_next at h
  refine q_iload_n 1 C dX8_next_0 rfl ?_
  refine q_iconst (v := (1 : Int32)) C dX8_next_1 (by decide) ?_
  rcases bdVE h with ⟨M2, e1, h⟩ | ⟨x25, M26, e1, h⟩
  · refine q_callS (v := none) [.int l1, .int (1 : Int32)] C hRO lk_RX8_277 sk_X8_needWhat rfl rfl (Nat.le_of_ble_eq_true rfl) (by decide) (by decide) dX8_next_2 (k_X8_needWhat X.1.2.1 hl X.2.2.1 l1 (1 : Int32) M _ e1) ?_
    refine q_aload_n 0 C dX8_next_5 rfl ?_
    obtain ⟨e4, h⟩ := ckOE h
    obtain ⟨M6, e5, h⟩ := bindE h
    refine q_callV (v := none) [] C hRO lk_RX8_321 vk_X8_findFitting e4 rfl rfl rfl (Nat.le_of_ble_eq_true rfl) (by decide) (by decide) dX8_next_6 (k_X8_findFitting X.1.2.1 hl X.2.2.1 l0 M2 _ e5) ?_
    refine q_iconst (v := (-1 : Int32)) C dX8_next_9 (by decide) ?_
    refine q_istore_n (i := 2) (lv' := [(2, .int (-1 : Int32)), (0, .ref l0), (1, .int l1)]) C dX8_next_10 rfl (by decide) rfl ?_
    refine q_iconst (v := (0 : Int32)) C dX8_next_11 (by decide) ?_
    refine q_istore_n (i := 3) (lv' := [(3, .int (0 : Int32)), (2, .int (-1 : Int32)), (0, .ref l0), (1, .int l1)]) C dX8_next_12 rfl (by decide) rfl ?_
    refine q_iconst (v := (0 : Int32)) C dX8_next_13 (by decide) ?_
    refine q_istore (i := 4) (lv' := [(4, .int (0 : Int32)), (3, .int (0 : Int32)), (2, .int (-1 : Int32)), (0, .ref l0), (1, .int l1)]) C dX8_next_14 (by decide) rfl ?_
    obtain ⟨⟨x20, x21, M22⟩, e19, h⟩ := bindE h
    refine q_sub (lv' := [(0, .ref l0), (1, .int l1), (2, .int (-1 : Int32)), (3, .int (0 : Int32)), (4, .int (0 : Int32))]) [3, 4, 2, 1, 0] rfl (w_X8_next_l16 C hRO hl l0 l1 (-1 : Int32) (0 : Int32) (0 : Int32) M6 e19 (fun r18 he => ?_))
    subst he
    have h := u3E h
    show wq X 6 54 [(1, .int l1), (2, .int x20), (3, .int x21)] [] M22
    refine q_iload_n 0 C dX8_next_54 rfl ?_
    refine q_if_ne (tgt := 62) C dX8_next_55 (by decide) (fun c23 => ?_) (fun c23 => ?_)
    · have h := ifF c23 h
      refine q_iload_n 2 C dX8_next_62 rfl ?_
      cases h
      exact q_iret C kf dX8_next_63
    · have h := ifT c23 h
      refine q_iload_n 1 C dX8_next_58 rfl ?_
      refine q_goto (tgt := 63) C dX8_next_59 (by decide) ?_
      cases h
      exact q_iret C kf dX8_next_63
  · skip
    cases h
    exact q_callSX [.int l1, .int (1 : Int32)] C kf lk_RX8_277 sk_X8_needWhat rfl rfl (Nat.le_of_ble_eq_true rfl) (by decide) (by decide) dX8_next_2 (k_X8_needWhat X.1.2.1 hl X.2.2.1 l1 (1 : Int32) M _ e1)
theorem k_X8_next (l : Launch) (hl : l.stackTraces = false) (G : GG) (l0 : Nat) (l1 : Int32) (M : Mem) (x : (Int32 × Mem) ⊕ (Nat × Mem)) (h : F_X8_next l0 l1 M = some x) : Ct l G yX8_next (.code yX8_next cX8_next 6 (some .int)) 14 310 [.ref l0, .int l1] M (rs_tI x) (ms_tI x) := by
  refine Ct_of (by decide +kernel) (Nat.le_of_ble_eq_true rfl) fun X e1 e2 e3 C FN hnm => ?_
  subst e1; subst e2
  show wq X 6 0 [(0, .ref l0), (1, .int l1)] [] M
  exact w_X8_next C FN.2.2.2 hl l0 l1 M h FN
/-! X8_out -/
set_option maxRecDepth 100000 in
set_option maxHeartbeats 4000000 in
theorem w_X8_out {X : CX} {y : (Int32 × Mem) ⊕ (Nat × Mem)} (C : CK X cX8_out 3 RX8 11 226) (hRO : RO X.2.2.1 X.1.2.2.2.2.1 X.1.2.2.2.2.1.heap) (hl : X.1.2.1.stackTraces = false) (l0 : Nat) (l1 : Int32) (M : Mem) (h : F_X8_out l0 l1 M = some y) (kf : FIN X (some .int) (rs_tI y) (ms_tI y)) : wq X 3 0 [(0, .ref l0), (1, .int l1)] [] M := by
  unfold F_X8_out at h
  refine q_aload_n 0 C dX8_out_0 rfl ?_
  refine q_iload_n 1 C dX8_out_1 rfl ?_
  obtain ⟨e1, h⟩ := ckOE h
  rcases bdVE h with ⟨M3, e2, h⟩ | ⟨x30, M31, e2, h⟩
  · refine q_callV (v := none) [.int l1] C hRO lk_RX8_223 vk_X8_needPerson e1 rfl rfl rfl (Nat.le_of_ble_eq_true rfl) (by decide) (by decide) dX8_out_2 (k_X8_needPerson X.1.2.1 hl X.2.2.1 l0 l1 M _ e2) ?_
    refine q_aload_n 0 C dX8_out_5 rfl ?_
    obtain ⟨v5, e6, h⟩ := bindE h
    refine q_getP C fl_RX8_33 rfl e6 dX8_out_6 ?_
    obtain ⟨v7, e8, h⟩ := bindE h
    refine q_getP C fl_RX8_162 rfl e8 dX8_out_9 ?_
    refine q_iload_n 1 C dX8_out_12 rfl ?_
    obtain ⟨v9, e10, h⟩ := bindE h
    refine q_iaload C e10 dX8_out_13 ?_
    refine q_istore_n (i := 2) (lv' := [(2, .int v9), (0, .ref l0), (1, .int l1)]) C dX8_out_14 rfl (by decide) rfl ?_
    refine q_iload_n 0 C dX8_out_15 rfl ?_
    refine q_iconst (v := (-1 : Int32)) C dX8_out_16 (by decide) ?_
    refine q_icmp_ne (tgt := 25) C dX8_out_17 (by decide) (fun c11 => ?_) (fun c11 => ?_)
    · have h := ifF c11 h
      refine q_aload_n 1 C dX8_out_25 rfl ?_
      obtain ⟨v12, e13, h⟩ := bindE h
      refine q_getP C fl_RX8_43 rfl e13 dX8_out_26 ?_
      refine q_aload_n 1 C dX8_out_29 rfl ?_
      obtain ⟨v14, e15, h⟩ := bindE h
      refine q_getP C fl_RX8_33 rfl e15 dX8_out_30 ?_
      obtain ⟨e16, h⟩ := ckOE h
      obtain ⟨M18, e17, h⟩ := bindE h
      refine q_callV (v := none) [.ref v14] C hRO lk_RX8_242 vk_X0_keep e16 rfl rfl rfl (Nat.le_of_ble_eq_true rfl) (by decide) (by decide) dX8_out_33 (k_X0_keep X.1.2.1 hl X.2.2.1 v12 v14 M3 _ e17) ?_
      refine q_aload_n 1 C dX8_out_36 rfl ?_
      obtain ⟨v20, e21, h⟩ := bindE h
      refine q_getP C fl_RX8_33 rfl e21 dX8_out_37 ?_
      refine q_iload_n 2 C dX8_out_40 rfl ?_
      obtain ⟨e22, h⟩ := ckOE h
      obtain ⟨M24, e23, h⟩ := bindE h
      refine q_callV (v := none) [.int l1] C hRO lk_RX8_257 vk_X6_leave e22 rfl rfl rfl (Nat.le_of_ble_eq_true rfl) (by decide) (by decide) dX8_out_41 (k_X6_leave X.1.2.1 hl X.2.2.1 v20 l1 M18 _ e23) ?_
      refine q_iload_n 0 C dX8_out_44 rfl ?_
      cases h
      exact q_iret C kf dX8_out_45
    · have h := ifT c11 h
      refine q_aload_n 1 C dX8_out_20 rfl ?_
      obtain ⟨e26, h⟩ := ckOE h
      obtain ⟨v29, M28, e27, h⟩ := bd2E h
      refine q_callV (v := some (.int v29)) [] C hRO lk_RX8_239 vk_X8_refuseAct e26 rfl rfl rfl (Nat.le_of_ble_eq_true rfl) (by decide) (by decide) dX8_out_21 (k_X8_refuseAct X.1.2.1 hl X.2.2.1 l0 M3 _ e27) ?_
      cases h
      exact q_iret C kf dX8_out_24
  · skip
    cases h
    exact q_callVX [.int l1] C kf lk_RX8_223 vk_X8_needPerson e1 rfl rfl rfl (Nat.le_of_ble_eq_true rfl) (by decide) (by decide) dX8_out_2 (k_X8_needPerson X.1.2.1 hl X.2.2.1 l0 l1 M _ e2)
theorem k_X8_out (l : Launch) (hl : l.stackTraces = false) (G : GG) (l0 : Nat) (l1 : Int32) (M : Mem) (x : (Int32 × Mem) ⊕ (Nat × Mem)) (h : F_X8_out l0 l1 M = some x) : Ct l G yX8_out (.code yX8_out cX8_out 3 (some .int)) 11 226 [.ref l0, .int l1] M (rs_tI x) (ms_tI x) := by
  refine Ct_of (by decide +kernel) (Nat.le_of_ble_eq_true rfl) fun X e1 e2 e3 C FN hnm => ?_
  subst e1; subst e2
  show wq X 3 0 [(0, .ref l0), (1, .int l1)] [] M
  exact w_X8_out C FN.2.2.2 hl l0 l1 M h FN
/-! X8_paid -/
set_option maxRecDepth 100000 in
set_option maxHeartbeats 4000000 in
theorem w_X8_paid {X : CX} {y : (Int32 × Mem) ⊕ (Nat × Mem)} (C : CK X cX8_paid 2 RX8 13 281) (hRO : RO X.2.2.1 X.1.2.2.2.2.1 X.1.2.2.2.2.1.heap) (hl : X.1.2.1.stackTraces = false) (l0 : Nat) (l1 : Int32) (M : Mem) (h : F_X8_paid l0 l1 M = some y) (kf : FIN X (some .int) (rs_tI y) (ms_tI y)) : wq X 2 0 [(0, .ref l0), (1, .int l1)] [] M := by
  unfold F_X8_paid at h
  refine q_iload_n 1 C dX8_paid_0 rfl ?_
  refine q_iconst (v := (0 : Int32)) C dX8_paid_1 (by decide) ?_
  rcases bdVE h with ⟨M2, e1, h⟩ | ⟨x16, M17, e1, h⟩
  · refine q_callS (v := none) [.int l1, .int (0 : Int32)] C hRO lk_RX8_280 sk_X8_needDays rfl rfl (Nat.le_of_ble_eq_true rfl) (by decide) (by decide) dX8_paid_2 (k_X8_needDays X.1.2.1 hl X.2.2.1 l1 (0 : Int32) M _ e1) ?_
    refine q_aload_n 0 C dX8_paid_5 rfl ?_
    refine q_aload_n 0 C dX8_paid_6 rfl ?_
    refine q_iload_n 1 C dX8_paid_7 rfl ?_
    obtain ⟨e4, h⟩ := ckOE h
    obtain ⟨v7, M6, e5, h⟩ := bd2E h
    refine q_callV (v := some (.ref v7)) [.int l1] C hRO lk_RX8_283 vk_X8_after e4 rfl rfl rfl (Nat.le_of_ble_eq_true rfl) (by decide) (by decide) dX8_paid_8 (k_X8_after X.1.2.1 hl X.2.2.1 l0 l1 M2 _ e5) ?_
    obtain ⟨e8, h⟩ := ckOE h
    obtain ⟨v10, e9, h⟩ := bindE h
    refine q_callV (v := some (.int v10)) [.ref v7] C hRO lk_RX8_141 vk_X8_allBlisters e8 rfl rfl rfl (Nat.le_of_ble_eq_true rfl) (by decide) (by decide) dX8_paid_11 (k_X8_allBlisters X.1.2.1 hl X.2.2.1 l0 v7 M6 _ e9) ?_
    refine q_aload_n 0 C dX8_paid_14 rfl ?_
    refine q_aload_n 0 C dX8_paid_15 rfl ?_
    obtain ⟨v11, e12, h⟩ := bindE h
    refine q_getP C fl_RX8_33 rfl e12 dX8_paid_16 ?_
    obtain ⟨e13, h⟩ := ckOE h
    obtain ⟨v15, e14, h⟩ := bindE h
    refine q_callV (v := some (.int v15)) [.ref v11] C hRO lk_RX8_141 vk_X8_allBlisters e13 rfl rfl rfl (Nat.le_of_ble_eq_true rfl) (by decide) (by decide) dX8_paid_19 (k_X8_allBlisters X.1.2.1 hl X.2.2.1 l0 v11 M6 _ e14) ?_
    refine q_isub C dX8_paid_22 ?_
    cases h
    exact q_iret C kf dX8_paid_23
  · skip
    cases h
    exact q_callSX [.int l1, .int (0 : Int32)] C kf lk_RX8_280 sk_X8_needDays rfl rfl (Nat.le_of_ble_eq_true rfl) (by decide) (by decide) dX8_paid_2 (k_X8_needDays X.1.2.1 hl X.2.2.1 l1 (0 : Int32) M _ e1)
theorem k_X8_paid (l : Launch) (hl : l.stackTraces = false) (G : GG) (l0 : Nat) (l1 : Int32) (M : Mem) (x : (Int32 × Mem) ⊕ (Nat × Mem)) (h : F_X8_paid l0 l1 M = some x) : Ct l G yX8_paid (.code yX8_paid cX8_paid 2 (some .int)) 13 281 [.ref l0, .int l1] M (rs_tI x) (ms_tI x) := by
  refine Ct_of (by decide +kernel) (Nat.le_of_ble_eq_true rfl) fun X e1 e2 e3 C FN hnm => ?_
  subst e1; subst e2
  show wq X 2 0 [(0, .ref l0), (1, .int l1)] [] M
  exact w_X8_paid C FN.2.2.2 hl l0 l1 M h FN
/-! X8_person -/
set_option maxRecDepth 100000 in
set_option maxHeartbeats 4000000 in
theorem w_X8_person {X : CX} {y : (Int32 × Mem) ⊕ (Nat × Mem)} (C : CK X cX8_person 3 RX8 9 184) (hRO : RO X.2.2.1 X.1.2.2.2.2.1 X.1.2.2.2.2.1.heap) (hl : X.1.2.1.stackTraces = false) (l0 : Nat) (l1 : Int32) (l2 : Int32) (M : Mem) (h : F_X8_person l0 l1 l2 M = some y) (kf : FIN X (some .int) (rs_tI y) (ms_tI y)) : wq X 3 0 [(0, .ref l0), (1, .int l1), (2, .int l2)] [] M := by
  unfold F_X8_person at h
  refine q_aload_n 0 C dX8_person_0 rfl ?_
  refine q_iload_n 1 C dX8_person_1 rfl ?_
  obtain ⟨e1, h⟩ := ckOE h
  rcases bdVE h with ⟨M3, e2, h⟩ | ⟨x39, M40, e2, h⟩
  · refine q_callV (v := none) [.int l1] C hRO lk_RX8_223 vk_X8_needPerson e1 rfl rfl rfl (Nat.le_of_ble_eq_true rfl) (by decide) (by decide) dX8_person_2 (k_X8_needPerson X.1.2.1 hl X.2.2.1 l0 l1 M _ e2) ?_
    refine q_iload_n 2 C dX8_person_5 rfl ?_
    by_cases c5 : l2 = (0 : Int32)
    · have h := ifT c5 h
      refine q_tableIn (off := 34) (tgt := 40) C dX8_person_6 (by rw [c5]; decide) (by rw [c5]; decide) (by rw [c5]; rfl) (by decide) ?_
      refine q_aload_n 0 C dX8_person_40 rfl ?_
      obtain ⟨v6, e7, h⟩ := bindE h
      refine q_getP C fl_RX8_33 rfl e7 dX8_person_41 ?_
      obtain ⟨v8, e9, h⟩ := bindE h
      refine q_getP C fl_RX8_212 rfl e9 dX8_person_44 ?_
      refine q_iload_n 1 C dX8_person_47 rfl ?_
      obtain ⟨v10, e11, h⟩ := bindE h
      refine q_iaload C e11 dX8_person_48 ?_
      cases h
      exact q_iret C kf dX8_person_49
    have h := ifF c5 h
    by_cases c12 : l2 = (1 : Int32)
    · have h := ifT c12 h
      refine q_tableIn (off := 44) (tgt := 50) C dX8_person_6 (by rw [c12]; decide) (by rw [c12]; decide) (by rw [c12]; rfl) (by decide) ?_
      refine q_aload_n 0 C dX8_person_50 rfl ?_
      obtain ⟨v13, e14, h⟩ := bindE h
      refine q_getP C fl_RX8_23 rfl e14 dX8_person_51 ?_
      obtain ⟨v15, e16, h⟩ := bindE h
      refine q_getP C fl_RX8_226 rfl e16 dX8_person_54 ?_
      refine q_iload_n 1 C dX8_person_57 rfl ?_
      obtain ⟨v17, e18, h⟩ := bindE h
      refine q_iaload C e18 dX8_person_58 ?_
      cases h
      exact q_iret C kf dX8_person_59
    have h := ifF c12 h
    by_cases c19 : l2 = (2 : Int32)
    · have h := ifT c19 h
      refine q_tableIn (off := 54) (tgt := 60) C dX8_person_6 (by rw [c19]; decide) (by rw [c19]; decide) (by rw [c19]; rfl) (by decide) ?_
      refine q_aload_n 0 C dX8_person_60 rfl ?_
      obtain ⟨v20, e21, h⟩ := bindE h
      refine q_getP C fl_RX8_33 rfl e21 dX8_person_61 ?_
      obtain ⟨v22, e23, h⟩ := bindE h
      refine q_getP C fl_RX8_162 rfl e23 dX8_person_64 ?_
      refine q_iload_n 1 C dX8_person_67 rfl ?_
      obtain ⟨v24, e25, h⟩ := bindE h
      refine q_iaload C e25 dX8_person_68 ?_
      cases h
      exact q_iret C kf dX8_person_69
    have h := ifF c19 h
    by_cases c26 : l2 = (3 : Int32)
    · have h := ifT c26 h
      refine q_tableIn (off := 64) (tgt := 70) C dX8_person_6 (by rw [c26]; decide) (by rw [c26]; decide) (by rw [c26]; rfl) (by decide) ?_
      refine q_aload_n 0 C dX8_person_70 rfl ?_
      obtain ⟨v27, e28, h⟩ := bindE h
      refine q_getP C fl_RX8_33 rfl e28 dX8_person_71 ?_
      obtain ⟨v29, e30, h⟩ := bindE h
      refine q_getP C fl_RX8_165 rfl e30 dX8_person_74 ?_
      refine q_iload_n 1 C dX8_person_77 rfl ?_
      obtain ⟨v31, e32, h⟩ := bindE h
      refine q_iaload C e32 dX8_person_78 ?_
      cases h
      exact q_iret C kf dX8_person_79
    have h := ifF c26 h
    by_cases c33 : l2 = (4 : Int32)
    · have h := ifT c33 h
      refine q_tableIn (off := 74) (tgt := 80) C dX8_person_6 (by rw [c33]; decide) (by rw [c33]; decide) (by rw [c33]; rfl) (by decide) ?_
      refine q_aload_n 0 C dX8_person_80 rfl ?_
      refine q_iload_n 1 C dX8_person_81 rfl ?_
      obtain ⟨e34, h⟩ := ckOE h
      obtain ⟨v36, e35, h⟩ := bindE h
      refine q_callV (v := some (.int v36)) [.int l1] C hRO lk_RX8_168 vk_X8_tightNow e34 rfl rfl rfl (Nat.le_of_ble_eq_true rfl) (by decide) (by decide) dX8_person_82 (k_X8_tightNow X.1.2.1 hl X.2.2.1 l0 l1 M3 _ e35) ?_
      cases h
      exact q_iret C kf dX8_person_85
    have h := ifF c33 h
    refine q_tableOut (tgt := 86) C dX8_person_6 (by have z0 := neI c5; have z1 := neI c12; have z2 := neI c19; have z3 := neI c26; have z4 := neI c33; simp only [Int32.reduceToInt] at *; omega) (by decide) ?_
    obtain ⟨M37, e38, h⟩ := bindE h
    cases h
    exact q_throwN (e0 := 1) (i := 20) C kf hl (by decide) cl_RX8_154 in_ex1 rfl at_RX8_158 gd_RX8_158 e38 dX8_person_86 dX8_person_89 dX8_person_90 dX8_person_92 dX8_person_95 (by decide) (Nat.le_of_ble_eq_true rfl)
  · skip
    cases h
    exact q_callVX [.int l1] C kf lk_RX8_223 vk_X8_needPerson e1 rfl rfl rfl (Nat.le_of_ble_eq_true rfl) (by decide) (by decide) dX8_person_2 (k_X8_needPerson X.1.2.1 hl X.2.2.1 l0 l1 M _ e2)
theorem k_X8_person (l : Launch) (hl : l.stackTraces = false) (G : GG) (l0 : Nat) (l1 : Int32) (l2 : Int32) (M : Mem) (x : (Int32 × Mem) ⊕ (Nat × Mem)) (h : F_X8_person l0 l1 l2 M = some x) : Ct l G yX8_person (.code yX8_person cX8_person 3 (some .int)) 9 184 [.ref l0, .int l1, .int l2] M (rs_tI x) (ms_tI x) := by
  refine Ct_of (by decide +kernel) (Nat.le_of_ble_eq_true rfl) fun X e1 e2 e3 C FN hnm => ?_
  subst e1; subst e2
  show wq X 3 0 [(0, .ref l0), (1, .int l1), (2, .int l2)] [] M
  exact w_X8_person C FN.2.2.2 hl l0 l1 l2 M h FN
/-! X8_putIn -/
set_option maxRecDepth 100000 in
set_option maxHeartbeats 4000000 in
theorem w_X8_putIn {X : CX} {y : (Int32 × Mem) ⊕ (Nat × Mem)} (C : CK X cX8_putIn 3 RX8 12 258) (hRO : RO X.2.2.1 X.1.2.2.2.2.1 X.1.2.2.2.2.1.heap) (hl : X.1.2.1.stackTraces = false) (l0 : Nat) (l1 : Int32) (l2 : Int32) (M : Mem) (h : F_X8_putIn l0 l1 l2 M = some y) (kf : FIN X (some .int) (rs_tI y) (ms_tI y)) : wq X 3 0 [(0, .ref l0), (1, .int l1), (2, .int l2)] [] M := by
  unfold F_X8_putIn at h
  refine q_aload_n 0 C dX8_putIn_0 rfl ?_
  refine q_iload_n 1 C dX8_putIn_1 rfl ?_
  obtain ⟨e1, h⟩ := ckOE h
  rcases bdVE h with ⟨M3, e2, h⟩ | ⟨x61, M62, e2, h⟩
  · refine q_callV (v := none) [.int l1] C hRO lk_RX8_223 vk_X8_needPerson e1 rfl rfl rfl (Nat.le_of_ble_eq_true rfl) (by decide) (by decide) dX8_putIn_2 (k_X8_needPerson X.1.2.1 hl X.2.2.1 l0 l1 M _ e2) ?_
    refine q_aload_n 0 C dX8_putIn_5 rfl ?_
    refine q_iload_n 2 C dX8_putIn_6 rfl ?_
    obtain ⟨e5, h⟩ := ckOE h
    rcases bdVE h with ⟨M7, e6, h⟩ | ⟨x59, M60, e6, h⟩
    · refine q_callV (v := none) [.int l2] C hRO lk_RX8_186 vk_X8_needHouse e5 rfl rfl rfl (Nat.le_of_ble_eq_true rfl) (by decide) (by decide) dX8_putIn_7 (k_X8_needHouse X.1.2.1 hl X.2.2.1 l0 l2 M3 _ e6) ?_
      refine q_aload_n 0 C dX8_putIn_10 rfl ?_
      obtain ⟨v9, e10, h⟩ := bindE h
      refine q_getP C fl_RX8_33 rfl e10 dX8_putIn_11 ?_
      obtain ⟨v11, e12, h⟩ := bindE h
      refine q_getP C fl_RX8_162 rfl e12 dX8_putIn_14 ?_
      refine q_iload_n 1 C dX8_putIn_17 rfl ?_
      obtain ⟨v13, e14, h⟩ := bindE h
      refine q_iaload C e14 dX8_putIn_18 ?_
      refine q_iconst (v := (-1 : Int32)) C dX8_putIn_19 (by decide) ?_
      refine q_icmp_ne (tgt := 45) C dX8_putIn_20 (by decide) (fun c15 => ?_) (fun c15 => ?_)
      · have h := ifF c15 h
        refine q_aload_n 0 C dX8_putIn_45 rfl ?_
        obtain ⟨e16, h⟩ := ckOE h
        obtain ⟨v19, M18, e17, h⟩ := bd2E h
        refine q_callV (v := some (.int v19)) [] C hRO lk_RX8_239 vk_X8_refuseAct e16 rfl rfl rfl (Nat.le_of_ble_eq_true rfl) (by decide) (by decide) dX8_putIn_46 (k_X8_refuseAct X.1.2.1 hl X.2.2.1 l0 M7 _ e17) ?_
        cases h
        exact q_iret C kf dX8_putIn_49
      · have h := ifT c15 h
        refine q_aload_n 0 C dX8_putIn_23 rfl ?_
        obtain ⟨v20, e21, h⟩ := bindE h
        refine q_getP C fl_RX8_33 rfl e21 dX8_putIn_24 ?_
        obtain ⟨v22, e23, h⟩ := bindE h
        refine q_getP C fl_RX8_159 rfl e23 dX8_putIn_27 ?_
        refine q_iload_n 2 C dX8_putIn_30 rfl ?_
        obtain ⟨v24, e25, h⟩ := bindE h
        refine q_iaload C e25 dX8_putIn_31 ?_
        refine q_iconst (v := (-1 : Int32)) C dX8_putIn_32 (by decide) ?_
        refine q_icmp_ne (tgt := 45) C dX8_putIn_33 (by decide) (fun c26 => ?_) (fun c26 => ?_)
        · have h := ifF c26 h
          refine q_aload_n 0 C dX8_putIn_45 rfl ?_
          obtain ⟨e27, h⟩ := ckOE h
          obtain ⟨v30, M29, e28, h⟩ := bd2E h
          refine q_callV (v := some (.int v30)) [] C hRO lk_RX8_239 vk_X8_refuseAct e27 rfl rfl rfl (Nat.le_of_ble_eq_true rfl) (by decide) (by decide) dX8_putIn_46 (k_X8_refuseAct X.1.2.1 hl X.2.2.1 l0 M7 _ e28) ?_
          cases h
          exact q_iret C kf dX8_putIn_49
        · have h := ifT c26 h
          refine q_aload_n 0 C dX8_putIn_36 rfl ?_
          refine q_iload_n 1 C dX8_putIn_37 rfl ?_
          refine q_iload_n 2 C dX8_putIn_38 rfl ?_
          obtain ⟨e31, h⟩ := ckOE h
          obtain ⟨v34, M33, e32, h⟩ := bd2E h
          refine q_callV (v := some (.int v34)) [.int l1, .int l2] C hRO lk_RX8_249 vk_X8_entersNow e31 rfl rfl rfl (Nat.le_of_ble_eq_true rfl) (by decide) (by decide) dX8_putIn_39 (k_X8_entersNow X.1.2.1 hl X.2.2.1 l0 l1 l2 M7 _ e32) ?_
          refine q_if_ne (tgt := 50) C dX8_putIn_42 (by decide) (fun c35 => ?_) (fun c35 => ?_)
          · have h := ifF c35 h
            refine q_aload_n 0 C dX8_putIn_50 rfl ?_
            obtain ⟨v36, e37, h⟩ := bindE h
            refine q_getP C fl_RX8_43 rfl e37 dX8_putIn_51 ?_
            refine q_aload_n 0 C dX8_putIn_54 rfl ?_
            obtain ⟨v38, e39, h⟩ := bindE h
            refine q_getP C fl_RX8_33 rfl e39 dX8_putIn_55 ?_
            obtain ⟨e40, h⟩ := ckOE h
            obtain ⟨M42, e41, h⟩ := bindE h
            refine q_callV (v := none) [.ref v38] C hRO lk_RX8_242 vk_X0_keep e40 rfl rfl rfl (Nat.le_of_ble_eq_true rfl) (by decide) (by decide) dX8_putIn_58 (k_X0_keep X.1.2.1 hl X.2.2.1 v36 v38 M33 _ e41) ?_
            refine q_aload_n 0 C dX8_putIn_61 rfl ?_
            obtain ⟨v44, e45, h⟩ := bindE h
            refine q_getP C fl_RX8_33 rfl e45 dX8_putIn_62 ?_
            refine q_iload_n 1 C dX8_putIn_65 rfl ?_
            refine q_iload_n 2 C dX8_putIn_66 rfl ?_
            obtain ⟨e46, h⟩ := ckOE h
            obtain ⟨M48, e47, h⟩ := bindE h
            refine q_callV (v := none) [.int l1, .int l2] C hRO lk_RX8_253 vk_X6_settle e46 rfl rfl rfl (Nat.le_of_ble_eq_true rfl) (by decide) (by decide) dX8_putIn_67 (k_X6_settle X.1.2.1 hl X.2.2.1 v44 l1 l2 M42 _ e47) ?_
            refine q_aload_n 0 C dX8_putIn_70 rfl ?_
            obtain ⟨v50, e51, h⟩ := bindE h
            refine q_getP C fl_RX8_33 rfl e51 dX8_putIn_71 ?_
            refine q_iload_n 1 C dX8_putIn_74 rfl ?_
            refine q_iload_n 2 C dX8_putIn_75 rfl ?_
            obtain ⟨e52, h⟩ := ckOE h
            obtain ⟨v54, e53, h⟩ := bindE h
            refine q_callV (v := some (.int v54)) [.int l1, .int l2] C hRO lk_RX8_172 vk_X6_tight e52 rfl rfl rfl (Nat.le_of_ble_eq_true rfl) (by decide) (by decide) dX8_putIn_76 (k_X6_tight X.1.2.1 hl X.2.2.1 v50 l1 l2 M48 _ e53) ?_
            cases h
            exact q_iret C kf dX8_putIn_79
          · have h := ifT c35 h
            refine q_aload_n 0 C dX8_putIn_45 rfl ?_
            obtain ⟨e55, h⟩ := ckOE h
            obtain ⟨v58, M57, e56, h⟩ := bd2E h
            refine q_callV (v := some (.int v58)) [] C hRO lk_RX8_239 vk_X8_refuseAct e55 rfl rfl rfl (Nat.le_of_ble_eq_true rfl) (by decide) (by decide) dX8_putIn_46 (k_X8_refuseAct X.1.2.1 hl X.2.2.1 l0 M33 _ e56) ?_
            cases h
            exact q_iret C kf dX8_putIn_49
    · skip
      cases h
      exact q_callVX [.int l2] C kf lk_RX8_186 vk_X8_needHouse e5 rfl rfl rfl (Nat.le_of_ble_eq_true rfl) (by decide) (by decide) dX8_putIn_7 (k_X8_needHouse X.1.2.1 hl X.2.2.1 l0 l2 M3 _ e6)
  · skip
    cases h
    exact q_callVX [.int l1] C kf lk_RX8_223 vk_X8_needPerson e1 rfl rfl rfl (Nat.le_of_ble_eq_true rfl) (by decide) (by decide) dX8_putIn_2 (k_X8_needPerson X.1.2.1 hl X.2.2.1 l0 l1 M _ e2)
theorem k_X8_putIn (l : Launch) (hl : l.stackTraces = false) (G : GG) (l0 : Nat) (l1 : Int32) (l2 : Int32) (M : Mem) (x : (Int32 × Mem) ⊕ (Nat × Mem)) (h : F_X8_putIn l0 l1 l2 M = some x) : Ct l G yX8_putIn (.code yX8_putIn cX8_putIn 3 (some .int)) 12 258 [.ref l0, .int l1, .int l2] M (rs_tI x) (ms_tI x) := by
  refine Ct_of (by decide +kernel) (Nat.le_of_ble_eq_true rfl) fun X e1 e2 e3 C FN hnm => ?_
  subst e1; subst e2
  show wq X 3 0 [(0, .ref l0), (1, .int l1), (2, .int l2)] [] M
  exact w_X8_putIn C FN.2.2.2 hl l0 l1 l2 M h FN
/-! X8_restore -/
set_option maxRecDepth 100000 in
set_option maxHeartbeats 4000000 in
theorem w_X8_restore {X : CX} {y : Int32 × Mem} (C : CK X cX8_restore 1 RX8 11 227) (hRO : RO X.2.2.1 X.1.2.2.2.2.1 X.1.2.2.2.2.1.heap) (hl : X.1.2.1.stackTraces = false) (l0 : Nat) (M : Mem) (h : F_X8_restore l0 M = some y) (kf : FIN X (some .boolean) (rs_mI y) (ms_mI y)) : wq X 1 0 [(0, .ref l0)] [] M := by
  unfold F_X8_restore at h
  refine q_aload_n 0 C dX8_restore_0 rfl ?_
  obtain ⟨v1, e2, h⟩ := bindE h
  refine q_getI C fl_RX8_54 rfl e2 dX8_restore_1 ?_
  refine q_if_ne (tgt := 9) C dX8_restore_4 (by decide) (fun c3 => ?_) (fun c3 => ?_)
  · have h := ifF c3 h
    refine q_aload_n 0 C dX8_restore_9 rfl ?_
    obtain ⟨v4, e5, h⟩ := bindE h
    refine q_getP C fl_RX8_33 rfl e5 dX8_restore_10 ?_
    refine q_aload_n 0 C dX8_restore_13 rfl ?_
    obtain ⟨v6, e7, h⟩ := bindE h
    refine q_getP C fl_RX8_58 rfl e7 dX8_restore_14 ?_
    obtain ⟨e8, h⟩ := ckOE h
    obtain ⟨M10, e9, h⟩ := bindE h
    refine q_callV (v := none) [.ref v6] C hRO lk_RX8_274 vk_X6_copy e8 rfl rfl rfl (Nat.le_of_ble_eq_true rfl) (by decide) (by decide) dX8_restore_17 (k_X6_copy X.1.2.1 hl X.2.2.1 v4 v6 M _ e9) ?_
    refine q_aload_n 0 C dX8_restore_20 rfl ?_
    obtain ⟨v12, e13, h⟩ := bindE h
    refine q_getP C fl_RX8_43 rfl e13 dX8_restore_21 ?_
    refine q_aload_n 0 C dX8_restore_24 rfl ?_
    obtain ⟨v14, e15, h⟩ := bindE h
    refine q_getP C fl_RX8_61 rfl e15 dX8_restore_25 ?_
    obtain ⟨e16, h⟩ := ckOE h
    obtain ⟨M18, e17, h⟩ := bindE h
    refine q_callV (v := none) [.ref v14] C hRO lk_RX8_404 vk_X0_copy e16 rfl rfl rfl (Nat.le_of_ble_eq_true rfl) (by decide) (by decide) dX8_restore_28 (k_X0_copy X.1.2.1 hl X.2.2.1 v12 v14 M10 _ e17) ?_
    refine q_aload_n 0 C dX8_restore_31 rfl ?_
    obtain ⟨v20, e21, h⟩ := bindE h
    refine q_getP C fl_RX8_50 rfl e21 dX8_restore_32 ?_
    refine q_aload_n 0 C dX8_restore_35 rfl ?_
    obtain ⟨v22, e23, h⟩ := bindE h
    refine q_getP C fl_RX8_64 rfl e23 dX8_restore_36 ?_
    obtain ⟨e24, h⟩ := ckOE h
    obtain ⟨M26, e25, h⟩ := bindE h
    refine q_callV (v := none) [.ref v22] C hRO lk_RX8_407 vk_X5_copy e24 rfl rfl rfl (Nat.le_of_ble_eq_true rfl) (by decide) (by decide) dX8_restore_39 (k_X5_copy X.1.2.1 hl X.2.2.1 v20 v22 M18 _ e25) ?_
    refine q_iconst (v := (1 : Int32)) C dX8_restore_42 (by decide) ?_
    cases h
    exact q_zretE (w := (1 : Int32)) (by decide) C kf dX8_restore_43
  · have h := ifT c3 h
    refine q_iconst (v := (0 : Int32)) C dX8_restore_7 (by decide) ?_
    cases h
    exact q_zretE (w := (0 : Int32)) (by decide) C kf dX8_restore_8
theorem k_X8_restore (l : Launch) (hl : l.stackTraces = false) (G : GG) (l0 : Nat) (M : Mem) (x : Int32 × Mem) (h : F_X8_restore l0 M = some x) : Ct l G yX8_restore (.code yX8_restore cX8_restore 1 (some .boolean)) 11 227 [.ref l0] M (rs_mI x) (ms_mI x) := by
  refine Ct_of (by decide +kernel) (Nat.le_of_ble_eq_true rfl) fun X e1 e2 e3 C FN hnm => ?_
  subst e1; subst e2
  show wq X 1 0 [(0, .ref l0)] [] M
  exact w_X8_restore C FN.2.2.2 hl l0 M h FN
/-! X8_ringed -/
set_option maxRecDepth 100000 in
set_option maxHeartbeats 4000000 in
theorem w_X8_ringed {X : CX} {y : (Int32 × Mem) ⊕ (Nat × Mem)} (C : CK X cX8_ringed 2 RX8 10 216) (hRO : RO X.2.2.1 X.1.2.2.2.2.1 X.1.2.2.2.2.1.heap) (hl : X.1.2.1.stackTraces = false) (l0 : Nat) (l1 : Int32) (M : Mem) (h : F_X8_ringed l0 l1 M = some y) (kf : FIN X (some .int) (rs_tI y) (ms_tI y)) : wq X 2 0 [(0, .ref l0), (1, .int l1)] [] M := by
  unfold F_X8_ringed at h
  refine q_aload_n 0 C dX8_ringed_0 rfl ?_
  refine q_iload_n 1 C dX8_ringed_1 rfl ?_
  obtain ⟨e1, h⟩ := ckOE h
  rcases bdVE h with ⟨M3, e2, h⟩ | ⟨x21, M22, e2, h⟩
  · refine q_callV (v := none) [.int l1] C hRO lk_RX8_223 vk_X8_needPerson e1 rfl rfl rfl (Nat.le_of_ble_eq_true rfl) (by decide) (by decide) dX8_ringed_2 (k_X8_needPerson X.1.2.1 hl X.2.2.1 l0 l1 M _ e2) ?_
    refine q_aload_n 0 C dX8_ringed_5 rfl ?_
    obtain ⟨v5, e6, h⟩ := bindE h
    refine q_getP C fl_RX8_81 rfl e6 dX8_ringed_6 ?_
    refine q_aload_n 0 C dX8_ringed_9 rfl ?_
    obtain ⟨v7, e8, h⟩ := bindE h
    refine q_getP C fl_RX8_23 rfl e8 dX8_ringed_10 ?_
    refine q_aload_n 0 C dX8_ringed_13 rfl ?_
    obtain ⟨v9, e10, h⟩ := bindE h
    refine q_getP C fl_RX8_33 rfl e10 dX8_ringed_14 ?_
    obtain ⟨e11, h⟩ := ckOE h
    obtain ⟨M13, e12, h⟩ := bindE h
    refine q_callV (v := none) [.ref v7, .ref v9] C hRO lk_RX8_302 vk_X7_solve e11 rfl rfl rfl (Nat.le_of_ble_eq_true rfl) (by decide) (by decide) dX8_ringed_17 (k_X7_solve X.1.2.1 hl X.2.2.1 v5 v7 v9 M3 _ e12) ?_
    refine q_aload_n 0 C dX8_ringed_20 rfl ?_
    obtain ⟨v15, e16, h⟩ := bindE h
    refine q_getP C fl_RX8_81 rfl e16 dX8_ringed_21 ?_
    obtain ⟨v17, e18, h⟩ := bindE h
    refine q_getP C fl_RX8_401 rfl e18 dX8_ringed_24 ?_
    refine q_iload_n 1 C dX8_ringed_27 rfl ?_
    obtain ⟨v19, e20, h⟩ := bindE h
    refine q_iaload C e20 dX8_ringed_28 ?_
    cases h
    exact q_iret C kf dX8_ringed_29
  · skip
    cases h
    exact q_callVX [.int l1] C kf lk_RX8_223 vk_X8_needPerson e1 rfl rfl rfl (Nat.le_of_ble_eq_true rfl) (by decide) (by decide) dX8_ringed_2 (k_X8_needPerson X.1.2.1 hl X.2.2.1 l0 l1 M _ e2)
theorem k_X8_ringed (l : Launch) (hl : l.stackTraces = false) (G : GG) (l0 : Nat) (l1 : Int32) (M : Mem) (x : (Int32 × Mem) ⊕ (Nat × Mem)) (h : F_X8_ringed l0 l1 M = some x) : Ct l G yX8_ringed (.code yX8_ringed cX8_ringed 2 (some .int)) 10 216 [.ref l0, .int l1] M (rs_tI x) (ms_tI x) := by
  refine Ct_of (by decide +kernel) (Nat.le_of_ble_eq_true rfl) fun X e1 e2 e3 C FN hnm => ?_
  subst e1; subst e2
  show wq X 2 0 [(0, .ref l0), (1, .int l1)] [] M
  exact w_X8_ringed C FN.2.2.2 hl l0 l1 M h FN
/-! X8_round -/
set_option maxRecDepth 100000 in
set_option maxHeartbeats 4000000 in
theorem w_X8_round_s29 {X : CX} {y : (Int32 × Int32 × Int32) ⊕ (Int32 × Int32)} (C : CK X cX8_round 7 RX8 8 162) (hRO : RO X.2.2.1 X.1.2.2.2.2.1 X.1.2.2.2.2.1.heap) (hl : X.1.2.1.stackTraces = false) (l0 : Nat) (l1 : Int32) (M : Mem) (l2 : Int32) (l3 : Int32) (l4 : Int32) (h : F_X8_round_s29 l0 M l2 l3 l4 = some y) (kc : ∀ s' : Int32 × Int32 × Int32, y = .inl s' → wq X 7 29 [(0, .ref l0), (1, .int l1), (2, .int (s'.1)), (3, .int (s'.2.1)), (4, .int (s'.2.2))] [] M) (kx : ∀ e' : Int32 × Int32, y = (.inr e') → wq X 7 105 [(1, .int l1), (2, .int (e'.1)), (3, .int (e'.2))] [] M) : wq X 7 29 [(0, .ref l0), (1, .int l1), (2, .int l2), (3, .int l3), (4, .int l4)] [] M := by
  unfold F_X8_round_s29 at h
  refine q_iload 4 C dX8_round_29 rfl ?_
  refine q_aload_n 0 C dX8_round_31 rfl ?_
  obtain ⟨v5, e6, h⟩ := bindE h
  refine q_getP C fl_RX8_23 rfl e6 dX8_round_32 ?_
  obtain ⟨v7, e8, h⟩ := bindE h
  refine q_getI C fl_RX8_122 rfl e8 dX8_round_35 ?_
  refine q_icmp_ge (tgt := 105) C dX8_round_38 (by decide) (fun c9 => ?_) (fun c9 => ?_)
  · have h := ifT c9 h
    exact q_sub (lv' := [(1, .int l1), (2, .int l2), (3, .int l3)]) [1, 2, 3] rfl (kx (l2, l3) (someI h))
  · have h := ifF c9 h
    refine q_aload_n 0 C dX8_round_41 rfl ?_
    obtain ⟨v10, e11, h⟩ := bindE h
    refine q_getP C fl_RX8_33 rfl e11 dX8_round_42 ?_
    obtain ⟨v12, e13, h⟩ := bindE h
    refine q_getP C fl_RX8_162 rfl e13 dX8_round_45 ?_
    refine q_iload 4 C dX8_round_48 rfl ?_
    obtain ⟨v14, e15, h⟩ := bindE h
    refine q_iaload C e15 dX8_round_50 ?_
    refine q_istore (i := 5) (lv' := [(5, .int v14), (0, .ref l0), (1, .int l1), (2, .int l2), (3, .int l3), (4, .int l4)]) C dX8_round_51 (by decide) rfl ?_
    refine q_iload 0 C dX8_round_53 rfl ?_
    refine q_iconst (v := (-1 : Int32)) C dX8_round_55 (by decide) ?_
    refine q_icmp_eq (tgt := 99) C dX8_round_56 (by decide) (fun c16 => ?_) (fun c16 => ?_)
    · have h := ifT c16 h
      refine q_iinc 5 (v := (l4 + (1 : Int32))) (lv' := [(4, .int (l4 + (1 : Int32))), (5, .int v14), (0, .ref l0), (1, .int l1), (2, .int l2), (3, .int l3)]) C dX8_round_99 rfl rfl (by decide) rfl ?_
      refine q_goto (tgt := 29) C dX8_round_102 (by decide) ?_
      exact q_sub (lv' := [(0, .ref l0), (1, .int l1), (2, .int l2), (3, .int l3), (4, .int (l4 + (1 : Int32)))]) [2, 3, 4, 5, 0] rfl (kc (l2, l3, (l4 + (1 : Int32))) (someI h))
    · have h := ifF c16 h
      refine q_aload_n 1 C dX8_round_59 rfl ?_
      obtain ⟨v17, e18, h⟩ := bindE h
      refine q_getP C fl_RX8_33 rfl e18 dX8_round_60 ?_
      refine q_iload 5 C dX8_round_63 rfl ?_
      refine q_iload 0 C dX8_round_65 rfl ?_
      obtain ⟨e19, h⟩ := ckOE h
      obtain ⟨v21, e20, h⟩ := bindE h
      refine q_callV (v := some (.int v21)) [.int l4, .int v14] C hRO lk_RX8_172 vk_X6_tight e19 rfl rfl rfl (Nat.le_of_ble_eq_true rfl) (by decide) (by decide) dX8_round_67 (k_X6_tight X.1.2.1 hl X.2.2.1 v17 l4 v14 M _ e20) ?_
      refine q_if_le (tgt := 99) C dX8_round_70 (by decide) (fun c22 => ?_) (fun c22 => ?_)
      · have h := ifT c22 h
        refine q_iinc 5 (v := (l4 + (1 : Int32))) (lv' := [(4, .int (l4 + (1 : Int32))), (5, .int v14), (0, .ref l0), (1, .int l1), (2, .int l2), (3, .int l3)]) C dX8_round_99 rfl rfl (by decide) rfl ?_
        refine q_goto (tgt := 29) C dX8_round_102 (by decide) ?_
        exact q_sub (lv' := [(0, .ref l0), (1, .int l1), (2, .int l2), (3, .int l3), (4, .int (l4 + (1 : Int32)))]) [2, 3, 4, 5, 0] rfl (kc (l2, l3, (l4 + (1 : Int32))) (someI h))
      · have h := ifF c22 h
        refine q_aload_n 1 C dX8_round_73 rfl ?_
        obtain ⟨v23, e24, h⟩ := bindE h
        refine q_getP C fl_RX8_23 rfl e24 dX8_round_74 ?_
        obtain ⟨v25, e26, h⟩ := bindE h
        refine q_getP C fl_RX8_195 rfl e26 dX8_round_77 ?_
        refine q_iload 0 C dX8_round_80 rfl ?_
        obtain ⟨v27, e28, h⟩ := bindE h
        refine q_iaload C e28 dX8_round_82 ?_
        refine q_istore (i := 6) (lv' := [(6, .int v27), (5, .int v14), (0, .ref l0), (1, .int l1), (2, .int l2), (3, .int l3), (4, .int l4)]) C dX8_round_83 (by decide) rfl ?_
        refine q_iload_n 4 C dX8_round_85 rfl ?_
        refine q_iload 0 C dX8_round_86 rfl ?_
        refine q_mmin C ml_RX8_308 mm_min1 mm_3 mm_min4 (by decide) (Nat.le_of_ble_eq_true rfl) dX8_round_88 ?_
        refine q_istore_n (i := 2) (lv' := [(2, .int (mnI l2 v27)), (6, .int v27), (5, .int v14), (0, .ref l0), (1, .int l1), (3, .int l3), (4, .int l4)]) C dX8_round_91 rfl (by decide) rfl ?_
        refine q_iload_n 5 C dX8_round_92 rfl ?_
        refine q_iload 1 C dX8_round_93 rfl ?_
        refine q_mmax C ml_RX8_215 mm_max1 mm_3 mm_max4 (by decide) (Nat.le_of_ble_eq_true rfl) dX8_round_95 ?_
        refine q_istore_n (i := 3) (lv' := [(3, .int (mxI l3 v27)), (2, .int (mnI l2 v27)), (6, .int v27), (5, .int v14), (0, .ref l0), (1, .int l1), (4, .int l4)]) C dX8_round_98 rfl (by decide) rfl ?_
        refine q_iinc 6 (v := (l4 + (1 : Int32))) (lv' := [(4, .int (l4 + (1 : Int32))), (3, .int (mxI l3 v27)), (2, .int (mnI l2 v27)), (6, .int v27), (5, .int v14), (0, .ref l0), (1, .int l1)]) C dX8_round_99 rfl rfl (by decide) rfl ?_
        refine q_goto (tgt := 29) C dX8_round_102 (by decide) ?_
        exact q_sub (lv' := [(0, .ref l0), (1, .int l1), (2, .int (mnI l2 v27)), (3, .int (mxI l3 v27)), (4, .int (l4 + (1 : Int32)))]) [5, 6, 2, 1, 0] rfl (kc ((mnI l2 v27), (mxI l3 v27), (l4 + (1 : Int32))) (someI h))
theorem w_X8_round_l29 {X : CX} {r : Int32 × Int32} (C : CK X cX8_round 7 RX8 8 162) (hRO : RO X.2.2.1 X.1.2.2.2.2.1 X.1.2.2.2.2.1.heap) (hl : X.1.2.1.stackTraces = false) (l0 : Nat) (l1 : Int32) (M : Mem) (l2 : Int32) (l3 : Int32) (l4 : Int32) (h : loop (fun s => F_X8_round_s29 l0 M s.1 s.2.1 s.2.2) (l2, l3, l4) = some r) (kx : ∀ e' : Int32 × Int32, r = e' → wq X 7 105 [(1, .int l1), (2, .int (e'.1)), (3, .int (e'.2))] [] M) : wq X 7 29 [(0, .ref l0), (1, .int l1), (2, .int l2), (3, .int l3), (4, .int l4)] [] M :=
  loop_ind (P := fun s => wq X 7 29 [(0, .ref l0), (1, .int l1), (2, .int s.1), (3, .int s.2.1), (4, .int s.2.2)] [] M) h (fun s y hy kc kr => w_X8_round_s29 C hRO hl l0 l1 M s.1 s.2.1 s.2.2 hy kc (fun e' he => kx e' (kr _ he).symm))
set_option maxRecDepth 100000 in
set_option maxHeartbeats 4000000 in
theorem w_X8_round {X : CX} {y : (Int32 × Mem) ⊕ (Nat × Mem)} (C : CK X cX8_round 7 RX8 8 162) (hRO : RO X.2.2.1 X.1.2.2.2.2.1 X.1.2.2.2.2.1.heap) (hl : X.1.2.1.stackTraces = false) (l0 : Nat) (l1 : Int32) (M : Mem) (h : F_X8_round l0 l1 M = some y) (kf : FIN X (some .int) (rs_tI y) (ms_tI y)) : wq X 7 0 [(0, .ref l0), (1, .int l1)] [] M := by
  unfold F_X8_round at h
  refine q_iload_n 1 C dX8_round_0 rfl ?_
  refine q_if_lt (tgt := 10) C dX8_round_1 (by decide) (fun c1 => ?_) (fun c1 => ?_)
  · have h := ifT c1 h
    obtain ⟨M2, e3, h⟩ := bindE h
    cases h
    exact q_throwW (e0 := 0) (i := 23) C kf hl (by decide) cl_RX8_97 in_ex0 rfl at_RX8_101 gd_RX8_101 e3 dX8_round_10 dX8_round_13 dX8_round_14 dX8_round_17 dX8_round_20 (by decide) (Nat.le_of_ble_eq_true rfl)
  · have h := ifF c1 h
    refine q_iload_n 1 C dX8_round_4 rfl ?_
    refine q_bipush (v := (30 : Int32)) C dX8_round_5 (by decide) ?_
    refine q_icmp_le (tgt := 21) C dX8_round_7 (by decide) (fun c4 => ?_) (fun c4 => ?_)
    · have h := ifT c4 h
      refine q_bipush (v := (31 : Int32)) C dX8_round_21 (by decide) ?_
      refine q_istore_n (i := 2) (lv' := [(2, .int (31 : Int32)), (0, .ref l0), (1, .int l1)]) C dX8_round_23 rfl (by decide) rfl ?_
      refine q_iconst (v := (-1 : Int32)) C dX8_round_24 (by decide) ?_
      refine q_istore_n (i := 3) (lv' := [(3, .int (-1 : Int32)), (2, .int (31 : Int32)), (0, .ref l0), (1, .int l1)]) C dX8_round_25 rfl (by decide) rfl ?_
      refine q_iconst (v := (0 : Int32)) C dX8_round_26 (by decide) ?_
      refine q_istore (i := 4) (lv' := [(4, .int (0 : Int32)), (3, .int (-1 : Int32)), (2, .int (31 : Int32)), (0, .ref l0), (1, .int l1)]) C dX8_round_27 (by decide) rfl ?_
      obtain ⟨⟨x31, x32⟩, e30, h⟩ := bindE h
      refine q_sub (lv' := [(0, .ref l0), (1, .int l1), (2, .int (31 : Int32)), (3, .int (-1 : Int32)), (4, .int (0 : Int32))]) [3, 4, 2, 1, 0] rfl (w_X8_round_l29 C hRO hl l0 l1 M (31 : Int32) (-1 : Int32) (0 : Int32) e30 (fun r29 he => ?_))
      subst he
      have h := u2E h
      show wq X 7 105 [(1, .int l1), (2, .int x31), (3, .int x32)] [] M
      refine q_iload_n 2 C dX8_round_105 rfl ?_
      refine q_iconst (v := (-1 : Int32)) C dX8_round_106 (by decide) ?_
      refine q_icmp_ne (tgt := 112) C dX8_round_107 (by decide) (fun c33 => ?_) (fun c33 => ?_)
      · have h := ifF c33 h
        refine q_iload_n 2 C dX8_round_112 rfl ?_
        refine q_iload_n 1 C dX8_round_113 rfl ?_
        refine q_isub C dX8_round_114 ?_
        refine q_iload_n 0 C dX8_round_115 rfl ?_
        refine q_iload_n 1 C dX8_round_116 rfl ?_
        refine q_isub C dX8_round_117 ?_
        refine q_mabs C ml_RX8_220 mm_abs1 mm_3 mm_abs4 (by decide) (Nat.le_of_ble_eq_true rfl) dX8_round_118 ?_
        refine q_iload_n 0 C dX8_round_121 rfl ?_
        refine q_iload_n 2 C dX8_round_122 rfl ?_
        refine q_isub C dX8_round_123 ?_
        refine q_mabs C ml_RX8_220 mm_abs1 mm_3 mm_abs4 (by decide) (Nat.le_of_ble_eq_true rfl) dX8_round_124 ?_
        refine q_mmin C ml_RX8_308 mm_min1 mm_3 mm_min4 (by decide) (Nat.le_of_ble_eq_true rfl) dX8_round_127 ?_
        refine q_iadd C dX8_round_130 ?_
        cases h
        exact q_iret C kf dX8_round_131
      · have h := ifT c33 h
        refine q_iconst (v := (0 : Int32)) C dX8_round_110 (by decide) ?_
        cases h
        exact q_iret C kf dX8_round_111
    · have h := ifF c4 h
      obtain ⟨M35, e36, h⟩ := bindE h
      cases h
      exact q_throwW (e0 := 0) (i := 23) C kf hl (by decide) cl_RX8_97 in_ex0 rfl at_RX8_101 gd_RX8_101 e36 dX8_round_10 dX8_round_13 dX8_round_14 dX8_round_17 dX8_round_20 (by decide) (Nat.le_of_ble_eq_true rfl)
theorem k_X8_round (l : Launch) (hl : l.stackTraces = false) (G : GG) (l0 : Nat) (l1 : Int32) (M : Mem) (x : (Int32 × Mem) ⊕ (Nat × Mem)) (h : F_X8_round l0 l1 M = some x) : Ct l G yX8_round (.code yX8_round cX8_round 7 (some .int)) 8 162 [.ref l0, .int l1] M (rs_tI x) (ms_tI x) := by
  refine Ct_of (by decide +kernel) (Nat.le_of_ble_eq_true rfl) fun X e1 e2 e3 C FN hnm => ?_
  subst e1; subst e2
  show wq X 7 0 [(0, .ref l0), (1, .int l1)] [] M
  exact w_X8_round C FN.2.2.2 hl l0 l1 M h FN
/-! X8_see -/
set_option maxRecDepth 100000 in
set_option maxHeartbeats 4000000 in
theorem w_X8_see_j49 {X : CX} {y : (Int32 × Mem) ⊕ (Nat × Mem)} (C : CK X cX8_see 5 RX8 8 163) (hRO : RO X.2.2.1 X.1.2.2.2.2.1 X.1.2.2.2.2.1.heap) (hl : X.1.2.1.stackTraces = false) (l0 : Nat) (M : Mem) (h : F_X8_see_j49 l0 M = some y) (kf : FIN X (some .int) (rs_tI y) (ms_tI y)) : wq X 5 49 [(0, .ref l0)] [] M := by
  unfold F_X8_see_j49 at h
  refine q_aload_n 0 C dX8_see_49 rfl ?_
  obtain ⟨v7, e8, h⟩ := bindE h
  refine q_getP C fl_RX8_67 rfl e8 dX8_see_50 ?_
  refine q_iconst (v := (2 : Int32)) C dX8_see_53 (by decide) ?_
  refine q_dup2 C dX8_see_54 rfl rfl ?_
  obtain ⟨v9, e10, h⟩ := bindE h
  refine q_iaload C e10 dX8_see_55 ?_
  refine q_iconst (v := (1 : Int32)) C dX8_see_56 (by decide) ?_
  refine q_iadd C dX8_see_57 ?_
  obtain ⟨M11, e12, h⟩ := bindE h
  refine q_iastore C e12 dX8_see_58 ?_
  refine q_iconst (v := (-1 : Int32)) C dX8_see_59 (by decide) ?_
  cases h
  exact q_iret C kf dX8_see_60
set_option maxRecDepth 100000 in
set_option maxHeartbeats 4000000 in
theorem w_X8_see_j30 {X : CX} {y : (Int32 × Mem) ⊕ (Nat × Mem)} (C : CK X cX8_see 5 RX8 8 163) (hRO : RO X.2.2.1 X.1.2.2.2.2.1 X.1.2.2.2.2.1.heap) (hl : X.1.2.1.stackTraces = false) (l0 : Nat) (l1 : Int32) (l2 : Int32) (l3 : Int32) (t0 : Int32) (M : Mem) (h : F_X8_see_j30 l0 l1 l2 l3 t0 M = some y) (kf : FIN X (some .int) (rs_tI y) (ms_tI y)) : wq X 5 30 [(0, .ref l0), (1, .int l1), (2, .int l2), (3, .int l3)] [.int t0] M := by
  unfold F_X8_see_j30 at h
  refine q_istore (i := 4) (lv' := [(4, .int t0), (0, .ref l0), (1, .int l1), (2, .int l2), (3, .int l3)]) C dX8_see_30 (by decide) rfl ?_
  refine q_iload 0 C dX8_see_32 rfl ?_
  refine q_if_eq (tgt := 49) C dX8_see_34 (by decide) (fun c6 => ?_) (fun c6 => ?_)
  · have h := ifT c6 h
    exact q_sub (lv' := [(0, .ref l0)]) [1] rfl (w_X8_see_j49 C hRO hl l0 M h kf)
  · have h := ifF c6 h
    refine q_aload_n 1 C dX8_see_37 rfl ?_
    obtain ⟨v13, e14, h⟩ := bindE h
    refine q_getP C fl_RX8_50 rfl e14 dX8_see_38 ?_
    obtain ⟨e15, h⟩ := ckOE h
    obtain ⟨v17, e16, h⟩ := bindE h
    refine q_callV (v := some (.int v17)) [] C hRO lk_RX8_153 vk_X5_many e15 rfl rfl rfl (Nat.le_of_ble_eq_true rfl) (by decide) (by decide) dX8_see_41 (k_X5_many X.1.2.1 hl X.2.2.1 v13 M _ e16) ?_
    refine q_bipush (v := (8 : Int32)) C dX8_see_44 (by decide) ?_
    refine q_icmp_lt (tgt := 61) C dX8_see_46 (by decide) (fun c18 => ?_) (fun c18 => ?_)
    · have h := ifT c18 h
      refine q_aload_n 1 C dX8_see_61 rfl ?_
      obtain ⟨v19, e20, h⟩ := bindE h
      refine q_getP C fl_RX8_50 rfl e20 dX8_see_62 ?_
      refine q_iload_n 2 C dX8_see_65 rfl ?_
      refine q_iload_n 3 C dX8_see_66 rfl ?_
      refine q_iload_n 4 C dX8_see_67 rfl ?_
      obtain ⟨e21, h⟩ := ckOE h
      obtain ⟨M23, e22, h⟩ := bindE h
      refine q_callV (v := none) [.int l1, .int l2, .int l3] C hRO lk_RX8_311 vk_X5_add e21 rfl rfl rfl (Nat.le_of_ble_eq_true rfl) (by decide) (by decide) dX8_see_68 (k_X5_add X.1.2.1 hl X.2.2.1 v19 l1 l2 l3 M _ e22) ?_
      refine q_aload_n 1 C dX8_see_71 rfl ?_
      obtain ⟨v25, e26, h⟩ := bindE h
      refine q_getP C fl_RX8_50 rfl e26 dX8_see_72 ?_
      obtain ⟨e27, h⟩ := ckOE h
      obtain ⟨v29, e28, h⟩ := bindE h
      refine q_callV (v := some (.int v29)) [] C hRO lk_RX8_153 vk_X5_many e27 rfl rfl rfl (Nat.le_of_ble_eq_true rfl) (by decide) (by decide) dX8_see_75 (k_X5_many X.1.2.1 hl X.2.2.1 v25 M23 _ e28) ?_
      cases h
      exact q_iret C kf dX8_see_78
    · have h := ifF c18 h
      exact q_sub (lv' := [(0, .ref l0)]) [1] rfl (w_X8_see_j49 C hRO hl l0 M h kf)
set_option maxRecDepth 100000 in
set_option maxHeartbeats 4000000 in
theorem w_X8_see_j29 {X : CX} {y : (Int32 × Mem) ⊕ (Nat × Mem)} (C : CK X cX8_see 5 RX8 8 163) (hRO : RO X.2.2.1 X.1.2.2.2.2.1 X.1.2.2.2.2.1.heap) (hl : X.1.2.1.stackTraces = false) (l0 : Nat) (l1 : Int32) (l2 : Int32) (l3 : Int32) (M : Mem) (h : F_X8_see_j29 l0 l1 l2 l3 M = some y) (kf : FIN X (some .int) (rs_tI y) (ms_tI y)) : wq X 5 29 [(0, .ref l0), (1, .int l1), (2, .int l2), (3, .int l3)] [] M := by
  unfold F_X8_see_j29 at h
  refine q_iconst (v := (0 : Int32)) C dX8_see_29 (by decide) ?_
  exact q_sub (lv' := [(0, .ref l0), (1, .int l1), (2, .int l2), (3, .int l3)]) [0, 1, 2, 3] rfl (w_X8_see_j30 C hRO hl l0 l1 l2 l3 (0 : Int32) M h kf)
set_option maxRecDepth 100000 in
set_option maxHeartbeats 4000000 in
theorem w_X8_see {X : CX} {y : (Int32 × Mem) ⊕ (Nat × Mem)} (C : CK X cX8_see 5 RX8 8 163) (hRO : RO X.2.2.1 X.1.2.2.2.2.1 X.1.2.2.2.2.1.heap) (hl : X.1.2.1.stackTraces = false) (l0 : Nat) (l1 : Int32) (l2 : Int32) (l3 : Int32) (M : Mem) (h : F_X8_see l0 l1 l2 l3 M = some y) (kf : FIN X (some .int) (rs_tI y) (ms_tI y)) : wq X 5 0 [(0, .ref l0), (1, .int l1), (2, .int l2), (3, .int l3)] [] M := by
  unfold F_X8_see at h
  refine q_aload_n 0 C dX8_see_0 rfl ?_
  refine q_iload_n 1 C dX8_see_1 rfl ?_
  obtain ⟨e1, h⟩ := ckOE h
  rcases bdVE h with ⟨M3, e2, h⟩ | ⟨x33, M34, e2, h⟩
  · refine q_callV (v := none) [.int l1] C hRO lk_RX8_186 vk_X8_needHouse e1 rfl rfl rfl (Nat.le_of_ble_eq_true rfl) (by decide) (by decide) dX8_see_2 (k_X8_needHouse X.1.2.1 hl X.2.2.1 l0 l1 M _ e2) ?_
    refine q_iload_n 2 C dX8_see_5 rfl ?_
    refine q_if_lt (tgt := 29) C dX8_see_6 (by decide) (fun c5 => ?_) (fun c5 => ?_)
    · have h := ifT c5 h
      exact q_sub (lv' := [(0, .ref l0), (1, .int l1), (2, .int l2), (3, .int l3)]) [0, 1, 2, 3] rfl (w_X8_see_j29 C hRO hl l0 l1 l2 l3 M3 h kf)
    · have h := ifF c5 h
      refine q_iload_n 2 C dX8_see_9 rfl ?_
      refine q_bipush (v := (20 : Int32)) C dX8_see_10 (by decide) ?_
      refine q_icmp_gt (tgt := 29) C dX8_see_12 (by decide) (fun c30 => ?_) (fun c30 => ?_)
      · have h := ifT c30 h
        exact q_sub (lv' := [(0, .ref l0), (1, .int l1), (2, .int l2), (3, .int l3)]) [0, 1, 2, 3] rfl (w_X8_see_j29 C hRO hl l0 l1 l2 l3 M3 h kf)
      · have h := ifF c30 h
        refine q_iload_n 3 C dX8_see_15 rfl ?_
        refine q_if_lt (tgt := 29) C dX8_see_16 (by decide) (fun c31 => ?_) (fun c31 => ?_)
        · have h := ifT c31 h
          exact q_sub (lv' := [(0, .ref l0), (1, .int l1), (2, .int l2), (3, .int l3)]) [0, 1, 2, 3] rfl (w_X8_see_j29 C hRO hl l0 l1 l2 l3 M3 h kf)
        · have h := ifF c31 h
          refine q_iload_n 3 C dX8_see_19 rfl ?_
          refine q_bipush (v := (99 : Int32)) C dX8_see_20 (by decide) ?_
          refine q_icmp_gt (tgt := 29) C dX8_see_22 (by decide) (fun c32 => ?_) (fun c32 => ?_)
          · have h := ifT c32 h
            exact q_sub (lv' := [(0, .ref l0), (1, .int l1), (2, .int l2), (3, .int l3)]) [0, 1, 2, 3] rfl (w_X8_see_j29 C hRO hl l0 l1 l2 l3 M3 h kf)
          · have h := ifF c32 h
            refine q_iconst (v := (1 : Int32)) C dX8_see_25 (by decide) ?_
            refine q_goto (tgt := 30) C dX8_see_26 (by decide) ?_
            exact q_sub (lv' := [(0, .ref l0), (1, .int l1), (2, .int l2), (3, .int l3)]) [0, 1, 2, 3] rfl (w_X8_see_j30 C hRO hl l0 l1 l2 l3 (1 : Int32) M3 h kf)
  · skip
    cases h
    exact q_callVX [.int l1] C kf lk_RX8_186 vk_X8_needHouse e1 rfl rfl rfl (Nat.le_of_ble_eq_true rfl) (by decide) (by decide) dX8_see_2 (k_X8_needHouse X.1.2.1 hl X.2.2.1 l0 l1 M _ e2)
theorem k_X8_see (l : Launch) (hl : l.stackTraces = false) (G : GG) (l0 : Nat) (l1 : Int32) (l2 : Int32) (l3 : Int32) (M : Mem) (x : (Int32 × Mem) ⊕ (Nat × Mem)) (h : F_X8_see l0 l1 l2 l3 M = some x) : Ct l G yX8_see (.code yX8_see cX8_see 5 (some .int)) 8 163 [.ref l0, .int l1, .int l2, .int l3] M (rs_tI x) (ms_tI x) := by
  refine Ct_of (by decide +kernel) (Nat.le_of_ble_eq_true rfl) fun X e1 e2 e3 C FN hnm => ?_
  subst e1; subst e2
  show wq X 5 0 [(0, .ref l0), (1, .int l1), (2, .int l2), (3, .int l3)] [] M
  exact w_X8_see C FN.2.2.2 hl l0 l1 l2 l3 M h FN
/-! X8_sorest -/
set_option maxRecDepth 100000 in
set_option maxHeartbeats 4000000 in
theorem w_X8_sorest {X : CX} {y : (Int32 × Mem) ⊕ (Nat × Mem)} (C : CK X cX8_sorest 2 RX8 13 281) (hRO : RO X.2.2.1 X.1.2.2.2.2.1 X.1.2.2.2.2.1.heap) (hl : X.1.2.1.stackTraces = false) (l0 : Nat) (l1 : Int32) (M : Mem) (h : F_X8_sorest l0 l1 M = some y) (kf : FIN X (some .int) (rs_tI y) (ms_tI y)) : wq X 2 0 [(0, .ref l0), (1, .int l1)] [] M := by
  unfold F_X8_sorest at h
  refine q_iload_n 1 C dX8_sorest_0 rfl ?_
  refine q_iconst (v := (0 : Int32)) C dX8_sorest_1 (by decide) ?_
  rcases bdVE h with ⟨M2, e1, h⟩ | ⟨x16, M17, e1, h⟩
  · refine q_callS (v := none) [.int l1, .int (0 : Int32)] C hRO lk_RX8_280 sk_X8_needDays rfl rfl (Nat.le_of_ble_eq_true rfl) (by decide) (by decide) dX8_sorest_2 (k_X8_needDays X.1.2.1 hl X.2.2.1 l1 (0 : Int32) M _ e1) ?_
    refine q_aload_n 0 C dX8_sorest_5 rfl ?_
    refine q_iload_n 1 C dX8_sorest_6 rfl ?_
    obtain ⟨e4, h⟩ := ckOE h
    obtain ⟨v7, M6, e5, h⟩ := bd2E h
    refine q_callV (v := some (.ref v7)) [.int l1] C hRO lk_RX8_283 vk_X8_after e4 rfl rfl rfl (Nat.le_of_ble_eq_true rfl) (by decide) (by decide) dX8_sorest_7 (k_X8_after X.1.2.1 hl X.2.2.1 l0 l1 M2 _ e5) ?_
    obtain ⟨v8, e9, h⟩ := bindE h
    refine q_getP C fl_RX8_165 rfl e9 dX8_sorest_10 ?_
    refine q_aload_n 0 C dX8_sorest_13 rfl ?_
    obtain ⟨v10, e11, h⟩ := bindE h
    refine q_getP C fl_RX8_23 rfl e11 dX8_sorest_14 ?_
    obtain ⟨v12, e13, h⟩ := bindE h
    refine q_getI C fl_RX8_122 rfl e13 dX8_sorest_17 ?_
    obtain ⟨v15, e14, h⟩ := bindE h
    refine q_callS (v := some (.int v15)) [.ref v8, .int v12] C hRO lk_RX8_392 sk_X8_leastOfMost rfl rfl (Nat.le_of_ble_eq_true rfl) (by decide) (by decide) dX8_sorest_20 (k_X8_leastOfMost X.1.2.1 hl X.2.2.1 v8 v12 M6 _ e14) ?_
    cases h
    exact q_iret C kf dX8_sorest_23
  · skip
    cases h
    exact q_callSX [.int l1, .int (0 : Int32)] C kf lk_RX8_280 sk_X8_needDays rfl rfl (Nat.le_of_ble_eq_true rfl) (by decide) (by decide) dX8_sorest_2 (k_X8_needDays X.1.2.1 hl X.2.2.1 l1 (0 : Int32) M _ e1)
theorem k_X8_sorest (l : Launch) (hl : l.stackTraces = false) (G : GG) (l0 : Nat) (l1 : Int32) (M : Mem) (x : (Int32 × Mem) ⊕ (Nat × Mem)) (h : F_X8_sorest l0 l1 M = some x) : Ct l G yX8_sorest (.code yX8_sorest cX8_sorest 2 (some .int)) 13 281 [.ref l0, .int l1] M (rs_tI x) (ms_tI x) := by
  refine Ct_of (by decide +kernel) (Nat.le_of_ble_eq_true rfl) fun X e1 e2 e3 C FN hnm => ?_
  subst e1; subst e2
  show wq X 2 0 [(0, .ref l0), (1, .int l1)] [] M
  exact w_X8_sorest C FN.2.2.2 hl l0 l1 M h FN
/-! X8_stuff -/
set_option maxRecDepth 100000 in
set_option maxHeartbeats 4000000 in
theorem w_X8_stuff {X : CX} {y : (Int32 × Mem) ⊕ (Nat × Mem)} (C : CK X cX8_stuff 3 RX8 11 226) (hRO : RO X.2.2.1 X.1.2.2.2.2.1 X.1.2.2.2.2.1.heap) (hl : X.1.2.1.stackTraces = false) (l0 : Nat) (l1 : Int32) (l2 : Int32) (M : Mem) (h : F_X8_stuff l0 l1 l2 M = some y) (kf : FIN X (some .int) (rs_tI y) (ms_tI y)) : wq X 3 0 [(0, .ref l0), (1, .int l1), (2, .int l2)] [] M := by
  unfold F_X8_stuff at h
  refine q_aload_n 0 C dX8_stuff_0 rfl ?_
  refine q_iload_n 1 C dX8_stuff_1 rfl ?_
  obtain ⟨e1, h⟩ := ckOE h
  rcases bdVE h with ⟨M3, e2, h⟩ | ⟨x52, M53, e2, h⟩
  · refine q_callV (v := none) [.int l1] C hRO lk_RX8_186 vk_X8_needHouse e1 rfl rfl rfl (Nat.le_of_ble_eq_true rfl) (by decide) (by decide) dX8_stuff_2 (k_X8_needHouse X.1.2.1 hl X.2.2.1 l0 l1 M _ e2) ?_
    refine q_aload_n 0 C dX8_stuff_5 rfl ?_
    obtain ⟨v5, e6, h⟩ := bindE h
    refine q_getP C fl_RX8_33 rfl e6 dX8_stuff_6 ?_
    obtain ⟨v7, e8, h⟩ := bindE h
    refine q_getP C fl_RX8_159 rfl e8 dX8_stuff_9 ?_
    refine q_iload_n 1 C dX8_stuff_12 rfl ?_
    obtain ⟨v9, e10, h⟩ := bindE h
    refine q_iaload C e10 dX8_stuff_13 ?_
    refine q_iconst (v := (-1 : Int32)) C dX8_stuff_14 (by decide) ?_
    refine q_icmp_ne (tgt := 29) C dX8_stuff_15 (by decide) (fun c11 => ?_) (fun c11 => ?_)
    · have h := ifF c11 h
      refine q_aload_n 0 C dX8_stuff_29 rfl ?_
      obtain ⟨e12, h⟩ := ckOE h
      obtain ⟨v15, M14, e13, h⟩ := bd2E h
      refine q_callV (v := some (.int v15)) [] C hRO lk_RX8_239 vk_X8_refuseAct e12 rfl rfl rfl (Nat.le_of_ble_eq_true rfl) (by decide) (by decide) dX8_stuff_30 (k_X8_refuseAct X.1.2.1 hl X.2.2.1 l0 M3 _ e13) ?_
      cases h
      exact q_iret C kf dX8_stuff_33
    · have h := ifT c11 h
      refine q_iload_n 2 C dX8_stuff_18 rfl ?_
      refine q_iconst (v := (1 : Int32)) C dX8_stuff_19 (by decide) ?_
      refine q_icmp_lt (tgt := 29) C dX8_stuff_20 (by decide) (fun c16 => ?_) (fun c16 => ?_)
      · have h := ifT c16 h
        refine q_aload_n 0 C dX8_stuff_29 rfl ?_
        obtain ⟨e17, h⟩ := ckOE h
        obtain ⟨v20, M19, e18, h⟩ := bd2E h
        refine q_callV (v := some (.int v20)) [] C hRO lk_RX8_239 vk_X8_refuseAct e17 rfl rfl rfl (Nat.le_of_ble_eq_true rfl) (by decide) (by decide) dX8_stuff_30 (k_X8_refuseAct X.1.2.1 hl X.2.2.1 l0 M3 _ e18) ?_
        cases h
        exact q_iret C kf dX8_stuff_33
      · have h := ifF c16 h
        refine q_iload_n 2 C dX8_stuff_23 rfl ?_
        refine q_bipush (v := (20 : Int32)) C dX8_stuff_24 (by decide) ?_
        refine q_icmp_le (tgt := 34) C dX8_stuff_26 (by decide) (fun c21 => ?_) (fun c21 => ?_)
        · have h := ifT c21 h
          refine q_aload_n 0 C dX8_stuff_34 rfl ?_
          obtain ⟨v22, e23, h⟩ := bindE h
          refine q_getP C fl_RX8_43 rfl e23 dX8_stuff_35 ?_
          refine q_aload_n 0 C dX8_stuff_38 rfl ?_
          obtain ⟨v24, e25, h⟩ := bindE h
          refine q_getP C fl_RX8_33 rfl e25 dX8_stuff_39 ?_
          obtain ⟨e26, h⟩ := ckOE h
          obtain ⟨M28, e27, h⟩ := bindE h
          refine q_callV (v := none) [.ref v24] C hRO lk_RX8_242 vk_X0_keep e26 rfl rfl rfl (Nat.le_of_ble_eq_true rfl) (by decide) (by decide) dX8_stuff_42 (k_X0_keep X.1.2.1 hl X.2.2.1 v22 v24 M3 _ e27) ?_
          refine q_aload_n 0 C dX8_stuff_45 rfl ?_
          obtain ⟨v30, e31, h⟩ := bindE h
          refine q_getP C fl_RX8_33 rfl e31 dX8_stuff_46 ?_
          obtain ⟨v32, e33, h⟩ := bindE h
          refine q_getP C fl_RX8_189 rfl e33 dX8_stuff_49 ?_
          refine q_iload_n 1 C dX8_stuff_52 rfl ?_
          refine q_iconst (v := (1 : Int32)) C dX8_stuff_53 (by decide) ?_
          refine q_aload_n 0 C dX8_stuff_54 rfl ?_
          obtain ⟨v34, e35, h⟩ := bindE h
          refine q_getP C fl_RX8_33 rfl e35 dX8_stuff_55 ?_
          obtain ⟨v36, e37, h⟩ := bindE h
          refine q_getP C fl_RX8_189 rfl e37 dX8_stuff_58 ?_
          refine q_iload_n 1 C dX8_stuff_61 rfl ?_
          obtain ⟨v38, e39, h⟩ := bindE h
          refine q_iaload C e39 dX8_stuff_62 ?_
          refine q_iload_n 2 C dX8_stuff_63 rfl ?_
          refine q_isub C dX8_stuff_64 ?_
          refine q_mmax C ml_RX8_215 mm_max1 mm_3 mm_max4 (by decide) (Nat.le_of_ble_eq_true rfl) dX8_stuff_65 ?_
          obtain ⟨M40, e41, h⟩ := bindE h
          refine q_iastore C e41 dX8_stuff_68 ?_
          refine q_aload_n 0 C dX8_stuff_69 rfl ?_
          obtain ⟨v42, e43, h⟩ := bindE h
          refine q_getP C fl_RX8_33 rfl e43 dX8_stuff_70 ?_
          obtain ⟨v44, e45, h⟩ := bindE h
          refine q_getP C fl_RX8_189 rfl e45 dX8_stuff_73 ?_
          refine q_iload_n 1 C dX8_stuff_76 rfl ?_
          obtain ⟨v46, e47, h⟩ := bindE h
          refine q_iaload C e47 dX8_stuff_77 ?_
          cases h
          exact q_iret C kf dX8_stuff_78
        · have h := ifF c21 h
          refine q_aload_n 0 C dX8_stuff_29 rfl ?_
          obtain ⟨e48, h⟩ := ckOE h
          obtain ⟨v51, M50, e49, h⟩ := bd2E h
          refine q_callV (v := some (.int v51)) [] C hRO lk_RX8_239 vk_X8_refuseAct e48 rfl rfl rfl (Nat.le_of_ble_eq_true rfl) (by decide) (by decide) dX8_stuff_30 (k_X8_refuseAct X.1.2.1 hl X.2.2.1 l0 M3 _ e49) ?_
          cases h
          exact q_iret C kf dX8_stuff_33
  · skip
    cases h
    exact q_callVX [.int l1] C kf lk_RX8_186 vk_X8_needHouse e1 rfl rfl rfl (Nat.le_of_ble_eq_true rfl) (by decide) (by decide) dX8_stuff_2 (k_X8_needHouse X.1.2.1 hl X.2.2.1 l0 l1 M _ e2)
theorem k_X8_stuff (l : Launch) (hl : l.stackTraces = false) (G : GG) (l0 : Nat) (l1 : Int32) (l2 : Int32) (M : Mem) (x : (Int32 × Mem) ⊕ (Nat × Mem)) (h : F_X8_stuff l0 l1 l2 M = some x) : Ct l G yX8_stuff (.code yX8_stuff cX8_stuff 3 (some .int)) 11 226 [.ref l0, .int l1, .int l2] M (rs_tI x) (ms_tI x) := by
  refine Ct_of (by decide +kernel) (Nat.le_of_ble_eq_true rfl) fun X e1 e2 e3 C FN hnm => ?_
  subst e1; subst e2
  show wq X 3 0 [(0, .ref l0), (1, .int l1), (2, .int l2)] [] M
  exact w_X8_stuff C FN.2.2.2 hl l0 l1 l2 M h FN
/-! X8_then -/
set_option maxRecDepth 100000 in
set_option maxHeartbeats 4000000 in
theorem w_X8_then {X : CX} {y : (Int32 × Mem) ⊕ (Nat × Mem)} (C : CK X cX8_then 5 RX8 13 281) (hRO : RO X.2.2.1 X.1.2.2.2.2.1 X.1.2.2.2.2.1.heap) (hl : X.1.2.1.stackTraces = false) (l0 : Nat) (l1 : Int32) (l2 : Int32) (l3 : Int32) (M : Mem) (h : F_X8_then l0 l1 l2 l3 M = some y) (kf : FIN X (some .int) (rs_tI y) (ms_tI y)) : wq X 5 0 [(0, .ref l0), (1, .int l1), (2, .int l2), (3, .int l3)] [] M := by
  unfold F_X8_then at h
  refine q_aload_n 0 C dX8_then_0 rfl ?_
  refine q_iload_n 1 C dX8_then_1 rfl ?_
  obtain ⟨e1, h⟩ := ckOE h
  rcases bdVE h with ⟨M3, e2, h⟩ | ⟨x33, M34, e2, h⟩
  · refine q_callV (v := none) [.int l1] C hRO lk_RX8_223 vk_X8_needPerson e1 rfl rfl rfl (Nat.le_of_ble_eq_true rfl) (by decide) (by decide) dX8_then_2 (k_X8_needPerson X.1.2.1 hl X.2.2.1 l0 l1 M _ e2) ?_
    refine q_iload_n 3 C dX8_then_5 rfl ?_
    refine q_iconst (v := (2 : Int32)) C dX8_then_6 (by decide) ?_
    rcases bdVE h with ⟨M6, e5, h⟩ | ⟨x31, M32, e5, h⟩
    · refine q_callS (v := none) [.int l3, .int (2 : Int32)] C hRO lk_RX8_277 sk_X8_needWhat rfl rfl (Nat.le_of_ble_eq_true rfl) (by decide) (by decide) dX8_then_7 (k_X8_needWhat X.1.2.1 hl X.2.2.1 l3 (2 : Int32) M3 _ e5) ?_
      refine q_iload_n 2 C dX8_then_10 rfl ?_
      refine q_iconst (v := (0 : Int32)) C dX8_then_11 (by decide) ?_
      rcases bdVE h with ⟨M9, e8, h⟩ | ⟨x29, M30, e8, h⟩
      · refine q_callS (v := none) [.int l2, .int (0 : Int32)] C hRO lk_RX8_280 sk_X8_needDays rfl rfl (Nat.le_of_ble_eq_true rfl) (by decide) (by decide) dX8_then_12 (k_X8_needDays X.1.2.1 hl X.2.2.1 l2 (0 : Int32) M6 _ e8) ?_
        refine q_aload_n 0 C dX8_then_15 rfl ?_
        refine q_iload_n 2 C dX8_then_16 rfl ?_
        obtain ⟨e11, h⟩ := ckOE h
        obtain ⟨v14, M13, e12, h⟩ := bd2E h
        refine q_callV (v := some (.ref v14)) [.int l2] C hRO lk_RX8_283 vk_X8_after e11 rfl rfl rfl (Nat.le_of_ble_eq_true rfl) (by decide) (by decide) dX8_then_17 (k_X8_after X.1.2.1 hl X.2.2.1 l0 l2 M9 _ e12) ?_
        refine q_astore (i := 4) (lv' := [(4, .ref v14), (0, .ref l0), (1, .int l1), (2, .int l2), (3, .int l3)]) C dX8_then_20 (by decide) rfl ?_
        refine q_iload_n 4 C dX8_then_22 rfl ?_
        by_cases c15 : l3 = (0 : Int32)
        · have h := ifT c15 h
          refine q_lookup (off := 25) (tgt := 48) C dX8_then_23 (by decide) (by rw [c15]; decide) (by decide) ?_
          refine q_aload 0 C dX8_then_48 rfl ?_
          obtain ⟨v16, e17, h⟩ := bindE h
          refine q_getP C fl_RX8_212 rfl e17 dX8_then_50 ?_
          refine q_iload_n 2 C dX8_then_53 rfl ?_
          obtain ⟨v18, e19, h⟩ := bindE h
          refine q_iaload C e19 dX8_then_54 ?_
          cases h
          exact q_iret C kf dX8_then_55
        have h := ifF c15 h
        by_cases c20 : l3 = (1 : Int32)
        · have h := ifT c20 h
          refine q_lookup (off := 33) (tgt := 56) C dX8_then_23 (by decide) (by rw [c20]; decide) (by decide) ?_
          refine q_aload 0 C dX8_then_56 rfl ?_
          obtain ⟨v21, e22, h⟩ := bindE h
          refine q_getP C fl_RX8_162 rfl e22 dX8_then_58 ?_
          refine q_iload_n 2 C dX8_then_61 rfl ?_
          obtain ⟨v23, e24, h⟩ := bindE h
          refine q_iaload C e24 dX8_then_62 ?_
          cases h
          exact q_iret C kf dX8_then_63
        have h := ifF c20 h
        refine q_lookup (off := 41) (tgt := 64) C dX8_then_23 (by decide) (by have z0 := neI c15; have z1 := neI c20; simp only [Int32.reduceToInt] at *; simp [Op.lookupswitch.offset, Ne.symm z0, Ne.symm z1]) (by decide) ?_
        refine q_aload 0 C dX8_then_64 rfl ?_
        obtain ⟨v25, e26, h⟩ := bindE h
        refine q_getP C fl_RX8_165 rfl e26 dX8_then_66 ?_
        refine q_iload_n 2 C dX8_then_69 rfl ?_
        obtain ⟨v27, e28, h⟩ := bindE h
        refine q_iaload C e28 dX8_then_70 ?_
        cases h
        exact q_iret C kf dX8_then_71
      · skip
        cases h
        exact q_callSX [.int l2, .int (0 : Int32)] C kf lk_RX8_280 sk_X8_needDays rfl rfl (Nat.le_of_ble_eq_true rfl) (by decide) (by decide) dX8_then_12 (k_X8_needDays X.1.2.1 hl X.2.2.1 l2 (0 : Int32) M6 _ e8)
    · skip
      cases h
      exact q_callSX [.int l3, .int (2 : Int32)] C kf lk_RX8_277 sk_X8_needWhat rfl rfl (Nat.le_of_ble_eq_true rfl) (by decide) (by decide) dX8_then_7 (k_X8_needWhat X.1.2.1 hl X.2.2.1 l3 (2 : Int32) M3 _ e5)
  · skip
    cases h
    exact q_callVX [.int l1] C kf lk_RX8_223 vk_X8_needPerson e1 rfl rfl rfl (Nat.le_of_ble_eq_true rfl) (by decide) (by decide) dX8_then_2 (k_X8_needPerson X.1.2.1 hl X.2.2.1 l0 l1 M _ e2)
theorem k_X8_then (l : Launch) (hl : l.stackTraces = false) (G : GG) (l0 : Nat) (l1 : Int32) (l2 : Int32) (l3 : Int32) (M : Mem) (x : (Int32 × Mem) ⊕ (Nat × Mem)) (h : F_X8_then l0 l1 l2 l3 M = some x) : Ct l G yX8_then (.code yX8_then cX8_then 5 (some .int)) 13 281 [.ref l0, .int l1, .int l2, .int l3] M (rs_tI x) (ms_tI x) := by
  refine Ct_of (by decide +kernel) (Nat.le_of_ble_eq_true rfl) fun X e1 e2 e3 C FN hnm => ?_
  subst e1; subst e2
  show wq X 5 0 [(0, .ref l0), (1, .int l1), (2, .int l2), (3, .int l3)] [] M
  exact w_X8_then C FN.2.2.2 hl l0 l1 l2 l3 M h FN
/-! X8_toGrow -/
set_option maxRecDepth 100000 in
set_option maxHeartbeats 4000000 in
theorem w_X8_toGrow_s23 {X : CX} {y : (Int32 × Mem) ⊕ ((Mem) ⊕ ((Int32 × Mem) ⊕ (Nat × Mem)))} (C : CK X cX8_toGrow 4 RX8 8 162) (hRO : RO X.2.2.1 X.1.2.2.2.2.1 X.1.2.2.2.2.1.heap) (hl : X.1.2.1.stackTraces = false) (l0 : Nat) (l1 : Int32) (l2 : Int32) (l3 : Int32) (M : Mem) (h : F_X8_toGrow_s23 l0 l1 l2 l3 M = some y) (kc : ∀ s' : Int32 × Mem, y = .inl s' → wq X 4 23 [(0, .ref l0), (1, .int l1), (2, .int l2), (3, .int (s'.1))] [] s'.2) (kx : ∀ e' : Mem, y = (.inr (.inl e')) → wq X 4 70 [] [] e') (kf : ∀ f' : (Int32 × Mem) ⊕ (Nat × Mem), y = (.inr (.inr f')) → FIN X (some .int) (rs_tI f') (ms_tI f')) : wq X 4 23 [(0, .ref l0), (1, .int l1), (2, .int l2), (3, .int l3)] [] M := by
  unfold F_X8_toGrow_s23 at h
  refine q_iload_n 3 C dX8_toGrow_23 rfl ?_
  refine q_bipush (v := (40 : Int32)) C dX8_toGrow_24 (by decide) ?_
  refine q_icmp_gt (tgt := 70) C dX8_toGrow_26 (by decide) (fun c17 => ?_) (fun c17 => ?_)
  · have h := ifT c17 h
    exact q_sub (lv' := []) [] rfl (kx M (someI h))
  · have h := ifF c17 h
    refine q_aload_n 0 C dX8_toGrow_29 rfl ?_
    obtain ⟨v18, e19, h⟩ := bindE h
    refine q_getP C fl_RX8_37 rfl e19 dX8_toGrow_30 ?_
    obtain ⟨v20, e21, h⟩ := bindE h
    refine q_getP C fl_RX8_212 rfl e21 dX8_toGrow_33 ?_
    refine q_iload_n 1 C dX8_toGrow_36 rfl ?_
    obtain ⟨v22, e23, h⟩ := bindE h
    refine q_iaload C e23 dX8_toGrow_37 ?_
    refine q_aload_n 0 C dX8_toGrow_38 rfl ?_
    obtain ⟨v24, e25, h⟩ := bindE h
    refine q_getP C fl_RX8_33 rfl e25 dX8_toGrow_39 ?_
    obtain ⟨v26, e27, h⟩ := bindE h
    refine q_getP C fl_RX8_189 rfl e27 dX8_toGrow_42 ?_
    refine q_iload_n 2 C dX8_toGrow_45 rfl ?_
    obtain ⟨v28, e29, h⟩ := bindE h
    refine q_iaload C e29 dX8_toGrow_46 ?_
    refine q_icmp_lt (tgt := 52) C dX8_toGrow_47 (by decide) (fun c30 => ?_) (fun c30 => ?_)
    · have h := ifT c30 h
      refine q_aload_n 0 C dX8_toGrow_52 rfl ?_
      obtain ⟨v31, e32, h⟩ := bindE h
      refine q_getP C fl_RX8_23 rfl e32 dX8_toGrow_53 ?_
      refine q_aload_n 0 C dX8_toGrow_56 rfl ?_
      obtain ⟨v33, e34, h⟩ := bindE h
      refine q_getP C fl_RX8_37 rfl e34 dX8_toGrow_57 ?_
      refine q_iload_n 1 C dX8_toGrow_60 rfl ?_
      obtain ⟨e35, h⟩ := ckOE h
      obtain ⟨M37, e36, h⟩ := bindE h
      refine q_callV (v := none) [.ref v33, .int l1] C hRO lk_RX8_389 vk_X2_grow e35 rfl rfl rfl (Nat.le_of_ble_eq_true rfl) (by decide) (by decide) dX8_toGrow_61 (k_X2_grow X.1.2.1 hl X.2.2.1 v31 v33 l1 M _ e36) ?_
      refine q_iinc 3 (v := (l3 + (1 : Int32))) (lv' := [(3, .int (l3 + (1 : Int32))), (0, .ref l0), (1, .int l1), (2, .int l2)]) C dX8_toGrow_64 rfl rfl (by decide) rfl ?_
      refine q_goto (tgt := 23) C dX8_toGrow_67 (by decide) ?_
      exact q_sub (lv' := [(0, .ref l0), (1, .int l1), (2, .int l2), (3, .int (l3 + (1 : Int32)))]) [1, 2, 3, 0] rfl (kc ((l3 + (1 : Int32)), M37) (someI h))
    · have h := ifF c30 h
      refine q_iload_n 3 C dX8_toGrow_50 rfl ?_
      exact q_iret C (kf _ (someI h)) dX8_toGrow_51
theorem w_X8_toGrow_l23 {X : CX} {r : (Mem) ⊕ ((Int32 × Mem) ⊕ (Nat × Mem))} (C : CK X cX8_toGrow 4 RX8 8 162) (hRO : RO X.2.2.1 X.1.2.2.2.2.1 X.1.2.2.2.2.1.heap) (hl : X.1.2.1.stackTraces = false) (l0 : Nat) (l1 : Int32) (l2 : Int32) (l3 : Int32) (M : Mem) (h : loop (fun s => F_X8_toGrow_s23 l0 l1 l2 s.1 s.2) (l3, M) = some r) (kx : ∀ e' : Mem, r = .inl e' → wq X 4 70 [] [] e') (kf : ∀ f' : (Int32 × Mem) ⊕ (Nat × Mem), r = .inr f' → FIN X (some .int) (rs_tI f') (ms_tI f')) : wq X 4 23 [(0, .ref l0), (1, .int l1), (2, .int l2), (3, .int l3)] [] M :=
  loop_ind (P := fun s => wq X 4 23 [(0, .ref l0), (1, .int l1), (2, .int l2), (3, .int s.1)] [] s.2) h (fun s y hy kc kr => w_X8_toGrow_s23 C hRO hl l0 l1 l2 s.1 s.2 hy kc (fun e' he => kx e' (kr _ he).symm) (fun f' he => kf f' (kr _ he).symm))
set_option maxRecDepth 100000 in
set_option maxHeartbeats 4000000 in
theorem w_X8_toGrow {X : CX} {y : (Int32 × Mem) ⊕ (Nat × Mem)} (C : CK X cX8_toGrow 4 RX8 8 162) (hRO : RO X.2.2.1 X.1.2.2.2.2.1 X.1.2.2.2.2.1.heap) (hl : X.1.2.1.stackTraces = false) (l0 : Nat) (l1 : Int32) (l2 : Int32) (M : Mem) (h : F_X8_toGrow l0 l1 l2 M = some y) (kf : FIN X (some .int) (rs_tI y) (ms_tI y)) : wq X 4 0 [(0, .ref l0), (1, .int l1), (2, .int l2)] [] M := by
  unfold F_X8_toGrow at h
  refine q_aload_n 0 C dX8_toGrow_0 rfl ?_
  refine q_iload_n 1 C dX8_toGrow_1 rfl ?_
  obtain ⟨e1, h⟩ := ckOE h
  rcases bdVE h with ⟨M3, e2, h⟩ | ⟨x46, M47, e2, h⟩
  · refine q_callV (v := none) [.int l1] C hRO lk_RX8_223 vk_X8_needPerson e1 rfl rfl rfl (Nat.le_of_ble_eq_true rfl) (by decide) (by decide) dX8_toGrow_2 (k_X8_needPerson X.1.2.1 hl X.2.2.1 l0 l1 M _ e2) ?_
    refine q_aload_n 0 C dX8_toGrow_5 rfl ?_
    refine q_iload_n 2 C dX8_toGrow_6 rfl ?_
    obtain ⟨e5, h⟩ := ckOE h
    rcases bdVE h with ⟨M7, e6, h⟩ | ⟨x44, M45, e6, h⟩
    · refine q_callV (v := none) [.int l2] C hRO lk_RX8_186 vk_X8_needHouse e5 rfl rfl rfl (Nat.le_of_ble_eq_true rfl) (by decide) (by decide) dX8_toGrow_7 (k_X8_needHouse X.1.2.1 hl X.2.2.1 l0 l2 M3 _ e6) ?_
      refine q_aload_n 0 C dX8_toGrow_10 rfl ?_
      obtain ⟨v9, e10, h⟩ := bindE h
      refine q_getP C fl_RX8_37 rfl e10 dX8_toGrow_11 ?_
      refine q_aload_n 0 C dX8_toGrow_14 rfl ?_
      obtain ⟨v11, e12, h⟩ := bindE h
      refine q_getP C fl_RX8_33 rfl e12 dX8_toGrow_15 ?_
      obtain ⟨e13, h⟩ := ckOE h
      obtain ⟨M15, e14, h⟩ := bindE h
      refine q_callV (v := none) [.ref v11] C hRO lk_RX8_274 vk_X6_copy e13 rfl rfl rfl (Nat.le_of_ble_eq_true rfl) (by decide) (by decide) dX8_toGrow_18 (k_X6_copy X.1.2.1 hl X.2.2.1 v9 v11 M7 _ e14) ?_
      refine q_iconst (v := (0 : Int32)) C dX8_toGrow_21 (by decide) ?_
      refine q_istore_n (i := 3) (lv' := [(3, .int (0 : Int32)), (0, .ref l0), (1, .int l1), (2, .int l2)]) C dX8_toGrow_22 rfl (by decide) rfl ?_
      obtain ⟨r39, e40, h⟩ := bindE h
      refine q_sub (lv' := [(0, .ref l0), (1, .int l1), (2, .int l2), (3, .int (0 : Int32))]) [1, 2, 3, 0] rfl (w_X8_toGrow_l23 C hRO hl l0 l1 l2 (0 : Int32) M15 e40 (fun M41 he => ?_) (fun f43 he => ?_))
      · subst he
        have h := elimL h
        show wq X 4 70 [] [] M41
        refine q_iconst (v := (-1 : Int32)) C dX8_toGrow_70 (by decide) ?_
        cases h
        exact q_iret C kf dX8_toGrow_71
      · subst he
        have h := elimR h
        cases h
        exact kf
    · skip
      cases h
      exact q_callVX [.int l2] C kf lk_RX8_186 vk_X8_needHouse e5 rfl rfl rfl (Nat.le_of_ble_eq_true rfl) (by decide) (by decide) dX8_toGrow_7 (k_X8_needHouse X.1.2.1 hl X.2.2.1 l0 l2 M3 _ e6)
  · skip
    cases h
    exact q_callVX [.int l1] C kf lk_RX8_223 vk_X8_needPerson e1 rfl rfl rfl (Nat.le_of_ble_eq_true rfl) (by decide) (by decide) dX8_toGrow_2 (k_X8_needPerson X.1.2.1 hl X.2.2.1 l0 l1 M _ e2)
theorem k_X8_toGrow (l : Launch) (hl : l.stackTraces = false) (G : GG) (l0 : Nat) (l1 : Int32) (l2 : Int32) (M : Mem) (x : (Int32 × Mem) ⊕ (Nat × Mem)) (h : F_X8_toGrow l0 l1 l2 M = some x) : Ct l G yX8_toGrow (.code yX8_toGrow cX8_toGrow 4 (some .int)) 8 162 [.ref l0, .int l1, .int l2] M (rs_tI x) (ms_tI x) := by
  refine Ct_of (by decide +kernel) (Nat.le_of_ble_eq_true rfl) fun X e1 e2 e3 C FN hnm => ?_
  subst e1; subst e2
  show wq X 4 0 [(0, .ref l0), (1, .int l1), (2, .int l2)] [] M
  exact w_X8_toGrow C FN.2.2.2 hl l0 l1 l2 M h FN
/-! X8_toStuff -/
set_option maxRecDepth 100000 in
set_option maxHeartbeats 4000000 in
theorem w_X8_toStuff {X : CX} {y : (Int32 × Mem) ⊕ (Nat × Mem)} (C : CK X cX8_toStuff 4 RX8 8 161) (hRO : RO X.2.2.1 X.1.2.2.2.2.1 X.1.2.2.2.2.1.heap) (hl : X.1.2.1.stackTraces = false) (l0 : Nat) (l1 : Int32) (l2 : Int32) (M : Mem) (h : F_X8_toStuff l0 l1 l2 M = some y) (kf : FIN X (some .int) (rs_tI y) (ms_tI y)) : wq X 4 0 [(0, .ref l0), (1, .int l1), (2, .int l2)] [] M := by
  unfold F_X8_toStuff at h
  refine q_aload_n 0 C dX8_toStuff_0 rfl ?_
  refine q_iload_n 1 C dX8_toStuff_1 rfl ?_
  obtain ⟨e1, h⟩ := ckOE h
  rcases bdVE h with ⟨M3, e2, h⟩ | ⟨x26, M27, e2, h⟩
  · refine q_callV (v := none) [.int l1] C hRO lk_RX8_223 vk_X8_needPerson e1 rfl rfl rfl (Nat.le_of_ble_eq_true rfl) (by decide) (by decide) dX8_toStuff_2 (k_X8_needPerson X.1.2.1 hl X.2.2.1 l0 l1 M _ e2) ?_
    refine q_aload_n 0 C dX8_toStuff_5 rfl ?_
    refine q_iload_n 2 C dX8_toStuff_6 rfl ?_
    obtain ⟨e5, h⟩ := ckOE h
    rcases bdVE h with ⟨M7, e6, h⟩ | ⟨x24, M25, e6, h⟩
    · refine q_callV (v := none) [.int l2] C hRO lk_RX8_186 vk_X8_needHouse e5 rfl rfl rfl (Nat.le_of_ble_eq_true rfl) (by decide) (by decide) dX8_toStuff_7 (k_X8_needHouse X.1.2.1 hl X.2.2.1 l0 l2 M3 _ e6) ?_
      refine q_iconst (v := (0 : Int32)) C dX8_toStuff_10 (by decide) ?_
      refine q_aload_n 0 C dX8_toStuff_11 rfl ?_
      obtain ⟨v9, e10, h⟩ := bindE h
      refine q_getP C fl_RX8_33 rfl e10 dX8_toStuff_12 ?_
      obtain ⟨v11, e12, h⟩ := bindE h
      refine q_getP C fl_RX8_189 rfl e12 dX8_toStuff_15 ?_
      refine q_iload_n 2 C dX8_toStuff_18 rfl ?_
      obtain ⟨v13, e14, h⟩ := bindE h
      refine q_iaload C e14 dX8_toStuff_19 ?_
      refine q_aload_n 0 C dX8_toStuff_20 rfl ?_
      obtain ⟨v15, e16, h⟩ := bindE h
      refine q_getP C fl_RX8_33 rfl e16 dX8_toStuff_21 ?_
      obtain ⟨v17, e18, h⟩ := bindE h
      refine q_getP C fl_RX8_212 rfl e18 dX8_toStuff_24 ?_
      refine q_iload_n 1 C dX8_toStuff_27 rfl ?_
      obtain ⟨v19, e20, h⟩ := bindE h
      refine q_iaload C e20 dX8_toStuff_28 ?_
      refine q_isub C dX8_toStuff_29 ?_
      refine q_mmax C ml_RX8_215 mm_max1 mm_3 mm_max4 (by decide) (Nat.le_of_ble_eq_true rfl) dX8_toStuff_30 ?_
      obtain ⟨n21, e22, h⟩ := nmE h
      refine q_topI e22 ?_
      refine q_istore_n (i := 3) (lv' := [(3, .int n21), (0, .ref l0), (1, .int l1), (2, .int l2)]) C dX8_toStuff_33 rfl (by decide) rfl ?_
      refine q_iload_n 0 C dX8_toStuff_34 rfl ?_
      refine q_bipush (v := (20 : Int32)) C dX8_toStuff_35 (by decide) ?_
      refine q_icmp_gt (tgt := 44) C dX8_toStuff_37 (by decide) (fun c23 => ?_) (fun c23 => ?_)
      · have h := ifT c23 h
        refine q_iconst (v := (-1 : Int32)) C dX8_toStuff_44 (by decide) ?_
        cases h
        exact q_iret C kf dX8_toStuff_45
      · have h := ifF c23 h
        refine q_iload_n 0 C dX8_toStuff_40 rfl ?_
        refine q_goto (tgt := 45) C dX8_toStuff_41 (by decide) ?_
        cases h
        exact q_iret C kf dX8_toStuff_45
    · skip
      cases h
      exact q_callVX [.int l2] C kf lk_RX8_186 vk_X8_needHouse e5 rfl rfl rfl (Nat.le_of_ble_eq_true rfl) (by decide) (by decide) dX8_toStuff_7 (k_X8_needHouse X.1.2.1 hl X.2.2.1 l0 l2 M3 _ e6)
  · skip
    cases h
    exact q_callVX [.int l1] C kf lk_RX8_223 vk_X8_needPerson e1 rfl rfl rfl (Nat.le_of_ble_eq_true rfl) (by decide) (by decide) dX8_toStuff_2 (k_X8_needPerson X.1.2.1 hl X.2.2.1 l0 l1 M _ e2)
theorem k_X8_toStuff (l : Launch) (hl : l.stackTraces = false) (G : GG) (l0 : Nat) (l1 : Int32) (l2 : Int32) (M : Mem) (x : (Int32 × Mem) ⊕ (Nat × Mem)) (h : F_X8_toStuff l0 l1 l2 M = some x) : Ct l G yX8_toStuff (.code yX8_toStuff cX8_toStuff 4 (some .int)) 8 161 [.ref l0, .int l1, .int l2] M (rs_tI x) (ms_tI x) := by
  refine Ct_of (by decide +kernel) (Nat.le_of_ble_eq_true rfl) fun X e1 e2 e3 C FN hnm => ?_
  subst e1; subst e2
  show wq X 4 0 [(0, .ref l0), (1, .int l1), (2, .int l2)] [] M
  exact w_X8_toStuff C FN.2.2.2 hl l0 l1 l2 M h FN
/-! X8_toWait -/
set_option maxRecDepth 100000 in
set_option maxHeartbeats 4000000 in
theorem w_X8_toWait_s23 {X : CX} {y : (Int32 × Mem) ⊕ ((Mem) ⊕ ((Int32 × Mem) ⊕ (Nat × Mem)))} (C : CK X cX8_toWait 4 RX8 12 260) (hRO : RO X.2.2.1 X.1.2.2.2.2.1 X.1.2.2.2.2.1.heap) (hl : X.1.2.1.stackTraces = false) (l0 : Nat) (l1 : Int32) (l2 : Int32) (l3 : Int32) (M : Mem) (h : F_X8_toWait_s23 l0 l1 l2 l3 M = some y) (kc : ∀ s' : Int32 × Mem, y = .inl s' → wq X 4 23 [(0, .ref l0), (1, .int l1), (2, .int l2), (3, .int (s'.1))] [] s'.2) (kx : ∀ e' : Mem, y = (.inr (.inl e')) → wq X 4 73 [] [] e') (kf : ∀ f' : (Int32 × Mem) ⊕ (Nat × Mem), y = (.inr (.inr f')) → FIN X (some .int) (rs_tI f') (ms_tI f')) : wq X 4 23 [(0, .ref l0), (1, .int l1), (2, .int l2), (3, .int l3)] [] M := by
  unfold F_X8_toWait_s23 at h
  refine q_iload_n 3 C dX8_toWait_23 rfl ?_
  refine q_bipush (v := (40 : Int32)) C dX8_toWait_24 (by decide) ?_
  refine q_icmp_gt (tgt := 73) C dX8_toWait_26 (by decide) (fun c17 => ?_) (fun c17 => ?_)
  · have h := ifT c17 h
    exact q_sub (lv' := []) [] rfl (kx M (someI h))
  · have h := ifF c17 h
    refine q_aload_n 0 C dX8_toWait_29 rfl ?_
    obtain ⟨v18, e19, h⟩ := bindE h
    refine q_getP C fl_RX8_23 rfl e19 dX8_toWait_30 ?_
    refine q_aload_n 0 C dX8_toWait_33 rfl ?_
    obtain ⟨v20, e21, h⟩ := bindE h
    refine q_getP C fl_RX8_37 rfl e21 dX8_toWait_34 ?_
    refine q_iload_n 1 C dX8_toWait_37 rfl ?_
    refine q_iload_n 2 C dX8_toWait_38 rfl ?_
    refine q_aload_n 0 C dX8_toWait_39 rfl ?_
    obtain ⟨v22, e23, h⟩ := bindE h
    refine q_getP C fl_RX8_23 rfl e23 dX8_toWait_40 ?_
    refine q_aload_n 0 C dX8_toWait_43 rfl ?_
    obtain ⟨v24, e25, h⟩ := bindE h
    refine q_getP C fl_RX8_37 rfl e25 dX8_toWait_44 ?_
    obtain ⟨e26, h⟩ := ckOE h
    obtain ⟨v28, e27, h⟩ := bindE h
    refine q_callV (v := some (.int v28)) [.ref v24] C hRO lk_RX8_128 vk_X2_dampOf e26 rfl rfl rfl (Nat.le_of_ble_eq_true rfl) (by decide) (by decide) dX8_toWait_47 (k_X2_dampOf X.1.2.1 hl X.2.2.1 v22 v24 M _ e27) ?_
    obtain ⟨e29, h⟩ := ckOE h
    obtain ⟨v32, M31, e30, h⟩ := bd2E h
    refine q_callV (v := some (.int v32)) [.ref v20, .int l1, .int l2, .int v28] C hRO lk_RX8_235 vk_X2_enters e29 rfl rfl rfl (Nat.le_of_ble_eq_true rfl) (by decide) (by decide) dX8_toWait_50 (k_X2_enters X.1.2.1 hl X.2.2.1 v18 v20 l1 l2 v28 M _ e30) ?_
    refine q_if_eq (tgt := 58) C dX8_toWait_53 (by decide) (fun c33 => ?_) (fun c33 => ?_)
    · have h := ifT c33 h
      refine q_aload_n 0 C dX8_toWait_58 rfl ?_
      refine q_aload_n 0 C dX8_toWait_59 rfl ?_
      obtain ⟨v34, e35, h⟩ := bindE h
      refine q_getP C fl_RX8_37 rfl e35 dX8_toWait_60 ?_
      refine q_iconst (v := (1 : Int32)) C dX8_toWait_63 (by decide) ?_
      obtain ⟨e36, h⟩ := ckOE h
      obtain ⟨M38, e37, h⟩ := bindE h
      refine q_callV (v := none) [.ref v34, .int (1 : Int32)] C hRO lk_RX8_245 vk_X8_pass e36 rfl rfl rfl (Nat.le_of_ble_eq_true rfl) (by decide) (by decide) dX8_toWait_64 (k_X8_pass X.1.2.1 hl X.2.2.1 l0 v34 (1 : Int32) M31 _ e37) ?_
      refine q_iinc 3 (v := (l3 + (1 : Int32))) (lv' := [(3, .int (l3 + (1 : Int32))), (0, .ref l0), (1, .int l1), (2, .int l2)]) C dX8_toWait_67 rfl rfl (by decide) rfl ?_
      refine q_goto (tgt := 23) C dX8_toWait_70 (by decide) ?_
      exact q_sub (lv' := [(0, .ref l0), (1, .int l1), (2, .int l2), (3, .int (l3 + (1 : Int32)))]) [1, 2, 3, 0] rfl (kc ((l3 + (1 : Int32)), M38) (someI h))
    · have h := ifF c33 h
      refine q_iload_n 3 C dX8_toWait_56 rfl ?_
      exact q_iret C (kf _ (someI h)) dX8_toWait_57
theorem w_X8_toWait_l23 {X : CX} {r : (Mem) ⊕ ((Int32 × Mem) ⊕ (Nat × Mem))} (C : CK X cX8_toWait 4 RX8 12 260) (hRO : RO X.2.2.1 X.1.2.2.2.2.1 X.1.2.2.2.2.1.heap) (hl : X.1.2.1.stackTraces = false) (l0 : Nat) (l1 : Int32) (l2 : Int32) (l3 : Int32) (M : Mem) (h : loop (fun s => F_X8_toWait_s23 l0 l1 l2 s.1 s.2) (l3, M) = some r) (kx : ∀ e' : Mem, r = .inl e' → wq X 4 73 [] [] e') (kf : ∀ f' : (Int32 × Mem) ⊕ (Nat × Mem), r = .inr f' → FIN X (some .int) (rs_tI f') (ms_tI f')) : wq X 4 23 [(0, .ref l0), (1, .int l1), (2, .int l2), (3, .int l3)] [] M :=
  loop_ind (P := fun s => wq X 4 23 [(0, .ref l0), (1, .int l1), (2, .int l2), (3, .int s.1)] [] s.2) h (fun s y hy kc kr => w_X8_toWait_s23 C hRO hl l0 l1 l2 s.1 s.2 hy kc (fun e' he => kx e' (kr _ he).symm) (fun f' he => kf f' (kr _ he).symm))
set_option maxRecDepth 100000 in
set_option maxHeartbeats 4000000 in
theorem w_X8_toWait {X : CX} {y : (Int32 × Mem) ⊕ (Nat × Mem)} (C : CK X cX8_toWait 4 RX8 12 260) (hRO : RO X.2.2.1 X.1.2.2.2.2.1 X.1.2.2.2.2.1.heap) (hl : X.1.2.1.stackTraces = false) (l0 : Nat) (l1 : Int32) (l2 : Int32) (M : Mem) (h : F_X8_toWait l0 l1 l2 M = some y) (kf : FIN X (some .int) (rs_tI y) (ms_tI y)) : wq X 4 0 [(0, .ref l0), (1, .int l1), (2, .int l2)] [] M := by
  unfold F_X8_toWait at h
  refine q_aload_n 0 C dX8_toWait_0 rfl ?_
  refine q_iload_n 1 C dX8_toWait_1 rfl ?_
  obtain ⟨e1, h⟩ := ckOE h
  rcases bdVE h with ⟨M3, e2, h⟩ | ⟨x47, M48, e2, h⟩
  · refine q_callV (v := none) [.int l1] C hRO lk_RX8_223 vk_X8_needPerson e1 rfl rfl rfl (Nat.le_of_ble_eq_true rfl) (by decide) (by decide) dX8_toWait_2 (k_X8_needPerson X.1.2.1 hl X.2.2.1 l0 l1 M _ e2) ?_
    refine q_aload_n 0 C dX8_toWait_5 rfl ?_
    refine q_iload_n 2 C dX8_toWait_6 rfl ?_
    obtain ⟨e5, h⟩ := ckOE h
    rcases bdVE h with ⟨M7, e6, h⟩ | ⟨x45, M46, e6, h⟩
    · refine q_callV (v := none) [.int l2] C hRO lk_RX8_186 vk_X8_needHouse e5 rfl rfl rfl (Nat.le_of_ble_eq_true rfl) (by decide) (by decide) dX8_toWait_7 (k_X8_needHouse X.1.2.1 hl X.2.2.1 l0 l2 M3 _ e6) ?_
      refine q_aload_n 0 C dX8_toWait_10 rfl ?_
      obtain ⟨v9, e10, h⟩ := bindE h
      refine q_getP C fl_RX8_37 rfl e10 dX8_toWait_11 ?_
      refine q_aload_n 0 C dX8_toWait_14 rfl ?_
      obtain ⟨v11, e12, h⟩ := bindE h
      refine q_getP C fl_RX8_33 rfl e12 dX8_toWait_15 ?_
      obtain ⟨e13, h⟩ := ckOE h
      obtain ⟨M15, e14, h⟩ := bindE h
      refine q_callV (v := none) [.ref v11] C hRO lk_RX8_274 vk_X6_copy e13 rfl rfl rfl (Nat.le_of_ble_eq_true rfl) (by decide) (by decide) dX8_toWait_18 (k_X6_copy X.1.2.1 hl X.2.2.1 v9 v11 M7 _ e14) ?_
      refine q_iconst (v := (0 : Int32)) C dX8_toWait_21 (by decide) ?_
      refine q_istore_n (i := 3) (lv' := [(3, .int (0 : Int32)), (0, .ref l0), (1, .int l1), (2, .int l2)]) C dX8_toWait_22 rfl (by decide) rfl ?_
      obtain ⟨r40, e41, h⟩ := bindE h
      refine q_sub (lv' := [(0, .ref l0), (1, .int l1), (2, .int l2), (3, .int (0 : Int32))]) [1, 2, 3, 0] rfl (w_X8_toWait_l23 C hRO hl l0 l1 l2 (0 : Int32) M15 e41 (fun M42 he => ?_) (fun f44 he => ?_))
      · subst he
        have h := elimL h
        show wq X 4 73 [] [] M42
        refine q_iconst (v := (-1 : Int32)) C dX8_toWait_73 (by decide) ?_
        cases h
        exact q_iret C kf dX8_toWait_74
      · subst he
        have h := elimR h
        cases h
        exact kf
    · skip
      cases h
      exact q_callVX [.int l2] C kf lk_RX8_186 vk_X8_needHouse e5 rfl rfl rfl (Nat.le_of_ble_eq_true rfl) (by decide) (by decide) dX8_toWait_7 (k_X8_needHouse X.1.2.1 hl X.2.2.1 l0 l2 M3 _ e6)
  · skip
    cases h
    exact q_callVX [.int l1] C kf lk_RX8_223 vk_X8_needPerson e1 rfl rfl rfl (Nat.le_of_ble_eq_true rfl) (by decide) (by decide) dX8_toWait_2 (k_X8_needPerson X.1.2.1 hl X.2.2.1 l0 l1 M _ e2)
theorem k_X8_toWait (l : Launch) (hl : l.stackTraces = false) (G : GG) (l0 : Nat) (l1 : Int32) (l2 : Int32) (M : Mem) (x : (Int32 × Mem) ⊕ (Nat × Mem)) (h : F_X8_toWait l0 l1 l2 M = some x) : Ct l G yX8_toWait (.code yX8_toWait cX8_toWait 4 (some .int)) 12 260 [.ref l0, .int l1, .int l2] M (rs_tI x) (ms_tI x) := by
  refine Ct_of (by decide +kernel) (Nat.le_of_ble_eq_true rfl) fun X e1 e2 e3 C FN hnm => ?_
  subst e1; subst e2
  show wq X 4 0 [(0, .ref l0), (1, .int l1), (2, .int l2)] [] M
  exact w_X8_toWait C FN.2.2.2 hl l0 l1 l2 M h FN
/-! X8_town -/
set_option maxRecDepth 100000 in
set_option maxHeartbeats 4000000 in
theorem w_X8_town_j54 {X : CX} {y : (Int32 × Mem) ⊕ (Nat × Mem)} (C : CK X cX8_town 4 RX8 79 1987) (hRO : RO X.2.2.1 X.1.2.2.2.2.1 X.1.2.2.2.2.1.heap) (hl : X.1.2.1.stackTraces = false) (l0 : Nat) (l2 : Int32) (t0 : Int32) (t1 : Nat) (M : Mem) (h : F_X8_town_j54 l0 l2 t0 t1 M = some y) (kf : FIN X (some .int) (rs_tI y) (ms_tI y)) : wq X 4 54 [(0, .ref l0), (2, .int l2)] [.int t0, .ref t1] M := by
  unfold F_X8_town_j54 at h
  obtain ⟨M24, e25, h⟩ := bindE h
  refine q_putI C fp_RX8_16 rfl e25 dX8_town_54 ?_
  refine q_iload_n 1 C dX8_town_57 rfl ?_
  refine q_if_eq (tgt := 73) C dX8_town_58 (by decide) (fun c26 => ?_) (fun c26 => ?_)
  · have h := ifT c26 h
    refine q_aload_n 0 C dX8_town_73 rfl ?_
    obtain ⟨v27, e28, h⟩ := bindE h
    refine q_getP C fl_RX8_23 rfl e28 dX8_town_74 ?_
    refine q_astore_n (i := 3) (lv' := [(3, .ref v27), (0, .ref l0), (2, .int l2)]) C dX8_town_77 rfl (by decide) rfl ?_
    refine q_aload_n 1 C dX8_town_78 rfl ?_
    refine q_aload_n 1 C dX8_town_79 rfl ?_
    obtain ⟨v29, e30, h⟩ := bindE h
    refine q_getP C fl_RX8_27 rfl e30 dX8_town_80 ?_
    obtain ⟨M31, e32, h⟩ := bindE h
    refine q_putP rfl C fp_RX8_23 rfl e32 dX8_town_83 ?_
    refine q_aload_n 1 C dX8_town_86 rfl ?_
    refine q_aload_n 0 C dX8_town_87 rfl ?_
    obtain ⟨M33, e34, h⟩ := bindE h
    refine q_putP rfl C fp_RX8_27 rfl e34 dX8_town_88 ?_
    refine q_aload_n 1 C dX8_town_91 rfl ?_
    obtain ⟨v35, e36, h⟩ := bindE h
    refine q_getP C fl_RX8_23 rfl e36 dX8_town_92 ?_
    refine q_aload_n 1 C dX8_town_95 rfl ?_
    obtain ⟨v37, e38, h⟩ := bindE h
    refine q_getP C fl_RX8_33 rfl e38 dX8_town_96 ?_
    obtain ⟨e39, h⟩ := ckOE h
    obtain ⟨M41, e40, h⟩ := bindE h
    refine q_callV (v := none) [.ref v37] C hRO lk_RX8_111 vk_X2_begin e39 rfl rfl rfl (Nat.le_of_ble_eq_true rfl) (by decide) (by decide) dX8_town_99 (k_X2_begin X.1.2.1 hl X.2.2.1 v35 v37 M33 _ e40) ?_
    refine q_aload_n 1 C dX8_town_102 rfl ?_
    obtain ⟨v43, e44, h⟩ := bindE h
    refine q_getP C fl_RX8_43 rfl e44 dX8_town_103 ?_
    obtain ⟨e45, h⟩ := ckOE h
    obtain ⟨M47, e46, h⟩ := bindE h
    refine q_callV (v := none) [] C hRO lk_RX8_115 vk_X0_clear e45 rfl rfl rfl (Nat.le_of_ble_eq_true rfl) (by decide) (by decide) dX8_town_106 (k_X0_clear X.1.2.1 hl X.2.2.1 v43 M41 _ e46) ?_
    refine q_aload_n 1 C dX8_town_109 rfl ?_
    obtain ⟨v49, e50, h⟩ := bindE h
    refine q_getP C fl_RX8_50 rfl e50 dX8_town_110 ?_
    obtain ⟨e51, h⟩ := ckOE h
    obtain ⟨M53, e52, h⟩ := bindE h
    refine q_callV (v := none) [] C hRO lk_RX8_118 vk_X5_clear e51 rfl rfl rfl (Nat.le_of_ble_eq_true rfl) (by decide) (by decide) dX8_town_113 (k_X5_clear X.1.2.1 hl X.2.2.1 v49 M47 _ e52) ?_
    refine q_aload_n 1 C dX8_town_116 rfl ?_
    refine q_iconst (v := (0 : Int32)) C dX8_town_117 (by decide) ?_
    obtain ⟨M55, e56, h⟩ := bindE h
    refine q_putZ C fp_RX8_54 rfl e56 dX8_town_118 ?_
    refine q_iconst (v := (0 : Int32)) C dX8_town_121 (by decide) ?_
    cases h
    exact q_iret C kf dX8_town_122
  · have h := ifF c26 h
    refine q_aload_n 0 C dX8_town_61 rfl ?_
    obtain ⟨v57, e58, h⟩ := bindE h
    refine q_getP C fl_RX8_67 rfl e58 dX8_town_62 ?_
    refine q_iconst (v := (0 : Int32)) C dX8_town_65 (by decide) ?_
    refine q_dup2 C dX8_town_66 rfl rfl ?_
    obtain ⟨v59, e60, h⟩ := bindE h
    refine q_iaload C e60 dX8_town_67 ?_
    refine q_iconst (v := (1 : Int32)) C dX8_town_68 (by decide) ?_
    refine q_iadd C dX8_town_69 ?_
    obtain ⟨M61, e62, h⟩ := bindE h
    refine q_iastore C e62 dX8_town_70 ?_
    refine q_iload_n 1 C dX8_town_71 rfl ?_
    cases h
    exact q_iret C kf dX8_town_72
set_option maxRecDepth 100000 in
set_option maxHeartbeats 4000000 in
theorem w_X8_town {X : CX} {y : (Int32 × Mem) ⊕ (Nat × Mem)} (C : CK X cX8_town 4 RX8 79 1987) (hRO : RO X.2.2.1 X.1.2.2.2.2.1 X.1.2.2.2.2.1.heap) (hl : X.1.2.1.stackTraces = false) (l0 : Nat) (l1 : Int32) (M : Mem) (h : F_X8_town l0 l1 M = some y) (kf : FIN X (some .int) (rs_tI y) (ms_tI y)) : wq X 4 0 [(0, .ref l0), (1, .int l1)] [] M := by
  unfold F_X8_town at h
  refine q_iload_n 1 C dX8_town_0 rfl ?_
  refine q_if_lt (tgt := 15) C dX8_town_1 (by decide) (fun c1 => ?_) (fun c1 => ?_)
  · have h := ifT c1 h
    obtain ⟨M2, e3, h⟩ := bindE h
    cases h
    exact q_throw (e0 := 0) (i := 0) C kf hl (by decide) cl_RX8_97 in_ex0 rfl at_RX8_101 gd_RX8_101 e3 dX8_town_15 dX8_town_18 dX8_town_19 dX8_town_21 dX8_town_24 (by decide) (Nat.le_of_ble_eq_true rfl)
  · have h := ifF c1 h
    refine q_iload_n 1 C dX8_town_4 rfl ?_
    refine q_aload_n 0 C dX8_town_5 rfl ?_
    obtain ⟨v4, e5, h⟩ := bindE h
    refine q_getP C fl_RX8_10 rfl e5 dX8_town_6 ?_
    obtain ⟨e6, h⟩ := ckOE h
    obtain ⟨v8, e7, h⟩ := bindE h
    refine q_callV (v := some (.int v8)) [] C hRO lk_RX8_89 vk_X3_taped e6 rfl rfl rfl (Nat.le_of_ble_eq_true rfl) (by decide) (by decide) dX8_town_9 (k_X3_taped X.1.2.1 hl X.2.2.1 v4 M _ e7) ?_
    refine q_icmp_le (tgt := 25) C dX8_town_12 (by decide) (fun c9 => ?_) (fun c9 => ?_)
    · have h := ifT c9 h
      refine q_aload_n 0 C dX8_town_25 rfl ?_
      obtain ⟨v10, e11, h⟩ := bindE h
      refine q_getP C fl_RX8_10 rfl e11 dX8_town_26 ?_
      refine q_iload_n 1 C dX8_town_29 rfl ?_
      refine q_aload_n 0 C dX8_town_30 rfl ?_
      obtain ⟨v12, e13, h⟩ := bindE h
      refine q_getP C fl_RX8_27 rfl e13 dX8_town_31 ?_
      obtain ⟨e14, h⟩ := ckOE h
      obtain ⟨v17, M16, e15, h⟩ := bd2E h
      refine q_callV (v := some (.int v17)) [.int l1, .ref v12] C hRO lk_RX8_104 vk_X3_read e14 rfl rfl rfl (Nat.le_of_ble_eq_true rfl) (by decide) (by decide) dX8_town_34 (k_X3_read X.1.2.1 hl X.2.2.1 v10 l1 v12 M _ e15) ?_
      refine q_istore_n (i := 2) (lv' := [(2, .int v17), (0, .ref l0), (1, .int l1)]) C dX8_town_37 rfl (by decide) rfl ?_
      refine q_aload_n 1 C dX8_town_38 rfl ?_
      refine q_iload_n 0 C dX8_town_39 rfl ?_
      refine q_if_ne (tgt := 47) C dX8_town_40 (by decide) (fun c18 => ?_) (fun c18 => ?_)
      · have h := ifF c18 h
        refine q_aload_n 1 C dX8_town_47 rfl ?_
        obtain ⟨v19, e20, h⟩ := bindE h
        refine q_getP C fl_RX8_10 rfl e20 dX8_town_48 ?_
        obtain ⟨e21, h⟩ := ckOE h
        obtain ⟨v23, e22, h⟩ := bindE h
        refine q_callV (v := some (.int v23)) [] C hRO lk_RX8_108 vk_X3_place e21 rfl rfl rfl (Nat.le_of_ble_eq_true rfl) (by decide) (by decide) dX8_town_51 (k_X3_place X.1.2.1 hl X.2.2.1 v19 M16 _ e22) ?_
        exact q_sub (lv' := [(0, .ref l0), (2, .int v17)]) [1, 0] rfl (w_X8_town_j54 C hRO hl l0 v17 v23 l0 M16 h kf)
      · have h := ifT c18 h
        refine q_iconst (v := (-1 : Int32)) C dX8_town_43 (by decide) ?_
        refine q_goto (tgt := 54) C dX8_town_44 (by decide) ?_
        exact q_sub (lv' := [(0, .ref l0), (2, .int v17)]) [1, 0] rfl (w_X8_town_j54 C hRO hl l0 v17 (-1 : Int32) l0 M16 h kf)
    · have h := ifF c9 h
      obtain ⟨M63, e64, h⟩ := bindE h
      cases h
      exact q_throw (e0 := 0) (i := 0) C kf hl (by decide) cl_RX8_97 in_ex0 rfl at_RX8_101 gd_RX8_101 e64 dX8_town_15 dX8_town_18 dX8_town_19 dX8_town_21 dX8_town_24 (by decide) (Nat.le_of_ble_eq_true rfl)
theorem k_X8_town (l : Launch) (hl : l.stackTraces = false) (G : GG) (l0 : Nat) (l1 : Int32) (M : Mem) (x : (Int32 × Mem) ⊕ (Nat × Mem)) (h : F_X8_town l0 l1 M = some x) : Ct l G yX8_town (.code yX8_town cX8_town 4 (some .int)) 79 1987 [.ref l0, .int l1] M (rs_tI x) (ms_tI x) := by
  refine Ct_of (by decide +kernel) (Nat.le_of_ble_eq_true rfl) fun X e1 e2 e3 C FN hnm => ?_
  subst e1; subst e2
  show wq X 4 0 [(0, .ref l0), (1, .int l1)] [] M
  exact w_X8_town C FN.2.2.2 hl l0 l1 M h FN
/-! X8_trade -/
set_option maxRecDepth 100000 in
set_option maxHeartbeats 4000000 in
theorem w_X8_trade {X : CX} {y : (Int32 × Mem) ⊕ (Nat × Mem)} (C : CK X cX8_trade 2 RX8 10 216) (hRO : RO X.2.2.1 X.1.2.2.2.2.1 X.1.2.2.2.2.1.heap) (hl : X.1.2.1.stackTraces = false) (l0 : Nat) (l1 : Int32) (M : Mem) (h : F_X8_trade l0 l1 M = some y) (kf : FIN X (some .int) (rs_tI y) (ms_tI y)) : wq X 2 0 [(0, .ref l0), (1, .int l1)] [] M := by
  unfold F_X8_trade at h
  refine q_aload_n 0 C dX8_trade_0 rfl ?_
  refine q_iload_n 1 C dX8_trade_1 rfl ?_
  obtain ⟨e1, h⟩ := ckOE h
  rcases bdVE h with ⟨M3, e2, h⟩ | ⟨x21, M22, e2, h⟩
  · refine q_callV (v := none) [.int l1] C hRO lk_RX8_223 vk_X8_needPerson e1 rfl rfl rfl (Nat.le_of_ble_eq_true rfl) (by decide) (by decide) dX8_trade_2 (k_X8_needPerson X.1.2.1 hl X.2.2.1 l0 l1 M _ e2) ?_
    refine q_aload_n 0 C dX8_trade_5 rfl ?_
    obtain ⟨v5, e6, h⟩ := bindE h
    refine q_getP C fl_RX8_81 rfl e6 dX8_trade_6 ?_
    refine q_aload_n 0 C dX8_trade_9 rfl ?_
    obtain ⟨v7, e8, h⟩ := bindE h
    refine q_getP C fl_RX8_23 rfl e8 dX8_trade_10 ?_
    refine q_aload_n 0 C dX8_trade_13 rfl ?_
    obtain ⟨v9, e10, h⟩ := bindE h
    refine q_getP C fl_RX8_33 rfl e10 dX8_trade_14 ?_
    obtain ⟨e11, h⟩ := ckOE h
    obtain ⟨M13, e12, h⟩ := bindE h
    refine q_callV (v := none) [.ref v7, .ref v9] C hRO lk_RX8_302 vk_X7_solve e11 rfl rfl rfl (Nat.le_of_ble_eq_true rfl) (by decide) (by decide) dX8_trade_17 (k_X7_solve X.1.2.1 hl X.2.2.1 v5 v7 v9 M3 _ e12) ?_
    refine q_aload_n 0 C dX8_trade_20 rfl ?_
    obtain ⟨v15, e16, h⟩ := bindE h
    refine q_getP C fl_RX8_81 rfl e16 dX8_trade_21 ?_
    obtain ⟨v17, e18, h⟩ := bindE h
    refine q_getP C fl_RX8_303 rfl e18 dX8_trade_24 ?_
    refine q_iload_n 1 C dX8_trade_27 rfl ?_
    obtain ⟨v19, e20, h⟩ := bindE h
    refine q_iaload C e20 dX8_trade_28 ?_
    cases h
    exact q_iret C kf dX8_trade_29
  · skip
    cases h
    exact q_callVX [.int l1] C kf lk_RX8_223 vk_X8_needPerson e1 rfl rfl rfl (Nat.le_of_ble_eq_true rfl) (by decide) (by decide) dX8_trade_2 (k_X8_needPerson X.1.2.1 hl X.2.2.1 l0 l1 M _ e2)
theorem k_X8_trade (l : Launch) (hl : l.stackTraces = false) (G : GG) (l0 : Nat) (l1 : Int32) (M : Mem) (x : (Int32 × Mem) ⊕ (Nat × Mem)) (h : F_X8_trade l0 l1 M = some x) : Ct l G yX8_trade (.code yX8_trade cX8_trade 2 (some .int)) 10 216 [.ref l0, .int l1] M (rs_tI x) (ms_tI x) := by
  refine Ct_of (by decide +kernel) (Nat.le_of_ble_eq_true rfl) fun X e1 e2 e3 C FN hnm => ?_
  subst e1; subst e2
  show wq X 2 0 [(0, .ref l0), (1, .int l1)] [] M
  exact w_X8_trade C FN.2.2.2 hl l0 l1 M h FN
/-! X8_tryIn -/
set_option maxRecDepth 100000 in
set_option maxHeartbeats 4000000 in
theorem w_X8_tryIn_j31 {X : CX} {y : Mem} (C : CK X cX8_tryIn 5 RX8 11 236) (hRO : RO X.2.2.1 X.1.2.2.2.2.1 X.1.2.2.2.2.1.heap) (hl : X.1.2.1.stackTraces = false) (l0 : Nat) (l1 : Int32) (l2 : Int32) (l3 : Int32) (t0 : Int32) (M : Mem) (h : F_X8_tryIn_j31 l0 l1 l2 l3 t0 M = some y) (kf : FIN X none (rs_mV y) (ms_mV y)) : wq X 5 31 [(0, .ref l0), (1, .int l1), (2, .int l2), (3, .int l3)] [.int t0] M := by
  unfold F_X8_tryIn_j31 at h
  refine q_istore (i := 4) (lv' := [(4, .int t0), (0, .ref l0), (1, .int l1), (2, .int l2), (3, .int l3)]) C dX8_tryIn_31 (by decide) rfl ?_
  refine q_iload 0 C dX8_tryIn_33 rfl ?_
  refine q_if_eq (tgt := 64) C dX8_tryIn_35 (by decide) (fun c8 => ?_) (fun c8 => ?_)
  · have h := ifT c8 h
    cases h
    exact q_vret C kf dX8_tryIn_64
  · have h := ifF c8 h
    refine q_aload_n 1 C dX8_tryIn_38 rfl ?_
    obtain ⟨v9, e10, h⟩ := bindE h
    refine q_getP C fl_RX8_23 rfl e10 dX8_tryIn_39 ?_
    refine q_aload_n 1 C dX8_tryIn_42 rfl ?_
    obtain ⟨v11, e12, h⟩ := bindE h
    refine q_getP C fl_RX8_37 rfl e12 dX8_tryIn_43 ?_
    refine q_iload_n 2 C dX8_tryIn_46 rfl ?_
    refine q_iload_n 3 C dX8_tryIn_47 rfl ?_
    refine q_iload_n 4 C dX8_tryIn_48 rfl ?_
    obtain ⟨e13, h⟩ := ckOE h
    obtain ⟨v16, M15, e14, h⟩ := bd2E h
    refine q_callV (v := some (.int v16)) [.ref v11, .int l1, .int l2, .int l3] C hRO lk_RX8_235 vk_X2_enters e13 rfl rfl rfl (Nat.le_of_ble_eq_true rfl) (by decide) (by decide) dX8_tryIn_49 (k_X2_enters X.1.2.1 hl X.2.2.1 v9 v11 l1 l2 l3 M _ e14) ?_
    refine q_if_eq (tgt := 64) C dX8_tryIn_52 (by decide) (fun c17 => ?_) (fun c17 => ?_)
    · have h := ifT c17 h
      cases h
      exact q_vret C kf dX8_tryIn_64
    · have h := ifF c17 h
      refine q_aload_n 1 C dX8_tryIn_55 rfl ?_
      obtain ⟨v18, e19, h⟩ := bindE h
      refine q_getP C fl_RX8_37 rfl e19 dX8_tryIn_56 ?_
      refine q_iload_n 2 C dX8_tryIn_59 rfl ?_
      refine q_iload_n 3 C dX8_tryIn_60 rfl ?_
      obtain ⟨e20, h⟩ := ckOE h
      obtain ⟨M22, e21, h⟩ := bindE h
      refine q_callV (v := none) [.int l1, .int l2] C hRO lk_RX8_253 vk_X6_settle e20 rfl rfl rfl (Nat.le_of_ble_eq_true rfl) (by decide) (by decide) dX8_tryIn_61 (k_X6_settle X.1.2.1 hl X.2.2.1 v18 l1 l2 M15 _ e21) ?_
      cases h
      exact q_vret C kf dX8_tryIn_64
set_option maxRecDepth 100000 in
set_option maxHeartbeats 4000000 in
theorem w_X8_tryIn_j30 {X : CX} {y : Mem} (C : CK X cX8_tryIn 5 RX8 11 236) (hRO : RO X.2.2.1 X.1.2.2.2.2.1 X.1.2.2.2.2.1.heap) (hl : X.1.2.1.stackTraces = false) (l0 : Nat) (l1 : Int32) (l2 : Int32) (l3 : Int32) (M : Mem) (h : F_X8_tryIn_j30 l0 l1 l2 l3 M = some y) (kf : FIN X none (rs_mV y) (ms_mV y)) : wq X 5 30 [(0, .ref l0), (1, .int l1), (2, .int l2), (3, .int l3)] [] M := by
  unfold F_X8_tryIn_j30 at h
  refine q_iconst (v := (0 : Int32)) C dX8_tryIn_30 (by decide) ?_
  exact q_sub (lv' := [(0, .ref l0), (1, .int l1), (2, .int l2), (3, .int l3)]) [0, 1, 2, 3] rfl (w_X8_tryIn_j31 C hRO hl l0 l1 l2 l3 (0 : Int32) M h kf)
set_option maxRecDepth 100000 in
set_option maxHeartbeats 4000000 in
theorem w_X8_tryIn {X : CX} {y : Mem} (C : CK X cX8_tryIn 5 RX8 11 236) (hRO : RO X.2.2.1 X.1.2.2.2.2.1 X.1.2.2.2.2.1.heap) (hl : X.1.2.1.stackTraces = false) (l0 : Nat) (l1 : Int32) (l2 : Int32) (l3 : Int32) (M : Mem) (h : F_X8_tryIn l0 l1 l2 l3 M = some y) (kf : FIN X none (rs_mV y) (ms_mV y)) : wq X 5 0 [(0, .ref l0), (1, .int l1), (2, .int l2), (3, .int l3)] [] M := by
  unfold F_X8_tryIn at h
  refine q_aload_n 0 C dX8_tryIn_0 rfl ?_
  obtain ⟨v1, e2, h⟩ := bindE h
  refine q_getP C fl_RX8_37 rfl e2 dX8_tryIn_1 ?_
  obtain ⟨v3, e4, h⟩ := bindE h
  refine q_getP C fl_RX8_162 rfl e4 dX8_tryIn_4 ?_
  refine q_iload_n 1 C dX8_tryIn_7 rfl ?_
  obtain ⟨v5, e6, h⟩ := bindE h
  refine q_iaload C e6 dX8_tryIn_8 ?_
  refine q_iconst (v := (-1 : Int32)) C dX8_tryIn_9 (by decide) ?_
  refine q_icmp_ne (tgt := 30) C dX8_tryIn_10 (by decide) (fun c7 => ?_) (fun c7 => ?_)
  · have h := ifF c7 h
    exact q_sub (lv' := [(0, .ref l0), (1, .int l1), (2, .int l2), (3, .int l3)]) [0, 1, 2, 3] rfl (w_X8_tryIn_j30 C hRO hl l0 l1 l2 l3 M h kf)
  · have h := ifT c7 h
    refine q_aload_n 0 C dX8_tryIn_13 rfl ?_
    obtain ⟨v24, e25, h⟩ := bindE h
    refine q_getP C fl_RX8_37 rfl e25 dX8_tryIn_14 ?_
    obtain ⟨v26, e27, h⟩ := bindE h
    refine q_getP C fl_RX8_159 rfl e27 dX8_tryIn_17 ?_
    refine q_iload_n 2 C dX8_tryIn_20 rfl ?_
    obtain ⟨v28, e29, h⟩ := bindE h
    refine q_iaload C e29 dX8_tryIn_21 ?_
    refine q_iconst (v := (-1 : Int32)) C dX8_tryIn_22 (by decide) ?_
    refine q_icmp_ne (tgt := 30) C dX8_tryIn_23 (by decide) (fun c30 => ?_) (fun c30 => ?_)
    · have h := ifF c30 h
      exact q_sub (lv' := [(0, .ref l0), (1, .int l1), (2, .int l2), (3, .int l3)]) [0, 1, 2, 3] rfl (w_X8_tryIn_j30 C hRO hl l0 l1 l2 l3 M h kf)
    · have h := ifT c30 h
      refine q_iconst (v := (1 : Int32)) C dX8_tryIn_26 (by decide) ?_
      refine q_goto (tgt := 31) C dX8_tryIn_27 (by decide) ?_
      exact q_sub (lv' := [(0, .ref l0), (1, .int l1), (2, .int l2), (3, .int l3)]) [0, 1, 2, 3] rfl (w_X8_tryIn_j31 C hRO hl l0 l1 l2 l3 (1 : Int32) M h kf)
theorem k_X8_tryIn (l : Launch) (hl : l.stackTraces = false) (G : GG) (l0 : Nat) (l1 : Int32) (l2 : Int32) (l3 : Int32) (M : Mem) (x : Mem) (h : F_X8_tryIn l0 l1 l2 l3 M = some x) : Ct l G yX8_tryIn (.code yX8_tryIn cX8_tryIn 5 none) 11 236 [.ref l0, .int l1, .int l2, .int l3] M (rs_mV x) (ms_mV x) := by
  refine Ct_of (by decide +kernel) (Nat.le_of_ble_eq_true rfl) fun X e1 e2 e3 C FN hnm => ?_
  subst e1; subst e2
  show wq X 5 0 [(0, .ref l0), (1, .int l1), (2, .int l2), (3, .int l3)] [] M
  exact w_X8_tryIn C FN.2.2.2 hl l0 l1 l2 l3 M h FN
/-! X8_undo -/
set_option maxRecDepth 100000 in
set_option maxHeartbeats 4000000 in
theorem w_X8_undo {X : CX} {y : Int32 × Mem} (C : CK X cX8_undo 1 RX8 11 226) (hRO : RO X.2.2.1 X.1.2.2.2.2.1 X.1.2.2.2.2.1.heap) (hl : X.1.2.1.stackTraces = false) (l0 : Nat) (M : Mem) (h : F_X8_undo l0 M = some y) (kf : FIN X (some .int) (rs_mI y) (ms_mI y)) : wq X 1 0 [(0, .ref l0)] [] M := by
  unfold F_X8_undo at h
  refine q_aload_n 0 C dX8_undo_0 rfl ?_
  obtain ⟨v1, e2, h⟩ := bindE h
  refine q_getP C fl_RX8_43 rfl e2 dX8_undo_1 ?_
  refine q_aload_n 0 C dX8_undo_4 rfl ?_
  obtain ⟨v3, e4, h⟩ := bindE h
  refine q_getP C fl_RX8_33 rfl e4 dX8_undo_5 ?_
  obtain ⟨e5, h⟩ := ckOE h
  obtain ⟨v8, M7, e6, h⟩ := bd2E h
  refine q_callV (v := some (.int v8)) [.ref v3] C hRO lk_RX8_269 vk_X0_takeBack e5 rfl rfl rfl (Nat.le_of_ble_eq_true rfl) (by decide) (by decide) dX8_undo_8 (k_X0_takeBack X.1.2.1 hl X.2.2.1 v1 v3 M _ e6) ?_
  refine q_if_eq (tgt := 24) C dX8_undo_11 (by decide) (fun c9 => ?_) (fun c9 => ?_)
  · have h := ifT c9 h
    refine q_iconst (v := (-1 : Int32)) C dX8_undo_24 (by decide) ?_
    cases h
    exact q_iret C kf dX8_undo_25
  · have h := ifF c9 h
    refine q_aload_n 0 C dX8_undo_14 rfl ?_
    obtain ⟨v10, e11, h⟩ := bindE h
    refine q_getP C fl_RX8_43 rfl e11 dX8_undo_15 ?_
    obtain ⟨e12, h⟩ := ckOE h
    obtain ⟨v14, e13, h⟩ := bindE h
    refine q_callV (v := some (.int v14)) [] C hRO lk_RX8_150 vk_X0_many e12 rfl rfl rfl (Nat.le_of_ble_eq_true rfl) (by decide) (by decide) dX8_undo_18 (k_X0_many X.1.2.1 hl X.2.2.1 v10 M7 _ e13) ?_
    refine q_goto (tgt := 25) C dX8_undo_21 (by decide) ?_
    cases h
    exact q_iret C kf dX8_undo_25
theorem k_X8_undo (l : Launch) (hl : l.stackTraces = false) (G : GG) (l0 : Nat) (M : Mem) (x : Int32 × Mem) (h : F_X8_undo l0 M = some x) : Ct l G yX8_undo (.code yX8_undo cX8_undo 1 (some .int)) 11 226 [.ref l0] M (rs_mI x) (ms_mI x) := by
  refine Ct_of (by decide +kernel) (Nat.le_of_ble_eq_true rfl) fun X e1 e2 e3 C FN hnm => ?_
  subst e1; subst e2
  show wq X 1 0 [(0, .ref l0)] [] M
  exact w_X8_undo C FN.2.2.2 hl l0 M h FN
/-! X8_wide -/
set_option maxRecDepth 100000 in
set_option maxHeartbeats 4000000 in
theorem w_X8_wide_s26 {X : CX} {y : (Int32 × Int32) ⊕ (Int32)} (C : CK X cX8_wide 4 RX8 8 161) (hRO : RO X.2.2.1 X.1.2.2.2.2.1 X.1.2.2.2.2.1.heap) (hl : X.1.2.1.stackTraces = false) (l0 : Nat) (l1 : Int32) (M : Mem) (l2 : Int32) (l3 : Int32) (h : F_X8_wide_s26 l0 l1 M l2 l3 = some y) (kc : ∀ s' : Int32 × Int32, y = .inl s' → wq X 4 26 [(0, .ref l0), (1, .int l1), (2, .int (s'.1)), (3, .int (s'.2))] [] M) (kx : ∀ e' : Int32, y = (.inr e') → wq X 4 73 [(2, .int (e'))] [] M) : wq X 4 26 [(0, .ref l0), (1, .int l1), (2, .int l2), (3, .int l3)] [] M := by
  unfold F_X8_wide_s26 at h
  refine q_iload_n 3 C dX8_wide_26 rfl ?_
  refine q_aload_n 0 C dX8_wide_27 rfl ?_
  obtain ⟨v5, e6, h⟩ := bindE h
  refine q_getP C fl_RX8_23 rfl e6 dX8_wide_28 ?_
  obtain ⟨v7, e8, h⟩ := bindE h
  refine q_getI C fl_RX8_119 rfl e8 dX8_wide_31 ?_
  refine q_icmp_ge (tgt := 73) C dX8_wide_34 (by decide) (fun c9 => ?_) (fun c9 => ?_)
  · have h := ifT c9 h
    exact q_sub (lv' := [(2, .int l2)]) [2] rfl (kx l2 (someI h))
  · have h := ifF c9 h
    refine q_aload_n 0 C dX8_wide_37 rfl ?_
    obtain ⟨v10, e11, h⟩ := bindE h
    refine q_getP C fl_RX8_33 rfl e11 dX8_wide_38 ?_
    refine q_iload_n 3 C dX8_wide_41 rfl ?_
    obtain ⟨e12, h⟩ := ckOE h
    obtain ⟨v14, e13, h⟩ := bindE h
    refine q_callV (v := some (.int v14)) [.int l3] C hRO lk_RX8_200 vk_X6_isBurst e12 rfl rfl rfl (Nat.le_of_ble_eq_true rfl) (by decide) (by decide) dX8_wide_42 (k_X6_isBurst X.1.2.1 hl X.2.2.1 v10 l3 M _ e13) ?_
    refine q_if_ne (tgt := 67) C dX8_wide_45 (by decide) (fun c15 => ?_) (fun c15 => ?_)
    · have h := ifF c15 h
      refine q_iinc 3 (v := (l3 + (1 : Int32))) (lv' := [(3, .int (l3 + (1 : Int32))), (0, .ref l0), (1, .int l1), (2, .int l2)]) C dX8_wide_67 rfl rfl (by decide) rfl ?_
      refine q_goto (tgt := 26) C dX8_wide_70 (by decide) ?_
      exact q_sub (lv' := [(0, .ref l0), (1, .int l1), (2, .int l2), (3, .int (l3 + (1 : Int32)))]) [1, 2, 3, 0] rfl (kc (l2, (l3 + (1 : Int32))) (someI h))
    · have h := ifT c15 h
      refine q_aload_n 0 C dX8_wide_48 rfl ?_
      obtain ⟨v16, e17, h⟩ := bindE h
      refine q_getP C fl_RX8_33 rfl e17 dX8_wide_49 ?_
      obtain ⟨v18, e19, h⟩ := bindE h
      refine q_getP C fl_RX8_189 rfl e19 dX8_wide_52 ?_
      refine q_iload_n 3 C dX8_wide_55 rfl ?_
      obtain ⟨v20, e21, h⟩ := bindE h
      refine q_iaload C e21 dX8_wide_56 ?_
      refine q_iload_n 1 C dX8_wide_57 rfl ?_
      refine q_icmp_lt (tgt := 67) C dX8_wide_58 (by decide) (fun c22 => ?_) (fun c22 => ?_)
      · have h := ifT c22 h
        refine q_iinc 3 (v := (l3 + (1 : Int32))) (lv' := [(3, .int (l3 + (1 : Int32))), (0, .ref l0), (1, .int l1), (2, .int l2)]) C dX8_wide_67 rfl rfl (by decide) rfl ?_
        refine q_goto (tgt := 26) C dX8_wide_70 (by decide) ?_
        exact q_sub (lv' := [(0, .ref l0), (1, .int l1), (2, .int l2), (3, .int (l3 + (1 : Int32)))]) [1, 2, 3, 0] rfl (kc (l2, (l3 + (1 : Int32))) (someI h))
      · have h := ifF c22 h
        refine q_iload_n 2 C dX8_wide_61 rfl ?_
        refine q_iconst (v := (1 : Int32)) C dX8_wide_62 (by decide) ?_
        refine q_iload_n 3 C dX8_wide_63 rfl ?_
        refine q_ishl C dX8_wide_64 ?_
        refine q_ior C dX8_wide_65 ?_
        obtain ⟨n23, e24, h⟩ := nmE h
        refine q_topI e24 ?_
        refine q_istore_n (i := 2) (lv' := [(2, .int n23), (0, .ref l0), (1, .int l1), (3, .int l3)]) C dX8_wide_66 rfl (by decide) rfl ?_
        refine q_iinc 3 (v := (l3 + (1 : Int32))) (lv' := [(3, .int (l3 + (1 : Int32))), (2, .int n23), (0, .ref l0), (1, .int l1)]) C dX8_wide_67 rfl rfl (by decide) rfl ?_
        refine q_goto (tgt := 26) C dX8_wide_70 (by decide) ?_
        exact q_sub (lv' := [(0, .ref l0), (1, .int l1), (2, .int n23), (3, .int (l3 + (1 : Int32)))]) [2, 3, 1, 0] rfl (kc (n23, (l3 + (1 : Int32))) (someI h))
theorem w_X8_wide_l26 {X : CX} {r : Int32} (C : CK X cX8_wide 4 RX8 8 161) (hRO : RO X.2.2.1 X.1.2.2.2.2.1 X.1.2.2.2.2.1.heap) (hl : X.1.2.1.stackTraces = false) (l0 : Nat) (l1 : Int32) (M : Mem) (l2 : Int32) (l3 : Int32) (h : loop (fun s => F_X8_wide_s26 l0 l1 M s.1 s.2) (l2, l3) = some r) (kx : ∀ e' : Int32, r = e' → wq X 4 73 [(2, .int (e'))] [] M) : wq X 4 26 [(0, .ref l0), (1, .int l1), (2, .int l2), (3, .int l3)] [] M :=
  loop_ind (P := fun s => wq X 4 26 [(0, .ref l0), (1, .int l1), (2, .int s.1), (3, .int s.2)] [] M) h (fun s y hy kc kr => w_X8_wide_s26 C hRO hl l0 l1 M s.1 s.2 hy kc (fun e' he => kx e' (kr _ he).symm))
set_option maxRecDepth 100000 in
set_option maxHeartbeats 4000000 in
theorem w_X8_wide {X : CX} {y : (Int32 × Mem) ⊕ (Nat × Mem)} (C : CK X cX8_wide 4 RX8 8 161) (hRO : RO X.2.2.1 X.1.2.2.2.2.1 X.1.2.2.2.2.1.heap) (hl : X.1.2.1.stackTraces = false) (l0 : Nat) (l1 : Int32) (M : Mem) (h : F_X8_wide l0 l1 M = some y) (kf : FIN X (some .int) (rs_tI y) (ms_tI y)) : wq X 4 0 [(0, .ref l0), (1, .int l1)] [] M := by
  unfold F_X8_wide at h
  refine q_iload_n 1 C dX8_wide_0 rfl ?_
  refine q_iconst (v := (1 : Int32)) C dX8_wide_1 (by decide) ?_
  refine q_icmp_lt (tgt := 11) C dX8_wide_2 (by decide) (fun c1 => ?_) (fun c1 => ?_)
  · have h := ifT c1 h
    obtain ⟨M2, e3, h⟩ := bindE h
    cases h
    exact q_throwW (e0 := 0) (i := 26) C kf hl (by decide) cl_RX8_97 in_ex0 rfl at_RX8_101 gd_RX8_101 e3 dX8_wide_11 dX8_wide_14 dX8_wide_15 dX8_wide_18 dX8_wide_21 (by decide) (Nat.le_of_ble_eq_true rfl)
  · have h := ifF c1 h
    refine q_iload_n 1 C dX8_wide_5 rfl ?_
    refine q_bipush (v := (60 : Int32)) C dX8_wide_6 (by decide) ?_
    refine q_icmp_le (tgt := 22) C dX8_wide_8 (by decide) (fun c4 => ?_) (fun c4 => ?_)
    · have h := ifT c4 h
      refine q_iconst (v := (0 : Int32)) C dX8_wide_22 (by decide) ?_
      refine q_istore_n (i := 2) (lv' := [(2, .int (0 : Int32)), (0, .ref l0), (1, .int l1)]) C dX8_wide_23 rfl (by decide) rfl ?_
      refine q_iconst (v := (0 : Int32)) C dX8_wide_24 (by decide) ?_
      refine q_istore_n (i := 3) (lv' := [(3, .int (0 : Int32)), (2, .int (0 : Int32)), (0, .ref l0), (1, .int l1)]) C dX8_wide_25 rfl (by decide) rfl ?_
      obtain ⟨x27, e26, h⟩ := bindE h
      refine q_sub (lv' := [(0, .ref l0), (1, .int l1), (2, .int (0 : Int32)), (3, .int (0 : Int32))]) [2, 3, 1, 0] rfl (w_X8_wide_l26 C hRO hl l0 l1 M (0 : Int32) (0 : Int32) e26 (fun r25 he => ?_))
      subst he
      show wq X 4 73 [(2, .int x27)] [] M
      refine q_iload_n 0 C dX8_wide_73 rfl ?_
      cases h
      exact q_iret C kf dX8_wide_74
    · have h := ifF c4 h
      obtain ⟨M29, e30, h⟩ := bindE h
      cases h
      exact q_throwW (e0 := 0) (i := 26) C kf hl (by decide) cl_RX8_97 in_ex0 rfl at_RX8_101 gd_RX8_101 e30 dX8_wide_11 dX8_wide_14 dX8_wide_15 dX8_wide_18 dX8_wide_21 (by decide) (Nat.le_of_ble_eq_true rfl)
theorem k_X8_wide (l : Launch) (hl : l.stackTraces = false) (G : GG) (l0 : Nat) (l1 : Int32) (M : Mem) (x : (Int32 × Mem) ⊕ (Nat × Mem)) (h : F_X8_wide l0 l1 M = some x) : Ct l G yX8_wide (.code yX8_wide cX8_wide 4 (some .int)) 8 161 [.ref l0, .int l1] M (rs_tI x) (ms_tI x) := by
  refine Ct_of (by decide +kernel) (Nat.le_of_ble_eq_true rfl) fun X e1 e2 e3 C FN hnm => ?_
  subst e1; subst e2
  show wq X 4 0 [(0, .ref l0), (1, .int l1)] [] M
  exact w_X8_wide C FN.2.2.2 hl l0 l1 M h FN
