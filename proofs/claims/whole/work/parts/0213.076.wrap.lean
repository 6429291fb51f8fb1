/-! L_barefoot -/
set_option maxRecDepth 100000 in
set_option maxHeartbeats 4000000 in
theorem w_L_barefoot {X : CX} {y : Int32 × Mem} (C : CK X cL_barefoot 4 RL 14 302) (hRO : RO X.2.2.1 X.1.2.2.2.2.1 X.1.2.2.2.2.1.heap) (hl : X.1.2.1.stackTraces = false) (l0 : Nat) (l1 : Int32) (l2 : Nat) (M : Mem) (h : F_L_barefoot l0 l1 l2 M = some y) (kf : FINH X (some .int) (rs_mI y) (ms_mI y) [(0, 9, 12, 13)]) : wq X 4 0 [(0, .ref l0), (1, .int l1), (2, .ref l2)] [] M := by
  unfold F_L_barefoot at h
  refine q_aload_n 2 C dL_barefoot_0 rfl ?_
  refine q_iconst (v := (0 : Int32)) C dL_barefoot_1 (by decide) ?_
  refine q_aload_n 0 C dL_barefoot_2 rfl ?_
  refine q_iload_n 1 C dL_barefoot_3 rfl ?_
  obtain ⟨e1, h⟩ := ckOE h
  rcases bdTE h with ⟨v4, M3, e2, h⟩ | ⟨x7, M8, e2, h⟩
  · refine q_callV (v := some (.int v4)) [.int l1] C hRO lk_RL_56 vk_X8_barefoot e1 rfl rfl rfl (Nat.le_of_ble_eq_true rfl) (by decide) (by decide) dL_barefoot_4 (k_X8_barefoot X.1.2.1 hl X.2.2.1 l0 l1 M _ e2) ?_
    refine q_i2l C dL_barefoot_7 ?_
    obtain ⟨M5, e6, h⟩ := bindE h
    refine q_lastore C e6 dL_barefoot_8 ?_
    refine q_goto (tgt := 15) C dL_barefoot_9 (by decide) ?_
    refine q_iconst (v := (0 : Int32)) C dL_barefoot_15 (by decide) ?_
    cases h
    exact q_iretH C kf dL_barefoot_16
  · skip
    by_cases c9 : x7 = 0
    · subst c9
      have h := ifT rfl h
      refine q_catch (e0 := 0) (j := 3) (len := 1) (lv' := [(0, .ref l0), (1, .int l1), (2, .ref l2)]) [.int l1] [] ⟨0, 9, 12, 13⟩ [] C hRO lk_RL_56 vk_X8_barefoot e1 rfl rfl rfl (Nat.le_of_ble_eq_true rfl) (by decide) (by decide) dL_barefoot_4 (k_X8_barefoot X.1.2.1 hl X.2.2.1 l0 l1 M _ e2) kf.2.2.1 (fun z hz => nomatch hz) ⟨by decide, by decide, 0, cl_RL_13, by rw [if_pos rfl]; exact xc_0⟩ (Or.inr ⟨_, dL_barefoot_12, rfl, rfl⟩) (by decide) rfl ?_
      refine q_iconst (v := (1 : Int32)) C dL_barefoot_13 (by decide) ?_
      cases h
      exact q_iretH C kf dL_barefoot_14
    have h := ifF c9 h
    cases h
theorem k_L_barefoot (l : Launch) (hl : l.stackTraces = false) (G : GG) (l0 : Nat) (l1 : Int32) (l2 : Nat) (M : Mem) (x : Int32 × Mem) (h : F_L_barefoot l0 l1 l2 M = some x) : Ct l G yL_barefoot (.codeWith yL_barefoot cL_barefoot 4 (some .int) [(0, 9, 12, 13)]) 14 302 [.ref l0, .int l1, .ref l2] M (rs_mI x) (ms_mI x) := by
  refine Ct_ofH (by decide +kernel) (Nat.le_of_ble_eq_true rfl) fun X e1 e2 e3 C FN => ?_
  subst e1; subst e2
  show wq X 4 0 [(0, .ref l0), (1, .int l1), (2, .ref l2)] [] M
  exact w_L_barefoot C FN.2.2.2 hl l0 l1 l2 M h FN
/-! L_burst -/
set_option maxRecDepth 100000 in
set_option maxHeartbeats 4000000 in
theorem w_L_burst {X : CX} {y : Int32 × Mem} (C : CK X cL_burst 4 RL 13 281) (hRO : RO X.2.2.1 X.1.2.2.2.2.1 X.1.2.2.2.2.1.heap) (hl : X.1.2.1.stackTraces = false) (l0 : Nat) (l1 : Int32) (l2 : Nat) (M : Mem) (h : F_L_burst l0 l1 l2 M = some y) (kf : FINH X (some .int) (rs_mI y) (ms_mI y) [(0, 9, 12, 18)]) : wq X 4 0 [(0, .ref l0), (1, .int l1), (2, .ref l2)] [] M := by
  unfold F_L_burst at h
  refine q_aload_n 2 C dL_burst_0 rfl ?_
  refine q_iconst (v := (0 : Int32)) C dL_burst_1 (by decide) ?_
  refine q_aload_n 0 C dL_burst_2 rfl ?_
  refine q_iload_n 1 C dL_burst_3 rfl ?_
  obtain ⟨e1, h⟩ := ckOE h
  rcases bdTE h with ⟨v4, M3, e2, h⟩ | ⟨x7, M8, e2, h⟩
  · refine q_callV (v := some (.int v4)) [.int l1] C hRO lk_RL_50 vk_X8_burst e1 rfl rfl rfl (Nat.le_of_ble_eq_true rfl) (by decide) (by decide) dL_burst_4 (k_X8_burst X.1.2.1 hl X.2.2.1 l0 l1 M _ e2) ?_
    refine q_i2l C dL_burst_7 ?_
    obtain ⟨M5, e6, h⟩ := bindE h
    refine q_lastore C e6 dL_burst_8 ?_
    refine q_goto (tgt := 15) C dL_burst_9 (by decide) ?_
    refine q_iconst (v := (0 : Int32)) C dL_burst_15 (by decide) ?_
    cases h
    exact q_iretH C kf dL_burst_16
  · skip
    by_cases c9 : x7 = 1
    · subst c9
      have h := ifT rfl h
      refine q_catch (e0 := 1) (j := 3) (len := 1) (lv' := [(0, .ref l0), (1, .int l1), (2, .ref l2)]) [.int l1] [] ⟨0, 9, 12, 18⟩ [] C hRO lk_RL_50 vk_X8_burst e1 rfl rfl rfl (Nat.le_of_ble_eq_true rfl) (by decide) (by decide) dL_burst_4 (k_X8_burst X.1.2.1 hl X.2.2.1 l0 l1 M _ e2) kf.2.2.1 (fun z hz => nomatch hz) ⟨by decide, by decide, 1, cl_RL_18, by rw [if_pos rfl]; exact xc_1⟩ (Or.inr ⟨_, dL_burst_12, rfl, rfl⟩) (by decide) rfl ?_
      refine q_iconst (v := (1 : Int32)) C dL_burst_13 (by decide) ?_
      cases h
      exact q_iretH C kf dL_burst_14
    have h := ifF c9 h
    cases h
theorem k_L_burst (l : Launch) (hl : l.stackTraces = false) (G : GG) (l0 : Nat) (l1 : Int32) (l2 : Nat) (M : Mem) (x : Int32 × Mem) (h : F_L_burst l0 l1 l2 M = some x) : Ct l G yL_burst (.codeWith yL_burst cL_burst 4 (some .int) [(0, 9, 12, 18)]) 13 281 [.ref l0, .int l1, .ref l2] M (rs_mI x) (ms_mI x) := by
  refine Ct_ofH (by decide +kernel) (Nat.le_of_ble_eq_true rfl) fun X e1 e2 e3 C FN => ?_
  subst e1; subst e2
  show wq X 4 0 [(0, .ref l0), (1, .int l1), (2, .ref l2)] [] M
  exact w_L_burst C FN.2.2.2 hl l0 l1 l2 M h FN
/-! L_byDamp -/
set_option maxRecDepth 100000 in
set_option maxHeartbeats 4000000 in
theorem w_L_byDamp {X : CX} {y : Int32 × Mem} (C : CK X cL_byDamp 6 RL 13 287) (hRO : RO X.2.2.1 X.1.2.2.2.2.1 X.1.2.2.2.2.1.heap) (hl : X.1.2.1.stackTraces = false) (l0 : Nat) (l1 : Int32) (l2 : Int32) (l3 : Int32) (l4 : Nat) (M : Mem) (h : F_L_byDamp l0 l1 l2 l3 l4 M = some y) (kf : FINH X (some .int) (rs_mI y) (ms_mI y) [(0, 12, 15, 18), (0, 12, 19, 13)]) : wq X 6 0 [(0, .ref l0), (1, .int l1), (2, .int l2), (3, .int l3), (4, .ref l4)] [] M := by
  unfold F_L_byDamp at h
  refine q_aload 4 C dL_byDamp_0 rfl ?_
  refine q_iconst (v := (0 : Int32)) C dL_byDamp_2 (by decide) ?_
  refine q_aload_n 0 C dL_byDamp_3 rfl ?_
  refine q_iload_n 1 C dL_byDamp_4 rfl ?_
  refine q_iload_n 2 C dL_byDamp_5 rfl ?_
  refine q_iload_n 3 C dL_byDamp_6 rfl ?_
  obtain ⟨e1, h⟩ := ckOE h
  rcases bdTE h with ⟨v4, M3, e2, h⟩ | ⟨x7, M8, e2, h⟩
  · refine q_callV (v := some (.int v4)) [.int l1, .int l2, .int l3] C hRO lk_RL_92 vk_X8_byDamp e1 rfl rfl rfl (Nat.le_of_ble_eq_true rfl) (by decide) (by decide) dL_byDamp_7 (k_X8_byDamp X.1.2.1 hl X.2.2.1 l0 l1 l2 l3 M _ e2) ?_
    refine q_i2l C dL_byDamp_10 ?_
    obtain ⟨M5, e6, h⟩ := bindE h
    refine q_lastore C e6 dL_byDamp_11 ?_
    refine q_goto (tgt := 23) C dL_byDamp_12 (by decide) ?_
    refine q_iconst (v := (0 : Int32)) C dL_byDamp_23 (by decide) ?_
    cases h
    exact q_iretH C kf dL_byDamp_24
  · skip
    by_cases c9 : x7 = 1
    · subst c9
      have h := ifT rfl h
      refine q_catch (e0 := 1) (j := 5) (len := 2) (lv' := [(0, .ref l0), (1, .int l1), (2, .int l2), (3, .int l3), (4, .ref l4)]) [.int l1, .int l2, .int l3] [] ⟨0, 12, 15, 18⟩ [⟨0, 12, 19, 13⟩] C hRO lk_RL_92 vk_X8_byDamp e1 rfl rfl rfl (Nat.le_of_ble_eq_true rfl) (by decide) (by decide) dL_byDamp_7 (k_X8_byDamp X.1.2.1 hl X.2.2.1 l0 l1 l2 l3 M _ e2) kf.2.2.1 (fun z hz => nomatch hz) ⟨by decide, by decide, 1, cl_RL_18, by rw [if_pos rfl]; exact xc_1⟩ (Or.inl ⟨dL_byDamp_15, rfl⟩) (by decide) rfl ?_
      refine q_iconst (v := (1 : Int32)) C dL_byDamp_17 (by decide) ?_
      cases h
      exact q_iretH C kf dL_byDamp_18
    have h := ifF c9 h
    by_cases c10 : x7 = 0
    · subst c10
      have h := ifT rfl h
      refine q_catch (e0 := 0) (j := 5) (len := 2) (lv' := [(0, .ref l0), (1, .int l1), (2, .int l2), (3, .int l3), (4, .ref l4)]) [.int l1, .int l2, .int l3] [⟨0, 12, 15, 18⟩] ⟨0, 12, 19, 13⟩ [] C hRO lk_RL_92 vk_X8_byDamp e1 rfl rfl rfl (Nat.le_of_ble_eq_true rfl) (by decide) (by decide) dL_byDamp_7 (k_X8_byDamp X.1.2.1 hl X.2.2.1 l0 l1 l2 l3 M _ e2) kf.2.2.1 (fun z hz => by rw [List.mem_singleton.mp hz]; exact ⟨by decide, by decide, 1, cl_RL_18, by rw [if_neg (by decide)]; exact ⟨rfl, rfl⟩⟩) ⟨by decide, by decide, 0, cl_RL_13, by rw [if_pos rfl]; exact xc_0⟩ (Or.inl ⟨dL_byDamp_19, rfl⟩) (by decide) rfl ?_
      refine q_iconst (v := (2 : Int32)) C dL_byDamp_21 (by decide) ?_
      cases h
      exact q_iretH C kf dL_byDamp_22
    have h := ifF c10 h
    cases h
theorem k_L_byDamp (l : Launch) (hl : l.stackTraces = false) (G : GG) (l0 : Nat) (l1 : Int32) (l2 : Int32) (l3 : Int32) (l4 : Nat) (M : Mem) (x : Int32 × Mem) (h : F_L_byDamp l0 l1 l2 l3 l4 M = some x) : Ct l G yL_byDamp (.codeWith yL_byDamp cL_byDamp 6 (some .int) [(0, 12, 15, 18), (0, 12, 19, 13)]) 13 287 [.ref l0, .int l1, .int l2, .int l3, .ref l4] M (rs_mI x) (ms_mI x) := by
  refine Ct_ofH (by decide +kernel) (Nat.le_of_ble_eq_true rfl) fun X e1 e2 e3 C FN => ?_
  subst e1; subst e2
  show wq X 6 0 [(0, .ref l0), (1, .int l1), (2, .int l2), (3, .int l3), (4, .ref l4)] [] M
  exact w_L_byDamp C FN.2.2.2 hl l0 l1 l2 l3 l4 M h FN
/-! L_change -/
set_option maxRecDepth 100000 in
set_option maxHeartbeats 4000000 in
theorem w_L_change {X : CX} {y : Int32 × Mem} (C : CK X cL_change 5 RL 14 305) (hRO : RO X.2.2.1 X.1.2.2.2.2.1 X.1.2.2.2.2.1.heap) (hl : X.1.2.1.stackTraces = false) (l0 : Nat) (l1 : Int32) (l2 : Int32) (l3 : Nat) (M : Mem) (h : F_L_change l0 l1 l2 l3 M = some y) (kf : FINH X (some .int) (rs_mI y) (ms_mI y) [(0, 17, 20, 18)]) : wq X 5 0 [(0, .ref l0), (1, .int l1), (2, .int l2), (3, .ref l3)] [] M := by
  unfold F_L_change at h
  refine q_aload_n 3 C dL_change_0 rfl ?_
  refine q_iconst (v := (0 : Int32)) C dL_change_1 (by decide) ?_
  refine q_aload_n 0 C dL_change_2 rfl ?_
  refine q_iload_n 1 C dL_change_3 rfl ?_
  refine q_iload_n 2 C dL_change_4 rfl ?_
  obtain ⟨e1, h⟩ := ckOE h
  rcases bdTE h with ⟨v4, M3, e2, h⟩ | ⟨x10, M11, e2, h⟩
  · refine q_callV (v := some (.int v4)) [.int l1, .int l2] C hRO lk_RL_39 vk_X8_change e1 rfl rfl rfl (Nat.le_of_ble_eq_true rfl) (by decide) (by decide) dL_change_5 (k_X8_change X.1.2.1 hl X.2.2.1 l0 l1 l2 M _ e2) ?_
    refine q_if_eq (tgt := 15) C dL_change_8 (by decide) (fun c5 => ?_) (fun c5 => ?_)
    · have h := ifT c5 h
      refine q_lconst (v := (0 : Int64)) C dL_change_15 (by decide) ?_
      obtain ⟨M6, e7, h⟩ := bindE h
      refine q_lastore C e7 dL_change_16 ?_
      refine q_goto (tgt := 24) C dL_change_17 (by decide) ?_
      refine q_iconst (v := (0 : Int32)) C dL_change_24 (by decide) ?_
      cases h
      exact q_iretH C kf dL_change_25
    · have h := ifF c5 h
      refine q_lconst (v := (1 : Int64)) C dL_change_11 (by decide) ?_
      refine q_goto (tgt := 16) C dL_change_12 (by decide) ?_
      obtain ⟨M8, e9, h⟩ := bindE h
      refine q_lastore C e9 dL_change_16 ?_
      refine q_goto (tgt := 24) C dL_change_17 (by decide) ?_
      refine q_iconst (v := (0 : Int32)) C dL_change_24 (by decide) ?_
      cases h
      exact q_iretH C kf dL_change_25
  · skip
    by_cases c12 : x10 = 1
    · subst c12
      have h := ifT rfl h
      refine q_catch (e0 := 1) (j := 4) (len := 2) (lv' := [(0, .ref l0), (1, .int l1), (2, .int l2), (3, .ref l3)]) [.int l1, .int l2] [] ⟨0, 17, 20, 18⟩ [] C hRO lk_RL_39 vk_X8_change e1 rfl rfl rfl (Nat.le_of_ble_eq_true rfl) (by decide) (by decide) dL_change_5 (k_X8_change X.1.2.1 hl X.2.2.1 l0 l1 l2 M _ e2) kf.2.2.1 (fun z hz => nomatch hz) ⟨by decide, by decide, 1, cl_RL_18, by rw [if_pos rfl]; exact xc_1⟩ (Or.inl ⟨dL_change_20, rfl⟩) (by decide) rfl ?_
      refine q_iconst (v := (1 : Int32)) C dL_change_22 (by decide) ?_
      cases h
      exact q_iretH C kf dL_change_23
    have h := ifF c12 h
    cases h
theorem k_L_change (l : Launch) (hl : l.stackTraces = false) (G : GG) (l0 : Nat) (l1 : Int32) (l2 : Int32) (l3 : Nat) (M : Mem) (x : Int32 × Mem) (h : F_L_change l0 l1 l2 l3 M = some x) : Ct l G yL_change (.codeWith yL_change cL_change 5 (some .int) [(0, 17, 20, 18)]) 14 305 [.ref l0, .int l1, .int l2, .ref l3] M (rs_mI x) (ms_mI x) := by
  refine Ct_ofH (by decide +kernel) (Nat.le_of_ble_eq_true rfl) fun X e1 e2 e3 C FN => ?_
  subst e1; subst e2
  show wq X 5 0 [(0, .ref l0), (1, .int l1), (2, .int l2), (3, .ref l3)] [] M
  exact w_L_change C FN.2.2.2 hl l0 l1 l2 l3 M h FN
/-! L_count -/
set_option maxRecDepth 100000 in
set_option maxHeartbeats 4000000 in
theorem w_L_count {X : CX} {y : Int32 × Mem} (C : CK X cL_count 4 RL 14 305) (hRO : RO X.2.2.1 X.1.2.2.2.2.1 X.1.2.2.2.2.1.heap) (hl : X.1.2.1.stackTraces = false) (l0 : Nat) (l1 : Int32) (l2 : Nat) (M : Mem) (h : F_L_count l0 l1 l2 M = some y) (kf : FINH X (some .int) (rs_mI y) (ms_mI y) [(0, 9, 12, 18)]) : wq X 4 0 [(0, .ref l0), (1, .int l1), (2, .ref l2)] [] M := by
  unfold F_L_count at h
  refine q_aload_n 2 C dL_count_0 rfl ?_
  refine q_iconst (v := (0 : Int32)) C dL_count_1 (by decide) ?_
  refine q_aload_n 0 C dL_count_2 rfl ?_
  refine q_iload_n 1 C dL_count_3 rfl ?_
  obtain ⟨e1, h⟩ := ckOE h
  rcases bdTE h with ⟨v4, M3, e2, h⟩ | ⟨x7, M8, e2, h⟩
  · refine q_callV (v := some (.int v4)) [.int l1] C hRO lk_RL_15 vk_X8_count e1 rfl rfl rfl (Nat.le_of_ble_eq_true rfl) (by decide) (by decide) dL_count_4 (k_X8_count X.1.2.1 hl X.2.2.1 l0 l1 M _ e2) ?_
    refine q_i2l C dL_count_7 ?_
    obtain ⟨M5, e6, h⟩ := bindE h
    refine q_lastore C e6 dL_count_8 ?_
    refine q_goto (tgt := 15) C dL_count_9 (by decide) ?_
    refine q_iconst (v := (0 : Int32)) C dL_count_15 (by decide) ?_
    cases h
    exact q_iretH C kf dL_count_16
  · skip
    by_cases c9 : x7 = 1
    · subst c9
      have h := ifT rfl h
      refine q_catch (e0 := 1) (j := 3) (len := 1) (lv' := [(0, .ref l0), (1, .int l1), (2, .ref l2)]) [.int l1] [] ⟨0, 9, 12, 18⟩ [] C hRO lk_RL_15 vk_X8_count e1 rfl rfl rfl (Nat.le_of_ble_eq_true rfl) (by decide) (by decide) dL_count_4 (k_X8_count X.1.2.1 hl X.2.2.1 l0 l1 M _ e2) kf.2.2.1 (fun z hz => nomatch hz) ⟨by decide, by decide, 1, cl_RL_18, by rw [if_pos rfl]; exact xc_1⟩ (Or.inr ⟨_, dL_count_12, rfl, rfl⟩) (by decide) rfl ?_
      refine q_iconst (v := (1 : Int32)) C dL_count_13 (by decide) ?_
      cases h
      exact q_iretH C kf dL_count_14
    have h := ifF c9 h
    cases h
theorem k_L_count (l : Launch) (hl : l.stackTraces = false) (G : GG) (l0 : Nat) (l1 : Int32) (l2 : Nat) (M : Mem) (x : Int32 × Mem) (h : F_L_count l0 l1 l2 M = some x) : Ct l G yL_count (.codeWith yL_count cL_count 4 (some .int) [(0, 9, 12, 18)]) 14 305 [.ref l0, .int l1, .ref l2] M (rs_mI x) (ms_mI x) := by
  refine Ct_ofH (by decide +kernel) (Nat.le_of_ble_eq_true rfl) fun X e1 e2 e3 C FN => ?_
  subst e1; subst e2
  show wq X 4 0 [(0, .ref l0), (1, .int l1), (2, .ref l2)] [] M
  exact w_L_count C FN.2.2.2 hl l0 l1 l2 M h FN
/-! L_dampest -/
set_option maxRecDepth 100000 in
set_option maxHeartbeats 4000000 in
theorem w_L_dampest {X : CX} {y : Int32 × Mem} (C : CK X cL_dampest 4 RL 11 229) (hRO : RO X.2.2.1 X.1.2.2.2.2.1 X.1.2.2.2.2.1.heap) (hl : X.1.2.1.stackTraces = false) (l0 : Nat) (l1 : Int32) (l2 : Nat) (M : Mem) (h : F_L_dampest l0 l1 l2 M = some y) (kf : FINH X (some .int) (rs_mI y) (ms_mI y) [(0, 9, 12, 13)]) : wq X 4 0 [(0, .ref l0), (1, .int l1), (2, .ref l2)] [] M := by
  unfold F_L_dampest at h
  refine q_aload_n 2 C dL_dampest_0 rfl ?_
  refine q_iconst (v := (0 : Int32)) C dL_dampest_1 (by decide) ?_
  refine q_aload_n 0 C dL_dampest_2 rfl ?_
  refine q_iload_n 1 C dL_dampest_3 rfl ?_
  obtain ⟨e1, h⟩ := ckOE h
  rcases bdTE h with ⟨v4, M3, e2, h⟩ | ⟨x7, M8, e2, h⟩
  · refine q_callV (v := some (.int v4)) [.int l1] C hRO lk_RL_114 vk_X8_dampest e1 rfl rfl rfl (Nat.le_of_ble_eq_true rfl) (by decide) (by decide) dL_dampest_4 (k_X8_dampest X.1.2.1 hl X.2.2.1 l0 l1 M _ e2) ?_
    refine q_i2l C dL_dampest_7 ?_
    obtain ⟨M5, e6, h⟩ := bindE h
    refine q_lastore C e6 dL_dampest_8 ?_
    refine q_goto (tgt := 15) C dL_dampest_9 (by decide) ?_
    refine q_iconst (v := (0 : Int32)) C dL_dampest_15 (by decide) ?_
    cases h
    exact q_iretH C kf dL_dampest_16
  · skip
    by_cases c9 : x7 = 0
    · subst c9
      have h := ifT rfl h
      refine q_catch (e0 := 0) (j := 3) (len := 1) (lv' := [(0, .ref l0), (1, .int l1), (2, .ref l2)]) [.int l1] [] ⟨0, 9, 12, 13⟩ [] C hRO lk_RL_114 vk_X8_dampest e1 rfl rfl rfl (Nat.le_of_ble_eq_true rfl) (by decide) (by decide) dL_dampest_4 (k_X8_dampest X.1.2.1 hl X.2.2.1 l0 l1 M _ e2) kf.2.2.1 (fun z hz => nomatch hz) ⟨by decide, by decide, 0, cl_RL_13, by rw [if_pos rfl]; exact xc_0⟩ (Or.inr ⟨_, dL_dampest_12, rfl, rfl⟩) (by decide) rfl ?_
      refine q_iconst (v := (1 : Int32)) C dL_dampest_13 (by decide) ?_
      cases h
      exact q_iretH C kf dL_dampest_14
    have h := ifF c9 h
    cases h
theorem k_L_dampest (l : Launch) (hl : l.stackTraces = false) (G : GG) (l0 : Nat) (l1 : Int32) (l2 : Nat) (M : Mem) (x : Int32 × Mem) (h : F_L_dampest l0 l1 l2 M = some x) : Ct l G yL_dampest (.codeWith yL_dampest cL_dampest 4 (some .int) [(0, 9, 12, 13)]) 11 229 [.ref l0, .int l1, .ref l2] M (rs_mI x) (ms_mI x) := by
  refine Ct_ofH (by decide +kernel) (Nat.le_of_ble_eq_true rfl) fun X e1 e2 e3 C FN => ?_
  subst e1; subst e2
  show wq X 4 0 [(0, .ref l0), (1, .int l1), (2, .ref l2)] [] M
  exact w_L_dampest C FN.2.2.2 hl l0 l1 l2 M h FN
/-! L_eased -/
set_option maxRecDepth 100000 in
set_option maxHeartbeats 4000000 in
theorem w_L_eased {X : CX} {y : Int32 × Mem} (C : CK X cL_eased 6 RL 13 287) (hRO : RO X.2.2.1 X.1.2.2.2.2.1 X.1.2.2.2.2.1.heap) (hl : X.1.2.1.stackTraces = false) (l0 : Nat) (l1 : Int32) (l2 : Int32) (l3 : Int32) (l4 : Nat) (M : Mem) (h : F_L_eased l0 l1 l2 l3 l4 M = some y) (kf : FINH X (some .int) (rs_mI y) (ms_mI y) [(0, 12, 15, 18), (0, 12, 19, 13)]) : wq X 6 0 [(0, .ref l0), (1, .int l1), (2, .int l2), (3, .int l3), (4, .ref l4)] [] M := by
  unfold F_L_eased at h
  refine q_aload 4 C dL_eased_0 rfl ?_
  refine q_iconst (v := (0 : Int32)) C dL_eased_2 (by decide) ?_
  refine q_aload_n 0 C dL_eased_3 rfl ?_
  refine q_iload_n 1 C dL_eased_4 rfl ?_
  refine q_iload_n 2 C dL_eased_5 rfl ?_
  refine q_iload_n 3 C dL_eased_6 rfl ?_
  obtain ⟨e1, h⟩ := ckOE h
  rcases bdTE h with ⟨v4, M3, e2, h⟩ | ⟨x7, M8, e2, h⟩
  · refine q_callV (v := some (.int v4)) [.int l1, .int l2, .int l3] C hRO lk_RL_123 vk_X8_eased e1 rfl rfl rfl (Nat.le_of_ble_eq_true rfl) (by decide) (by decide) dL_eased_7 (k_X8_eased X.1.2.1 hl X.2.2.1 l0 l1 l2 l3 M _ e2) ?_
    refine q_i2l C dL_eased_10 ?_
    obtain ⟨M5, e6, h⟩ := bindE h
    refine q_lastore C e6 dL_eased_11 ?_
    refine q_goto (tgt := 23) C dL_eased_12 (by decide) ?_
    refine q_iconst (v := (0 : Int32)) C dL_eased_23 (by decide) ?_
    cases h
    exact q_iretH C kf dL_eased_24
  · skip
    by_cases c9 : x7 = 1
    · subst c9
      have h := ifT rfl h
      refine q_catch (e0 := 1) (j := 5) (len := 2) (lv' := [(0, .ref l0), (1, .int l1), (2, .int l2), (3, .int l3), (4, .ref l4)]) [.int l1, .int l2, .int l3] [] ⟨0, 12, 15, 18⟩ [⟨0, 12, 19, 13⟩] C hRO lk_RL_123 vk_X8_eased e1 rfl rfl rfl (Nat.le_of_ble_eq_true rfl) (by decide) (by decide) dL_eased_7 (k_X8_eased X.1.2.1 hl X.2.2.1 l0 l1 l2 l3 M _ e2) kf.2.2.1 (fun z hz => nomatch hz) ⟨by decide, by decide, 1, cl_RL_18, by rw [if_pos rfl]; exact xc_1⟩ (Or.inl ⟨dL_eased_15, rfl⟩) (by decide) rfl ?_
      refine q_iconst (v := (1 : Int32)) C dL_eased_17 (by decide) ?_
      cases h
      exact q_iretH C kf dL_eased_18
    have h := ifF c9 h
    by_cases c10 : x7 = 0
    · subst c10
      have h := ifT rfl h
      refine q_catch (e0 := 0) (j := 5) (len := 2) (lv' := [(0, .ref l0), (1, .int l1), (2, .int l2), (3, .int l3), (4, .ref l4)]) [.int l1, .int l2, .int l3] [⟨0, 12, 15, 18⟩] ⟨0, 12, 19, 13⟩ [] C hRO lk_RL_123 vk_X8_eased e1 rfl rfl rfl (Nat.le_of_ble_eq_true rfl) (by decide) (by decide) dL_eased_7 (k_X8_eased X.1.2.1 hl X.2.2.1 l0 l1 l2 l3 M _ e2) kf.2.2.1 (fun z hz => by rw [List.mem_singleton.mp hz]; exact ⟨by decide, by decide, 1, cl_RL_18, by rw [if_neg (by decide)]; exact ⟨rfl, rfl⟩⟩) ⟨by decide, by decide, 0, cl_RL_13, by rw [if_pos rfl]; exact xc_0⟩ (Or.inl ⟨dL_eased_19, rfl⟩) (by decide) rfl ?_
      refine q_iconst (v := (2 : Int32)) C dL_eased_21 (by decide) ?_
      cases h
      exact q_iretH C kf dL_eased_22
    have h := ifF c10 h
    cases h
theorem k_L_eased (l : Launch) (hl : l.stackTraces = false) (G : GG) (l0 : Nat) (l1 : Int32) (l2 : Int32) (l3 : Int32) (l4 : Nat) (M : Mem) (x : Int32 × Mem) (h : F_L_eased l0 l1 l2 l3 l4 M = some x) : Ct l G yL_eased (.codeWith yL_eased cL_eased 6 (some .int) [(0, 12, 15, 18), (0, 12, 19, 13)]) 13 287 [.ref l0, .int l1, .int l2, .int l3, .ref l4] M (rs_mI x) (ms_mI x) := by
  refine Ct_ofH (by decide +kernel) (Nat.le_of_ble_eq_true rfl) fun X e1 e2 e3 C FN => ?_
  subst e1; subst e2
  show wq X 6 0 [(0, .ref l0), (1, .int l1), (2, .int l2), (3, .int l3), (4, .ref l4)] [] M
  exact w_L_eased C FN.2.2.2 hl l0 l1 l2 l3 l4 M h FN
/-! L_eases -/
set_option maxRecDepth 100000 in
set_option maxHeartbeats 4000000 in
theorem w_L_eases {X : CX} {y : Int32 × Mem} (C : CK X cL_eases 5 RL 11 234) (hRO : RO X.2.2.1 X.1.2.2.2.2.1 X.1.2.2.2.2.1.heap) (hl : X.1.2.1.stackTraces = false) (l0 : Nat) (l1 : Int32) (l2 : Int32) (l3 : Nat) (M : Mem) (h : F_L_eases l0 l1 l2 l3 M = some y) (kf : FINH X (some .int) (rs_mI y) (ms_mI y) [(0, 10, 13, 18)]) : wq X 5 0 [(0, .ref l0), (1, .int l1), (2, .int l2), (3, .ref l3)] [] M := by
  unfold F_L_eases at h
  refine q_aload_n 3 C dL_eases_0 rfl ?_
  refine q_iconst (v := (0 : Int32)) C dL_eases_1 (by decide) ?_
  refine q_aload_n 0 C dL_eases_2 rfl ?_
  refine q_iload_n 1 C dL_eases_3 rfl ?_
  refine q_iload_n 2 C dL_eases_4 rfl ?_
  obtain ⟨e1, h⟩ := ckOE h
  rcases bdTE h with ⟨v4, M3, e2, h⟩ | ⟨x7, M8, e2, h⟩
  · refine q_callV (v := some (.int v4)) [.int l1, .int l2] C hRO lk_RL_27 vk_X8_eases e1 rfl rfl rfl (Nat.le_of_ble_eq_true rfl) (by decide) (by decide) dL_eases_5 (k_X8_eases X.1.2.1 hl X.2.2.1 l0 l1 l2 M _ e2) ?_
    refine q_i2l C dL_eases_8 ?_
    obtain ⟨M5, e6, h⟩ := bindE h
    refine q_lastore C e6 dL_eases_9 ?_
    refine q_goto (tgt := 17) C dL_eases_10 (by decide) ?_
    refine q_iconst (v := (0 : Int32)) C dL_eases_17 (by decide) ?_
    cases h
    exact q_iretH C kf dL_eases_18
  · skip
    by_cases c9 : x7 = 1
    · subst c9
      have h := ifT rfl h
      refine q_catch (e0 := 1) (j := 4) (len := 2) (lv' := [(0, .ref l0), (1, .int l1), (2, .int l2), (3, .ref l3)]) [.int l1, .int l2] [] ⟨0, 10, 13, 18⟩ [] C hRO lk_RL_27 vk_X8_eases e1 rfl rfl rfl (Nat.le_of_ble_eq_true rfl) (by decide) (by decide) dL_eases_5 (k_X8_eases X.1.2.1 hl X.2.2.1 l0 l1 l2 M _ e2) kf.2.2.1 (fun z hz => nomatch hz) ⟨by decide, by decide, 1, cl_RL_18, by rw [if_pos rfl]; exact xc_1⟩ (Or.inl ⟨dL_eases_13, rfl⟩) (by decide) rfl ?_
      refine q_iconst (v := (1 : Int32)) C dL_eases_15 (by decide) ?_
      cases h
      exact q_iretH C kf dL_eases_16
    have h := ifF c9 h
    cases h
theorem k_L_eases (l : Launch) (hl : l.stackTraces = false) (G : GG) (l0 : Nat) (l1 : Int32) (l2 : Int32) (l3 : Nat) (M : Mem) (x : Int32 × Mem) (h : F_L_eases l0 l1 l2 l3 M = some x) : Ct l G yL_eases (.codeWith yL_eases cL_eases 5 (some .int) [(0, 10, 13, 18)]) 11 234 [.ref l0, .int l1, .int l2, .ref l3] M (rs_mI x) (ms_mI x) := by
  refine Ct_ofH (by decide +kernel) (Nat.le_of_ble_eq_true rfl) fun X e1 e2 e3 C FN => ?_
  subst e1; subst e2
  show wq X 5 0 [(0, .ref l0), (1, .int l1), (2, .int l2), (3, .ref l3)] [] M
  exact w_L_eases C FN.2.2.2 hl l0 l1 l2 l3 M h FN
/-! L_endures -/
set_option maxRecDepth 100000 in
set_option maxHeartbeats 4000000 in
theorem w_L_endures {X : CX} {y : Int32 × Mem} (C : CK X cL_endures 5 RL 13 282) (hRO : RO X.2.2.1 X.1.2.2.2.2.1 X.1.2.2.2.2.1.heap) (hl : X.1.2.1.stackTraces = false) (l0 : Nat) (l1 : Int32) (l2 : Int32) (l3 : Nat) (M : Mem) (h : F_L_endures l0 l1 l2 l3 M = some y) (kf : FINH X (some .int) (rs_mI y) (ms_mI y) [(0, 10, 13, 18)]) : wq X 5 0 [(0, .ref l0), (1, .int l1), (2, .int l2), (3, .ref l3)] [] M := by
  unfold F_L_endures at h
  refine q_aload_n 3 C dL_endures_0 rfl ?_
  refine q_iconst (v := (0 : Int32)) C dL_endures_1 (by decide) ?_
  refine q_aload_n 0 C dL_endures_2 rfl ?_
  refine q_iload_n 1 C dL_endures_3 rfl ?_
  refine q_iload_n 2 C dL_endures_4 rfl ?_
  obtain ⟨e1, h⟩ := ckOE h
  rcases bdTE h with ⟨v4, M3, e2, h⟩ | ⟨x7, M8, e2, h⟩
  · refine q_callV (v := some (.int v4)) [.int l1, .int l2] C hRO lk_RL_135 vk_X8_endures e1 rfl rfl rfl (Nat.le_of_ble_eq_true rfl) (by decide) (by decide) dL_endures_5 (k_X8_endures X.1.2.1 hl X.2.2.1 l0 l1 l2 M _ e2) ?_
    refine q_i2l C dL_endures_8 ?_
    obtain ⟨M5, e6, h⟩ := bindE h
    refine q_lastore C e6 dL_endures_9 ?_
    refine q_goto (tgt := 17) C dL_endures_10 (by decide) ?_
    refine q_iconst (v := (0 : Int32)) C dL_endures_17 (by decide) ?_
    cases h
    exact q_iretH C kf dL_endures_18
  · skip
    by_cases c9 : x7 = 1
    · subst c9
      have h := ifT rfl h
      refine q_catch (e0 := 1) (j := 4) (len := 2) (lv' := [(0, .ref l0), (1, .int l1), (2, .int l2), (3, .ref l3)]) [.int l1, .int l2] [] ⟨0, 10, 13, 18⟩ [] C hRO lk_RL_135 vk_X8_endures e1 rfl rfl rfl (Nat.le_of_ble_eq_true rfl) (by decide) (by decide) dL_endures_5 (k_X8_endures X.1.2.1 hl X.2.2.1 l0 l1 l2 M _ e2) kf.2.2.1 (fun z hz => nomatch hz) ⟨by decide, by decide, 1, cl_RL_18, by rw [if_pos rfl]; exact xc_1⟩ (Or.inl ⟨dL_endures_13, rfl⟩) (by decide) rfl ?_
      refine q_iconst (v := (1 : Int32)) C dL_endures_15 (by decide) ?_
      cases h
      exact q_iretH C kf dL_endures_16
    have h := ifF c9 h
    cases h
theorem k_L_endures (l : Launch) (hl : l.stackTraces = false) (G : GG) (l0 : Nat) (l1 : Int32) (l2 : Int32) (l3 : Nat) (M : Mem) (x : Int32 × Mem) (h : F_L_endures l0 l1 l2 l3 M = some x) : Ct l G yL_endures (.codeWith yL_endures cL_endures 5 (some .int) [(0, 10, 13, 18)]) 13 282 [.ref l0, .int l1, .int l2, .ref l3] M (rs_mI x) (ms_mI x) := by
  refine Ct_ofH (by decide +kernel) (Nat.le_of_ble_eq_true rfl) fun X e1 e2 e3 C FN => ?_
  subst e1; subst e2
  show wq X 5 0 [(0, .ref l0), (1, .int l1), (2, .int l2), (3, .ref l3)] [] M
  exact w_L_endures C FN.2.2.2 hl l0 l1 l2 l3 M h FN
/-! L_free -/
set_option maxRecDepth 100000 in
set_option maxHeartbeats 4000000 in
theorem w_L_free {X : CX} {y : Int32 × Mem} (C : CK X cL_free 4 RL 13 283) (hRO : RO X.2.2.1 X.1.2.2.2.2.1 X.1.2.2.2.2.1.heap) (hl : X.1.2.1.stackTraces = false) (l0 : Nat) (l1 : Int32) (l2 : Nat) (M : Mem) (h : F_L_free l0 l1 l2 M = some y) (kf : FINH X (some .int) (rs_mI y) (ms_mI y) [(0, 9, 12, 18)]) : wq X 4 0 [(0, .ref l0), (1, .int l1), (2, .ref l2)] [] M := by
  unfold F_L_free at h
  refine q_aload_n 2 C dL_free_0 rfl ?_
  refine q_iconst (v := (0 : Int32)) C dL_free_1 (by decide) ?_
  refine q_aload_n 0 C dL_free_2 rfl ?_
  refine q_iload_n 1 C dL_free_3 rfl ?_
  obtain ⟨e1, h⟩ := ckOE h
  rcases bdTE h with ⟨v4, M3, e2, h⟩ | ⟨x7, M8, e2, h⟩
  · refine q_callV (v := some (.int v4)) [.int l1] C hRO lk_RL_126 vk_X8_free e1 rfl rfl rfl (Nat.le_of_ble_eq_true rfl) (by decide) (by decide) dL_free_4 (k_X8_free X.1.2.1 hl X.2.2.1 l0 l1 M _ e2) ?_
    refine q_i2l C dL_free_7 ?_
    obtain ⟨M5, e6, h⟩ := bindE h
    refine q_lastore C e6 dL_free_8 ?_
    refine q_goto (tgt := 15) C dL_free_9 (by decide) ?_
    refine q_iconst (v := (0 : Int32)) C dL_free_15 (by decide) ?_
    cases h
    exact q_iretH C kf dL_free_16
  · skip
    by_cases c9 : x7 = 1
    · subst c9
      have h := ifT rfl h
      refine q_catch (e0 := 1) (j := 3) (len := 1) (lv' := [(0, .ref l0), (1, .int l1), (2, .ref l2)]) [.int l1] [] ⟨0, 9, 12, 18⟩ [] C hRO lk_RL_126 vk_X8_free e1 rfl rfl rfl (Nat.le_of_ble_eq_true rfl) (by decide) (by decide) dL_free_4 (k_X8_free X.1.2.1 hl X.2.2.1 l0 l1 M _ e2) kf.2.2.1 (fun z hz => nomatch hz) ⟨by decide, by decide, 1, cl_RL_18, by rw [if_pos rfl]; exact xc_1⟩ (Or.inr ⟨_, dL_free_12, rfl, rfl⟩) (by decide) rfl ?_
      refine q_iconst (v := (1 : Int32)) C dL_free_13 (by decide) ?_
      cases h
      exact q_iretH C kf dL_free_14
    have h := ifF c9 h
    cases h
theorem k_L_free (l : Launch) (hl : l.stackTraces = false) (G : GG) (l0 : Nat) (l1 : Int32) (l2 : Nat) (M : Mem) (x : Int32 × Mem) (h : F_L_free l0 l1 l2 M = some x) : Ct l G yL_free (.codeWith yL_free cL_free 4 (some .int) [(0, 9, 12, 18)]) 13 283 [.ref l0, .int l1, .ref l2] M (rs_mI x) (ms_mI x) := by
  refine Ct_ofH (by decide +kernel) (Nat.le_of_ble_eq_true rfl) fun X e1 e2 e3 C FN => ?_
  subst e1; subst e2
  show wq X 4 0 [(0, .ref l0), (1, .int l1), (2, .ref l2)] [] M
  exact w_L_free C FN.2.2.2 hl l0 l1 l2 M h FN
/-! L_game -/
set_option maxRecDepth 100000 in
set_option maxHeartbeats 4000000 in
theorem w_L_game {X : CX} {y : Int32 × Mem} (C : CK X cL_game 7 RL 15 338) (hRO : RO X.2.2.1 X.1.2.2.2.2.1 X.1.2.2.2.2.1.heap) (hl : X.1.2.1.stackTraces = false) (l0 : Nat) (l1 : Int32) (l2 : Int32) (l3 : Int32) (l4 : Int32) (l5 : Nat) (M : Mem) (h : F_L_game l0 l1 l2 l3 l4 l5 M = some y) (kf : FINH X (some .int) (rs_mI y) (ms_mI y) [(0, 14, 17, 18), (0, 14, 21, 13)]) : wq X 7 0 [(0, .ref l0), (1, .int l1), (2, .int l2), (3, .int l3), (4, .int l4), (5, .ref l5)] [] M := by
  unfold F_L_game at h
  refine q_aload 5 C dL_game_0 rfl ?_
  refine q_iconst (v := (0 : Int32)) C dL_game_2 (by decide) ?_
  refine q_aload_n 0 C dL_game_3 rfl ?_
  refine q_iload_n 1 C dL_game_4 rfl ?_
  refine q_iload_n 2 C dL_game_5 rfl ?_
  refine q_iload_n 3 C dL_game_6 rfl ?_
  refine q_iload 4 C dL_game_7 rfl ?_
  obtain ⟨e1, h⟩ := ckOE h
  rcases bdTE h with ⟨v4, M3, e2, h⟩ | ⟨x7, M8, e2, h⟩
  · refine q_callV (v := some (.int v4)) [.int l1, .int l2, .int l3, .int l4] C hRO lk_RL_95 vk_X8_game e1 rfl rfl rfl (Nat.le_of_ble_eq_true rfl) (by decide) (by decide) dL_game_9 (k_X8_game X.1.2.1 hl X.2.2.1 l0 l1 l2 l3 l4 M _ e2) ?_
    refine q_i2l C dL_game_12 ?_
    obtain ⟨M5, e6, h⟩ := bindE h
    refine q_lastore C e6 dL_game_13 ?_
    refine q_goto (tgt := 25) C dL_game_14 (by decide) ?_
    refine q_iconst (v := (0 : Int32)) C dL_game_25 (by decide) ?_
    cases h
    exact q_iretH C kf dL_game_26
  · skip
    by_cases c9 : x7 = 1
    · subst c9
      have h := ifT rfl h
      refine q_catch (e0 := 1) (j := 6) (len := 2) (lv' := [(0, .ref l0), (1, .int l1), (2, .int l2), (3, .int l3), (4, .int l4), (5, .ref l5)]) [.int l1, .int l2, .int l3, .int l4] [] ⟨0, 14, 17, 18⟩ [⟨0, 14, 21, 13⟩] C hRO lk_RL_95 vk_X8_game e1 rfl rfl rfl (Nat.le_of_ble_eq_true rfl) (by decide) (by decide) dL_game_9 (k_X8_game X.1.2.1 hl X.2.2.1 l0 l1 l2 l3 l4 M _ e2) kf.2.2.1 (fun z hz => nomatch hz) ⟨by decide, by decide, 1, cl_RL_18, by rw [if_pos rfl]; exact xc_1⟩ (Or.inl ⟨dL_game_17, rfl⟩) (by decide) rfl ?_
      refine q_iconst (v := (1 : Int32)) C dL_game_19 (by decide) ?_
      cases h
      exact q_iretH C kf dL_game_20
    have h := ifF c9 h
    by_cases c10 : x7 = 0
    · subst c10
      have h := ifT rfl h
      refine q_catch (e0 := 0) (j := 6) (len := 2) (lv' := [(0, .ref l0), (1, .int l1), (2, .int l2), (3, .int l3), (4, .int l4), (5, .ref l5)]) [.int l1, .int l2, .int l3, .int l4] [⟨0, 14, 17, 18⟩] ⟨0, 14, 21, 13⟩ [] C hRO lk_RL_95 vk_X8_game e1 rfl rfl rfl (Nat.le_of_ble_eq_true rfl) (by decide) (by decide) dL_game_9 (k_X8_game X.1.2.1 hl X.2.2.1 l0 l1 l2 l3 l4 M _ e2) kf.2.2.1 (fun z hz => by rw [List.mem_singleton.mp hz]; exact ⟨by decide, by decide, 1, cl_RL_18, by rw [if_neg (by decide)]; exact ⟨rfl, rfl⟩⟩) ⟨by decide, by decide, 0, cl_RL_13, by rw [if_pos rfl]; exact xc_0⟩ (Or.inl ⟨dL_game_21, rfl⟩) (by decide) rfl ?_
      refine q_iconst (v := (2 : Int32)) C dL_game_23 (by decide) ?_
      cases h
      exact q_iretH C kf dL_game_24
    have h := ifF c10 h
    cases h
theorem k_L_game (l : Launch) (hl : l.stackTraces = false) (G : GG) (l0 : Nat) (l1 : Int32) (l2 : Int32) (l3 : Int32) (l4 : Int32) (l5 : Nat) (M : Mem) (x : Int32 × Mem) (h : F_L_game l0 l1 l2 l3 l4 l5 M = some x) : Ct l G yL_game (.codeWith yL_game cL_game 7 (some .int) [(0, 14, 17, 18), (0, 14, 21, 13)]) 15 338 [.ref l0, .int l1, .int l2, .int l3, .int l4, .ref l5] M (rs_mI x) (ms_mI x) := by
  refine Ct_ofH (by decide +kernel) (Nat.le_of_ble_eq_true rfl) fun X e1 e2 e3 C FN => ?_
  subst e1; subst e2
  show wq X 7 0 [(0, .ref l0), (1, .int l1), (2, .int l2), (3, .int l3), (4, .int l4), (5, .ref l5)] [] M
  exact w_L_game C FN.2.2.2 hl l0 l1 l2 l3 l4 l5 M h FN
/-! L_goes -/
set_option maxRecDepth 100000 in
set_option maxHeartbeats 4000000 in
theorem w_L_goes {X : CX} {y : Int32 × Mem} (C : CK X cL_goes 4 RL 13 281) (hRO : RO X.2.2.1 X.1.2.2.2.2.1 X.1.2.2.2.2.1.heap) (hl : X.1.2.1.stackTraces = false) (l0 : Nat) (l1 : Int32) (l2 : Nat) (M : Mem) (h : F_L_goes l0 l1 l2 M = some y) (kf : FINH X (some .int) (rs_mI y) (ms_mI y) [(0, 9, 12, 18)]) : wq X 4 0 [(0, .ref l0), (1, .int l1), (2, .ref l2)] [] M := by
  unfold F_L_goes at h
  refine q_aload_n 2 C dL_goes_0 rfl ?_
  refine q_iconst (v := (0 : Int32)) C dL_goes_1 (by decide) ?_
  refine q_aload_n 0 C dL_goes_2 rfl ?_
  refine q_iload_n 1 C dL_goes_3 rfl ?_
  obtain ⟨e1, h⟩ := ckOE h
  rcases bdTE h with ⟨v4, M3, e2, h⟩ | ⟨x7, M8, e2, h⟩
  · refine q_callV (v := some (.int v4)) [.int l1] C hRO lk_RL_62 vk_X8_goes e1 rfl rfl rfl (Nat.le_of_ble_eq_true rfl) (by decide) (by decide) dL_goes_4 (k_X8_goes X.1.2.1 hl X.2.2.1 l0 l1 M _ e2) ?_
    refine q_i2l C dL_goes_7 ?_
    obtain ⟨M5, e6, h⟩ := bindE h
    refine q_lastore C e6 dL_goes_8 ?_
    refine q_goto (tgt := 15) C dL_goes_9 (by decide) ?_
    refine q_iconst (v := (0 : Int32)) C dL_goes_15 (by decide) ?_
    cases h
    exact q_iretH C kf dL_goes_16
  · skip
    by_cases c9 : x7 = 1
    · subst c9
      have h := ifT rfl h
      refine q_catch (e0 := 1) (j := 3) (len := 1) (lv' := [(0, .ref l0), (1, .int l1), (2, .ref l2)]) [.int l1] [] ⟨0, 9, 12, 18⟩ [] C hRO lk_RL_62 vk_X8_goes e1 rfl rfl rfl (Nat.le_of_ble_eq_true rfl) (by decide) (by decide) dL_goes_4 (k_X8_goes X.1.2.1 hl X.2.2.1 l0 l1 M _ e2) kf.2.2.1 (fun z hz => nomatch hz) ⟨by decide, by decide, 1, cl_RL_18, by rw [if_pos rfl]; exact xc_1⟩ (Or.inr ⟨_, dL_goes_12, rfl, rfl⟩) (by decide) rfl ?_
      refine q_iconst (v := (1 : Int32)) C dL_goes_13 (by decide) ?_
      cases h
      exact q_iretH C kf dL_goes_14
    have h := ifF c9 h
    cases h
theorem k_L_goes (l : Launch) (hl : l.stackTraces = false) (G : GG) (l0 : Nat) (l1 : Int32) (l2 : Nat) (M : Mem) (x : Int32 × Mem) (h : F_L_goes l0 l1 l2 M = some x) : Ct l G yL_goes (.codeWith yL_goes cL_goes 4 (some .int) [(0, 9, 12, 18)]) 13 281 [.ref l0, .int l1, .ref l2] M (rs_mI x) (ms_mI x) := by
  refine Ct_ofH (by decide +kernel) (Nat.le_of_ble_eq_true rfl) fun X e1 e2 e3 C FN => ?_
  subst e1; subst e2
  show wq X 4 0 [(0, .ref l0), (1, .int l1), (2, .ref l2)] [] M
  exact w_L_goes C FN.2.2.2 hl l0 l1 l2 M h FN
/-! L_heirs -/
set_option maxRecDepth 100000 in
set_option maxHeartbeats 4000000 in
theorem w_L_heirs {X : CX} {y : Int32 × Mem} (C : CK X cL_heirs 4 RL 13 281) (hRO : RO X.2.2.1 X.1.2.2.2.2.1 X.1.2.2.2.2.1.heap) (hl : X.1.2.1.stackTraces = false) (l0 : Nat) (l1 : Int32) (l2 : Nat) (M : Mem) (h : F_L_heirs l0 l1 l2 M = some y) (kf : FINH X (some .int) (rs_mI y) (ms_mI y) [(0, 9, 12, 18)]) : wq X 4 0 [(0, .ref l0), (1, .int l1), (2, .ref l2)] [] M := by
  unfold F_L_heirs at h
  refine q_aload_n 2 C dL_heirs_0 rfl ?_
  refine q_iconst (v := (0 : Int32)) C dL_heirs_1 (by decide) ?_
  refine q_aload_n 0 C dL_heirs_2 rfl ?_
  refine q_iload_n 1 C dL_heirs_3 rfl ?_
  obtain ⟨e1, h⟩ := ckOE h
  rcases bdTE h with ⟨v4, M3, e2, h⟩ | ⟨x7, M8, e2, h⟩
  · refine q_callV (v := some (.int v4)) [.int l1] C hRO lk_RL_102 vk_X8_heirs e1 rfl rfl rfl (Nat.le_of_ble_eq_true rfl) (by decide) (by decide) dL_heirs_4 (k_X8_heirs X.1.2.1 hl X.2.2.1 l0 l1 M _ e2) ?_
    refine q_i2l C dL_heirs_7 ?_
    obtain ⟨M5, e6, h⟩ := bindE h
    refine q_lastore C e6 dL_heirs_8 ?_
    refine q_goto (tgt := 15) C dL_heirs_9 (by decide) ?_
    refine q_iconst (v := (0 : Int32)) C dL_heirs_15 (by decide) ?_
    cases h
    exact q_iretH C kf dL_heirs_16
  · skip
    by_cases c9 : x7 = 1
    · subst c9
      have h := ifT rfl h
      refine q_catch (e0 := 1) (j := 3) (len := 1) (lv' := [(0, .ref l0), (1, .int l1), (2, .ref l2)]) [.int l1] [] ⟨0, 9, 12, 18⟩ [] C hRO lk_RL_102 vk_X8_heirs e1 rfl rfl rfl (Nat.le_of_ble_eq_true rfl) (by decide) (by decide) dL_heirs_4 (k_X8_heirs X.1.2.1 hl X.2.2.1 l0 l1 M _ e2) kf.2.2.1 (fun z hz => nomatch hz) ⟨by decide, by decide, 1, cl_RL_18, by rw [if_pos rfl]; exact xc_1⟩ (Or.inr ⟨_, dL_heirs_12, rfl, rfl⟩) (by decide) rfl ?_
      refine q_iconst (v := (1 : Int32)) C dL_heirs_13 (by decide) ?_
      cases h
      exact q_iretH C kf dL_heirs_14
    have h := ifF c9 h
    cases h
theorem k_L_heirs (l : Launch) (hl : l.stackTraces = false) (G : GG) (l0 : Nat) (l1 : Int32) (l2 : Nat) (M : Mem) (x : Int32 × Mem) (h : F_L_heirs l0 l1 l2 M = some x) : Ct l G yL_heirs (.codeWith yL_heirs cL_heirs 4 (some .int) [(0, 9, 12, 18)]) 13 281 [.ref l0, .int l1, .ref l2] M (rs_mI x) (ms_mI x) := by
  refine Ct_ofH (by decide +kernel) (Nat.le_of_ble_eq_true rfl) fun X e1 e2 e3 C FN => ?_
  subst e1; subst e2
  show wq X 4 0 [(0, .ref l0), (1, .int l1), (2, .ref l2)] [] M
  exact w_L_heirs C FN.2.2.2 hl l0 l1 l2 M h FN
/-! L_house -/
set_option maxRecDepth 100000 in
set_option maxHeartbeats 4000000 in
theorem w_L_house {X : CX} {y : Int32 × Mem} (C : CK X cL_house 5 RL 9 187) (hRO : RO X.2.2.1 X.1.2.2.2.2.1 X.1.2.2.2.2.1.heap) (hl : X.1.2.1.stackTraces = false) (l0 : Nat) (l1 : Int32) (l2 : Int32) (l3 : Nat) (M : Mem) (h : F_L_house l0 l1 l2 l3 M = some y) (kf : FINH X (some .int) (rs_mI y) (ms_mI y) [(0, 10, 13, 18)]) : wq X 5 0 [(0, .ref l0), (1, .int l1), (2, .int l2), (3, .ref l3)] [] M := by
  unfold F_L_house at h
  refine q_aload_n 3 C dL_house_0 rfl ?_
  refine q_iconst (v := (0 : Int32)) C dL_house_1 (by decide) ?_
  refine q_aload_n 0 C dL_house_2 rfl ?_
  refine q_iload_n 1 C dL_house_3 rfl ?_
  refine q_iload_n 2 C dL_house_4 rfl ?_
  obtain ⟨e1, h⟩ := ckOE h
  rcases bdTE h with ⟨v4, M3, e2, h⟩ | ⟨x7, M8, e2, h⟩
  · refine q_callV (v := some (.int v4)) [.int l1, .int l2] C hRO lk_RL_20 vk_X8_house e1 rfl rfl rfl (Nat.le_of_ble_eq_true rfl) (by decide) (by decide) dL_house_5 (k_X8_house X.1.2.1 hl X.2.2.1 l0 l1 l2 M _ e2) ?_
    refine q_i2l C dL_house_8 ?_
    obtain ⟨M5, e6, h⟩ := bindE h
    refine q_lastore C e6 dL_house_9 ?_
    refine q_goto (tgt := 17) C dL_house_10 (by decide) ?_
    refine q_iconst (v := (0 : Int32)) C dL_house_17 (by decide) ?_
    cases h
    exact q_iretH C kf dL_house_18
  · skip
    by_cases c9 : x7 = 1
    · subst c9
      have h := ifT rfl h
      refine q_catch (e0 := 1) (j := 4) (len := 2) (lv' := [(0, .ref l0), (1, .int l1), (2, .int l2), (3, .ref l3)]) [.int l1, .int l2] [] ⟨0, 10, 13, 18⟩ [] C hRO lk_RL_20 vk_X8_house e1 rfl rfl rfl (Nat.le_of_ble_eq_true rfl) (by decide) (by decide) dL_house_5 (k_X8_house X.1.2.1 hl X.2.2.1 l0 l1 l2 M _ e2) kf.2.2.1 (fun z hz => nomatch hz) ⟨by decide, by decide, 1, cl_RL_18, by rw [if_pos rfl]; exact xc_1⟩ (Or.inl ⟨dL_house_13, rfl⟩) (by decide) rfl ?_
      refine q_iconst (v := (1 : Int32)) C dL_house_15 (by decide) ?_
      cases h
      exact q_iretH C kf dL_house_16
    have h := ifF c9 h
    cases h
theorem k_L_house (l : Launch) (hl : l.stackTraces = false) (G : GG) (l0 : Nat) (l1 : Int32) (l2 : Int32) (l3 : Nat) (M : Mem) (x : Int32 × Mem) (h : F_L_house l0 l1 l2 l3 M = some x) : Ct l G yL_house (.codeWith yL_house cL_house 5 (some .int) [(0, 10, 13, 18)]) 9 187 [.ref l0, .int l1, .int l2, .ref l3] M (rs_mI x) (ms_mI x) := by
  refine Ct_ofH (by decide +kernel) (Nat.le_of_ble_eq_true rfl) fun X e1 e2 e3 C FN => ?_
  subst e1; subst e2
  show wq X 5 0 [(0, .ref l0), (1, .int l1), (2, .int l2), (3, .ref l3)] [] M
  exact w_L_house C FN.2.2.2 hl l0 l1 l2 l3 M h FN
/-! L_kept -/
set_option maxRecDepth 100000 in
set_option maxHeartbeats 4000000 in
theorem w_L_kept {X : CX} {y : Int32 × Mem} (C : CK X cL_kept 4 RL 14 305) (hRO : RO X.2.2.1 X.1.2.2.2.2.1 X.1.2.2.2.2.1.heap) (hl : X.1.2.1.stackTraces = false) (l0 : Nat) (l1 : Int32) (l2 : Nat) (M : Mem) (h : F_L_kept l0 l1 l2 M = some y) (kf : FINH X (some .int) (rs_mI y) (ms_mI y) [(0, 9, 12, 13)]) : wq X 4 0 [(0, .ref l0), (1, .int l1), (2, .ref l2)] [] M := by
  unfold F_L_kept at h
  refine q_aload_n 2 C dL_kept_0 rfl ?_
  refine q_iconst (v := (0 : Int32)) C dL_kept_1 (by decide) ?_
  refine q_aload_n 0 C dL_kept_2 rfl ?_
  refine q_iload_n 1 C dL_kept_3 rfl ?_
  obtain ⟨e1, h⟩ := ckOE h
  rcases bdTE h with ⟨v4, M3, e2, h⟩ | ⟨x7, M8, e2, h⟩
  · refine q_callV (v := some (.int v4)) [.int l1] C hRO lk_RL_117 vk_X8_kept e1 rfl rfl rfl (Nat.le_of_ble_eq_true rfl) (by decide) (by decide) dL_kept_4 (k_X8_kept X.1.2.1 hl X.2.2.1 l0 l1 M _ e2) ?_
    refine q_i2l C dL_kept_7 ?_
    obtain ⟨M5, e6, h⟩ := bindE h
    refine q_lastore C e6 dL_kept_8 ?_
    refine q_goto (tgt := 15) C dL_kept_9 (by decide) ?_
    refine q_iconst (v := (0 : Int32)) C dL_kept_15 (by decide) ?_
    cases h
    exact q_iretH C kf dL_kept_16
  · skip
    by_cases c9 : x7 = 0
    · subst c9
      have h := ifT rfl h
      refine q_catch (e0 := 0) (j := 3) (len := 1) (lv' := [(0, .ref l0), (1, .int l1), (2, .ref l2)]) [.int l1] [] ⟨0, 9, 12, 13⟩ [] C hRO lk_RL_117 vk_X8_kept e1 rfl rfl rfl (Nat.le_of_ble_eq_true rfl) (by decide) (by decide) dL_kept_4 (k_X8_kept X.1.2.1 hl X.2.2.1 l0 l1 M _ e2) kf.2.2.1 (fun z hz => nomatch hz) ⟨by decide, by decide, 0, cl_RL_13, by rw [if_pos rfl]; exact xc_0⟩ (Or.inr ⟨_, dL_kept_12, rfl, rfl⟩) (by decide) rfl ?_
      refine q_iconst (v := (1 : Int32)) C dL_kept_13 (by decide) ?_
      cases h
      exact q_iretH C kf dL_kept_14
    have h := ifF c9 h
    cases h
theorem k_L_kept (l : Launch) (hl : l.stackTraces = false) (G : GG) (l0 : Nat) (l1 : Int32) (l2 : Nat) (M : Mem) (x : Int32 × Mem) (h : F_L_kept l0 l1 l2 M = some x) : Ct l G yL_kept (.codeWith yL_kept cL_kept 4 (some .int) [(0, 9, 12, 13)]) 14 305 [.ref l0, .int l1, .ref l2] M (rs_mI x) (ms_mI x) := by
  refine Ct_ofH (by decide +kernel) (Nat.le_of_ble_eq_true rfl) fun X e1 e2 e3 C FN => ?_
  subst e1; subst e2
  show wq X 4 0 [(0, .ref l0), (1, .int l1), (2, .ref l2)] [] M
  exact w_L_kept C FN.2.2.2 hl l0 l1 l2 M h FN
/-! L_large -/
set_option maxRecDepth 100000 in
set_option maxHeartbeats 4000000 in
theorem w_L_large {X : CX} {y : Int32 × Mem} (C : CK X cL_large 4 RL 15 334) (hRO : RO X.2.2.1 X.1.2.2.2.2.1 X.1.2.2.2.2.1.heap) (hl : X.1.2.1.stackTraces = false) (l0 : Nat) (l1 : Int32) (l2 : Nat) (M : Mem) (h : F_L_large l0 l1 l2 M = some y) (kf : FINH X (some .int) (rs_mI y) (ms_mI y) [(0, 9, 12, 18)]) : wq X 4 0 [(0, .ref l0), (1, .int l1), (2, .ref l2)] [] M := by
  unfold F_L_large at h
  refine q_aload_n 2 C dL_large_0 rfl ?_
  refine q_iconst (v := (0 : Int32)) C dL_large_1 (by decide) ?_
  refine q_aload_n 0 C dL_large_2 rfl ?_
  refine q_iload_n 1 C dL_large_3 rfl ?_
  obtain ⟨e1, h⟩ := ckOE h
  rcases bdTE h with ⟨v4, M3, e2, h⟩ | ⟨x7, M8, e2, h⟩
  · refine q_callV (v := some (.int v4)) [.int l1] C hRO lk_RL_86 vk_X8_large e1 rfl rfl rfl (Nat.le_of_ble_eq_true rfl) (by decide) (by decide) dL_large_4 (k_X8_large X.1.2.1 hl X.2.2.1 l0 l1 M _ e2) ?_
    refine q_i2l C dL_large_7 ?_
    obtain ⟨M5, e6, h⟩ := bindE h
    refine q_lastore C e6 dL_large_8 ?_
    refine q_goto (tgt := 15) C dL_large_9 (by decide) ?_
    refine q_iconst (v := (0 : Int32)) C dL_large_15 (by decide) ?_
    cases h
    exact q_iretH C kf dL_large_16
  · skip
    by_cases c9 : x7 = 1
    · subst c9
      have h := ifT rfl h
      refine q_catch (e0 := 1) (j := 3) (len := 1) (lv' := [(0, .ref l0), (1, .int l1), (2, .ref l2)]) [.int l1] [] ⟨0, 9, 12, 18⟩ [] C hRO lk_RL_86 vk_X8_large e1 rfl rfl rfl (Nat.le_of_ble_eq_true rfl) (by decide) (by decide) dL_large_4 (k_X8_large X.1.2.1 hl X.2.2.1 l0 l1 M _ e2) kf.2.2.1 (fun z hz => nomatch hz) ⟨by decide, by decide, 1, cl_RL_18, by rw [if_pos rfl]; exact xc_1⟩ (Or.inr ⟨_, dL_large_12, rfl, rfl⟩) (by decide) rfl ?_
      refine q_iconst (v := (1 : Int32)) C dL_large_13 (by decide) ?_
      cases h
      exact q_iretH C kf dL_large_14
    have h := ifF c9 h
    cases h
theorem k_L_large (l : Launch) (hl : l.stackTraces = false) (G : GG) (l0 : Nat) (l1 : Int32) (l2 : Nat) (M : Mem) (x : Int32 × Mem) (h : F_L_large l0 l1 l2 M = some x) : Ct l G yL_large (.codeWith yL_large cL_large 4 (some .int) [(0, 9, 12, 18)]) 15 334 [.ref l0, .int l1, .ref l2] M (rs_mI x) (ms_mI x) := by
  refine Ct_ofH (by decide +kernel) (Nat.le_of_ble_eq_true rfl) fun X e1 e2 e3 C FN => ?_
  subst e1; subst e2
  show wq X 4 0 [(0, .ref l0), (1, .int l1), (2, .ref l2)] [] M
  exact w_L_large C FN.2.2.2 hl l0 l1 l2 M h FN
/-! L_larger -/
set_option maxRecDepth 100000 in
set_option maxHeartbeats 4000000 in
theorem w_L_larger {X : CX} {y : Int32 × Mem} (C : CK X cL_larger 4 RL 9 184) (hRO : RO X.2.2.1 X.1.2.2.2.2.1 X.1.2.2.2.2.1.heap) (hl : X.1.2.1.stackTraces = false) (l0 : Nat) (l1 : Int32) (l2 : Nat) (M : Mem) (h : F_L_larger l0 l1 l2 M = some y) (kf : FINH X (some .int) (rs_mI y) (ms_mI y) [(0, 9, 12, 18)]) : wq X 4 0 [(0, .ref l0), (1, .int l1), (2, .ref l2)] [] M := by
  unfold F_L_larger at h
  refine q_aload_n 2 C dL_larger_0 rfl ?_
  refine q_iconst (v := (0 : Int32)) C dL_larger_1 (by decide) ?_
  refine q_aload_n 0 C dL_larger_2 rfl ?_
  refine q_iload_n 1 C dL_larger_3 rfl ?_
  obtain ⟨e1, h⟩ := ckOE h
  rcases bdTE h with ⟨v4, M3, e2, h⟩ | ⟨x7, M8, e2, h⟩
  · refine q_callV (v := some (.int v4)) [.int l1] C hRO lk_RL_129 vk_X8_larger e1 rfl rfl rfl (Nat.le_of_ble_eq_true rfl) (by decide) (by decide) dL_larger_4 (k_X8_larger X.1.2.1 hl X.2.2.1 l0 l1 M _ e2) ?_
    refine q_i2l C dL_larger_7 ?_
    obtain ⟨M5, e6, h⟩ := bindE h
    refine q_lastore C e6 dL_larger_8 ?_
    refine q_goto (tgt := 15) C dL_larger_9 (by decide) ?_
    refine q_iconst (v := (0 : Int32)) C dL_larger_15 (by decide) ?_
    cases h
    exact q_iretH C kf dL_larger_16
  · skip
    by_cases c9 : x7 = 1
    · subst c9
      have h := ifT rfl h
      refine q_catch (e0 := 1) (j := 3) (len := 1) (lv' := [(0, .ref l0), (1, .int l1), (2, .ref l2)]) [.int l1] [] ⟨0, 9, 12, 18⟩ [] C hRO lk_RL_129 vk_X8_larger e1 rfl rfl rfl (Nat.le_of_ble_eq_true rfl) (by decide) (by decide) dL_larger_4 (k_X8_larger X.1.2.1 hl X.2.2.1 l0 l1 M _ e2) kf.2.2.1 (fun z hz => nomatch hz) ⟨by decide, by decide, 1, cl_RL_18, by rw [if_pos rfl]; exact xc_1⟩ (Or.inr ⟨_, dL_larger_12, rfl, rfl⟩) (by decide) rfl ?_
      refine q_iconst (v := (1 : Int32)) C dL_larger_13 (by decide) ?_
      cases h
      exact q_iretH C kf dL_larger_14
    have h := ifF c9 h
    cases h
theorem k_L_larger (l : Launch) (hl : l.stackTraces = false) (G : GG) (l0 : Nat) (l1 : Int32) (l2 : Nat) (M : Mem) (x : Int32 × Mem) (h : F_L_larger l0 l1 l2 M = some x) : Ct l G yL_larger (.codeWith yL_larger cL_larger 4 (some .int) [(0, 9, 12, 18)]) 9 184 [.ref l0, .int l1, .ref l2] M (rs_mI x) (ms_mI x) := by
  refine Ct_ofH (by decide +kernel) (Nat.le_of_ble_eq_true rfl) fun X e1 e2 e3 C FN => ?_
  subst e1; subst e2
  show wq X 4 0 [(0, .ref l0), (1, .int l1), (2, .ref l2)] [] M
  exact w_L_larger C FN.2.2.2 hl l0 l1 l2 M h FN
/-! L_last -/
set_option maxRecDepth 100000 in
set_option maxHeartbeats 4000000 in
theorem w_L_last {X : CX} {y : Int32 × Mem} (C : CK X cL_last 4 RL 13 286) (hRO : RO X.2.2.1 X.1.2.2.2.2.1 X.1.2.2.2.2.1.heap) (hl : X.1.2.1.stackTraces = false) (l0 : Nat) (l1 : Int32) (l2 : Nat) (M : Mem) (h : F_L_last l0 l1 l2 M = some y) (kf : FINH X (some .int) (rs_mI y) (ms_mI y) [(0, 9, 12, 18)]) : wq X 4 0 [(0, .ref l0), (1, .int l1), (2, .ref l2)] [] M := by
  unfold F_L_last at h
  refine q_aload_n 2 C dL_last_0 rfl ?_
  refine q_iconst (v := (0 : Int32)) C dL_last_1 (by decide) ?_
  refine q_aload_n 0 C dL_last_2 rfl ?_
  refine q_iload_n 1 C dL_last_3 rfl ?_
  obtain ⟨e1, h⟩ := ckOE h
  rcases bdTE h with ⟨v4, M3, e2, h⟩ | ⟨x7, M8, e2, h⟩
  · refine q_callV (v := some (.int v4)) [.int l1] C hRO lk_RL_59 vk_X8_last e1 rfl rfl rfl (Nat.le_of_ble_eq_true rfl) (by decide) (by decide) dL_last_4 (k_X8_last X.1.2.1 hl X.2.2.1 l0 l1 M _ e2) ?_
    refine q_i2l C dL_last_7 ?_
    obtain ⟨M5, e6, h⟩ := bindE h
    refine q_lastore C e6 dL_last_8 ?_
    refine q_goto (tgt := 15) C dL_last_9 (by decide) ?_
    refine q_iconst (v := (0 : Int32)) C dL_last_15 (by decide) ?_
    cases h
    exact q_iretH C kf dL_last_16
  · skip
    by_cases c9 : x7 = 1
    · subst c9
      have h := ifT rfl h
      refine q_catch (e0 := 1) (j := 3) (len := 1) (lv' := [(0, .ref l0), (1, .int l1), (2, .ref l2)]) [.int l1] [] ⟨0, 9, 12, 18⟩ [] C hRO lk_RL_59 vk_X8_last e1 rfl rfl rfl (Nat.le_of_ble_eq_true rfl) (by decide) (by decide) dL_last_4 (k_X8_last X.1.2.1 hl X.2.2.1 l0 l1 M _ e2) kf.2.2.1 (fun z hz => nomatch hz) ⟨by decide, by decide, 1, cl_RL_18, by rw [if_pos rfl]; exact xc_1⟩ (Or.inr ⟨_, dL_last_12, rfl, rfl⟩) (by decide) rfl ?_
      refine q_iconst (v := (1 : Int32)) C dL_last_13 (by decide) ?_
      cases h
      exact q_iretH C kf dL_last_14
    have h := ifF c9 h
    cases h
theorem k_L_last (l : Launch) (hl : l.stackTraces = false) (G : GG) (l0 : Nat) (l1 : Int32) (l2 : Nat) (M : Mem) (x : Int32 × Mem) (h : F_L_last l0 l1 l2 M = some x) : Ct l G yL_last (.codeWith yL_last cL_last 4 (some .int) [(0, 9, 12, 18)]) 13 286 [.ref l0, .int l1, .ref l2] M (rs_mI x) (ms_mI x) := by
  refine Ct_ofH (by decide +kernel) (Nat.le_of_ble_eq_true rfl) fun X e1 e2 e3 C FN => ?_
  subst e1; subst e2
  show wq X 4 0 [(0, .ref l0), (1, .int l1), (2, .ref l2)] [] M
  exact w_L_last C FN.2.2.2 hl l0 l1 l2 M h FN
/-! L_match -/
set_option maxRecDepth 100000 in
set_option maxHeartbeats 4000000 in
theorem w_L_match {X : CX} {y : Int32 × Mem} (C : CK X cL_match 4 RL 13 283) (hRO : RO X.2.2.1 X.1.2.2.2.2.1 X.1.2.2.2.2.1.heap) (hl : X.1.2.1.stackTraces = false) (l0 : Nat) (l1 : Int32) (l2 : Nat) (M : Mem) (h : F_L_match l0 l1 l2 M = some y) (kf : FINH X (some .int) (rs_mI y) (ms_mI y) [(0, 9, 12, 18)]) : wq X 4 0 [(0, .ref l0), (1, .int l1), (2, .ref l2)] [] M := by
  unfold F_L_match at h
  refine q_aload_n 2 C dL_match_0 rfl ?_
  refine q_iconst (v := (0 : Int32)) C dL_match_1 (by decide) ?_
  refine q_aload_n 0 C dL_match_2 rfl ?_
  refine q_iload_n 1 C dL_match_3 rfl ?_
  obtain ⟨e1, h⟩ := ckOE h
  rcases bdTE h with ⟨v4, M3, e2, h⟩ | ⟨x7, M8, e2, h⟩
  · refine q_callV (v := some (.int v4)) [.int l1] C hRO lk_RL_65 vk_X8_match e1 rfl rfl rfl (Nat.le_of_ble_eq_true rfl) (by decide) (by decide) dL_match_4 (k_X8_match X.1.2.1 hl X.2.2.1 l0 l1 M _ e2) ?_
    refine q_i2l C dL_match_7 ?_
    obtain ⟨M5, e6, h⟩ := bindE h
    refine q_lastore C e6 dL_match_8 ?_
    refine q_goto (tgt := 15) C dL_match_9 (by decide) ?_
    refine q_iconst (v := (0 : Int32)) C dL_match_15 (by decide) ?_
    cases h
    exact q_iretH C kf dL_match_16
  · skip
    by_cases c9 : x7 = 1
    · subst c9
      have h := ifT rfl h
      refine q_catch (e0 := 1) (j := 3) (len := 1) (lv' := [(0, .ref l0), (1, .int l1), (2, .ref l2)]) [.int l1] [] ⟨0, 9, 12, 18⟩ [] C hRO lk_RL_65 vk_X8_match e1 rfl rfl rfl (Nat.le_of_ble_eq_true rfl) (by decide) (by decide) dL_match_4 (k_X8_match X.1.2.1 hl X.2.2.1 l0 l1 M _ e2) kf.2.2.1 (fun z hz => nomatch hz) ⟨by decide, by decide, 1, cl_RL_18, by rw [if_pos rfl]; exact xc_1⟩ (Or.inr ⟨_, dL_match_12, rfl, rfl⟩) (by decide) rfl ?_
      refine q_iconst (v := (1 : Int32)) C dL_match_13 (by decide) ?_
      cases h
      exact q_iretH C kf dL_match_14
    have h := ifF c9 h
    cases h
theorem k_L_match (l : Launch) (hl : l.stackTraces = false) (G : GG) (l0 : Nat) (l1 : Int32) (l2 : Nat) (M : Mem) (x : Int32 × Mem) (h : F_L_match l0 l1 l2 M = some x) : Ct l G yL_match (.codeWith yL_match cL_match 4 (some .int) [(0, 9, 12, 18)]) 13 283 [.ref l0, .int l1, .ref l2] M (rs_mI x) (ms_mI x) := by
  refine Ct_ofH (by decide +kernel) (Nat.le_of_ble_eq_true rfl) fun X e1 e2 e3 C FN => ?_
  subst e1; subst e2
  show wq X 4 0 [(0, .ref l0), (1, .int l1), (2, .ref l2)] [] M
  exact w_L_match C FN.2.2.2 hl l0 l1 l2 M h FN
/-! L_matched -/
set_option maxRecDepth 100000 in
set_option maxHeartbeats 4000000 in
theorem w_L_matched {X : CX} {y : Int32 × Mem} (C : CK X cL_matched 4 RL 13 283) (hRO : RO X.2.2.1 X.1.2.2.2.2.1 X.1.2.2.2.2.1.heap) (hl : X.1.2.1.stackTraces = false) (l0 : Nat) (l1 : Int32) (l2 : Nat) (M : Mem) (h : F_L_matched l0 l1 l2 M = some y) (kf : FINH X (some .int) (rs_mI y) (ms_mI y) [(0, 9, 12, 18)]) : wq X 4 0 [(0, .ref l0), (1, .int l1), (2, .ref l2)] [] M := by
  unfold F_L_matched at h
  refine q_aload_n 2 C dL_matched_0 rfl ?_
  refine q_iconst (v := (0 : Int32)) C dL_matched_1 (by decide) ?_
  refine q_aload_n 0 C dL_matched_2 rfl ?_
  refine q_iload_n 1 C dL_matched_3 rfl ?_
  obtain ⟨e1, h⟩ := ckOE h
  rcases bdTE h with ⟨v4, M3, e2, h⟩ | ⟨x7, M8, e2, h⟩
  · refine q_callV (v := some (.int v4)) [.int l1] C hRO lk_RL_68 vk_X8_matched e1 rfl rfl rfl (Nat.le_of_ble_eq_true rfl) (by decide) (by decide) dL_matched_4 (k_X8_matched X.1.2.1 hl X.2.2.1 l0 l1 M _ e2) ?_
    refine q_i2l C dL_matched_7 ?_
    obtain ⟨M5, e6, h⟩ := bindE h
    refine q_lastore C e6 dL_matched_8 ?_
    refine q_goto (tgt := 15) C dL_matched_9 (by decide) ?_
    refine q_iconst (v := (0 : Int32)) C dL_matched_15 (by decide) ?_
    cases h
    exact q_iretH C kf dL_matched_16
  · skip
    by_cases c9 : x7 = 1
    · subst c9
      have h := ifT rfl h
      refine q_catch (e0 := 1) (j := 3) (len := 1) (lv' := [(0, .ref l0), (1, .int l1), (2, .ref l2)]) [.int l1] [] ⟨0, 9, 12, 18⟩ [] C hRO lk_RL_68 vk_X8_matched e1 rfl rfl rfl (Nat.le_of_ble_eq_true rfl) (by decide) (by decide) dL_matched_4 (k_X8_matched X.1.2.1 hl X.2.2.1 l0 l1 M _ e2) kf.2.2.1 (fun z hz => nomatch hz) ⟨by decide, by decide, 1, cl_RL_18, by rw [if_pos rfl]; exact xc_1⟩ (Or.inr ⟨_, dL_matched_12, rfl, rfl⟩) (by decide) rfl ?_
      refine q_iconst (v := (1 : Int32)) C dL_matched_13 (by decide) ?_
      cases h
      exact q_iretH C kf dL_matched_14
    have h := ifF c9 h
    cases h
theorem k_L_matched (l : Launch) (hl : l.stackTraces = false) (G : GG) (l0 : Nat) (l1 : Int32) (l2 : Nat) (M : Mem) (x : Int32 × Mem) (h : F_L_matched l0 l1 l2 M = some x) : Ct l G yL_matched (.codeWith yL_matched cL_matched 4 (some .int) [(0, 9, 12, 18)]) 13 283 [.ref l0, .int l1, .ref l2] M (rs_mI x) (ms_mI x) := by
  refine Ct_ofH (by decide +kernel) (Nat.le_of_ble_eq_true rfl) fun X e1 e2 e3 C FN => ?_
  subst e1; subst e2
  show wq X 4 0 [(0, .ref l0), (1, .int l1), (2, .ref l2)] [] M
  exact w_L_matched C FN.2.2.2 hl l0 l1 l2 M h FN
/-! L_next -/
set_option maxRecDepth 100000 in
set_option maxHeartbeats 4000000 in
theorem w_L_next {X : CX} {y : Int32 × Mem} (C : CK X cL_next 4 RL 15 335) (hRO : RO X.2.2.1 X.1.2.2.2.2.1 X.1.2.2.2.2.1.heap) (hl : X.1.2.1.stackTraces = false) (l0 : Nat) (l1 : Int32) (l2 : Nat) (M : Mem) (h : F_L_next l0 l1 l2 M = some y) (kf : FINH X (some .int) (rs_mI y) (ms_mI y) [(0, 9, 12, 18)]) : wq X 4 0 [(0, .ref l0), (1, .int l1), (2, .ref l2)] [] M := by
  unfold F_L_next at h
  refine q_aload_n 2 C dL_next_0 rfl ?_
  refine q_iconst (v := (0 : Int32)) C dL_next_1 (by decide) ?_
  refine q_aload_n 0 C dL_next_2 rfl ?_
  refine q_iload_n 1 C dL_next_3 rfl ?_
  obtain ⟨e1, h⟩ := ckOE h
  rcases bdTE h with ⟨v4, M3, e2, h⟩ | ⟨x7, M8, e2, h⟩
  · refine q_callV (v := some (.int v4)) [.int l1] C hRO lk_RL_89 vk_X8_next e1 rfl rfl rfl (Nat.le_of_ble_eq_true rfl) (by decide) (by decide) dL_next_4 (k_X8_next X.1.2.1 hl X.2.2.1 l0 l1 M _ e2) ?_
    refine q_i2l C dL_next_7 ?_
    obtain ⟨M5, e6, h⟩ := bindE h
    refine q_lastore C e6 dL_next_8 ?_
    refine q_goto (tgt := 15) C dL_next_9 (by decide) ?_
    refine q_iconst (v := (0 : Int32)) C dL_next_15 (by decide) ?_
    cases h
    exact q_iretH C kf dL_next_16
  · skip
    by_cases c9 : x7 = 1
    · subst c9
      have h := ifT rfl h
      refine q_catch (e0 := 1) (j := 3) (len := 1) (lv' := [(0, .ref l0), (1, .int l1), (2, .ref l2)]) [.int l1] [] ⟨0, 9, 12, 18⟩ [] C hRO lk_RL_89 vk_X8_next e1 rfl rfl rfl (Nat.le_of_ble_eq_true rfl) (by decide) (by decide) dL_next_4 (k_X8_next X.1.2.1 hl X.2.2.1 l0 l1 M _ e2) kf.2.2.1 (fun z hz => nomatch hz) ⟨by decide, by decide, 1, cl_RL_18, by rw [if_pos rfl]; exact xc_1⟩ (Or.inr ⟨_, dL_next_12, rfl, rfl⟩) (by decide) rfl ?_
      refine q_iconst (v := (1 : Int32)) C dL_next_13 (by decide) ?_
      cases h
      exact q_iretH C kf dL_next_14
    have h := ifF c9 h
    cases h
theorem k_L_next (l : Launch) (hl : l.stackTraces = false) (G : GG) (l0 : Nat) (l1 : Int32) (l2 : Nat) (M : Mem) (x : Int32 × Mem) (h : F_L_next l0 l1 l2 M = some x) : Ct l G yL_next (.codeWith yL_next cL_next 4 (some .int) [(0, 9, 12, 18)]) 15 335 [.ref l0, .int l1, .ref l2] M (rs_mI x) (ms_mI x) := by
  refine Ct_ofH (by decide +kernel) (Nat.le_of_ble_eq_true rfl) fun X e1 e2 e3 C FN => ?_
  subst e1; subst e2
  show wq X 4 0 [(0, .ref l0), (1, .int l1), (2, .ref l2)] [] M
  exact w_L_next C FN.2.2.2 hl l0 l1 l2 M h FN
/-! L_out -/
set_option maxRecDepth 100000 in
set_option maxHeartbeats 4000000 in
theorem w_L_out {X : CX} {y : Int32 × Mem} (C : CK X cL_out 4 RL 12 248) (hRO : RO X.2.2.1 X.1.2.2.2.2.1 X.1.2.2.2.2.1.heap) (hl : X.1.2.1.stackTraces = false) (l0 : Nat) (l1 : Int32) (l2 : Nat) (M : Mem) (h : F_L_out l0 l1 l2 M = some y) (kf : FINH X (some .int) (rs_mI y) (ms_mI y) [(0, 9, 12, 18)]) : wq X 4 0 [(0, .ref l0), (1, .int l1), (2, .ref l2)] [] M := by
  unfold F_L_out at h
  refine q_aload_n 2 C dL_out_0 rfl ?_
  refine q_iconst (v := (0 : Int32)) C dL_out_1 (by decide) ?_
  refine q_aload_n 0 C dL_out_2 rfl ?_
  refine q_iload_n 1 C dL_out_3 rfl ?_
  obtain ⟨e1, h⟩ := ckOE h
  rcases bdTE h with ⟨v4, M3, e2, h⟩ | ⟨x7, M8, e2, h⟩
  · refine q_callV (v := some (.int v4)) [.int l1] C hRO lk_RL_33 vk_X8_out e1 rfl rfl rfl (Nat.le_of_ble_eq_true rfl) (by decide) (by decide) dL_out_4 (k_X8_out X.1.2.1 hl X.2.2.1 l0 l1 M _ e2) ?_
    refine q_i2l C dL_out_7 ?_
    obtain ⟨M5, e6, h⟩ := bindE h
    refine q_lastore C e6 dL_out_8 ?_
    refine q_goto (tgt := 15) C dL_out_9 (by decide) ?_
    refine q_iconst (v := (0 : Int32)) C dL_out_15 (by decide) ?_
    cases h
    exact q_iretH C kf dL_out_16
  · skip
    by_cases c9 : x7 = 1
    · subst c9
      have h := ifT rfl h
      refine q_catch (e0 := 1) (j := 3) (len := 1) (lv' := [(0, .ref l0), (1, .int l1), (2, .ref l2)]) [.int l1] [] ⟨0, 9, 12, 18⟩ [] C hRO lk_RL_33 vk_X8_out e1 rfl rfl rfl (Nat.le_of_ble_eq_true rfl) (by decide) (by decide) dL_out_4 (k_X8_out X.1.2.1 hl X.2.2.1 l0 l1 M _ e2) kf.2.2.1 (fun z hz => nomatch hz) ⟨by decide, by decide, 1, cl_RL_18, by rw [if_pos rfl]; exact xc_1⟩ (Or.inr ⟨_, dL_out_12, rfl, rfl⟩) (by decide) rfl ?_
      refine q_iconst (v := (1 : Int32)) C dL_out_13 (by decide) ?_
      cases h
      exact q_iretH C kf dL_out_14
    have h := ifF c9 h
    cases h
theorem k_L_out (l : Launch) (hl : l.stackTraces = false) (G : GG) (l0 : Nat) (l1 : Int32) (l2 : Nat) (M : Mem) (x : Int32 × Mem) (h : F_L_out l0 l1 l2 M = some x) : Ct l G yL_out (.codeWith yL_out cL_out 4 (some .int) [(0, 9, 12, 18)]) 12 248 [.ref l0, .int l1, .ref l2] M (rs_mI x) (ms_mI x) := by
  refine Ct_ofH (by decide +kernel) (Nat.le_of_ble_eq_true rfl) fun X e1 e2 e3 C FN => ?_
  subst e1; subst e2
  show wq X 4 0 [(0, .ref l0), (1, .int l1), (2, .ref l2)] [] M
  exact w_L_out C FN.2.2.2 hl l0 l1 l2 M h FN
/-! L_paid -/
set_option maxRecDepth 100000 in
set_option maxHeartbeats 4000000 in
theorem w_L_paid {X : CX} {y : Int32 × Mem} (C : CK X cL_paid 4 RL 14 302) (hRO : RO X.2.2.1 X.1.2.2.2.2.1 X.1.2.2.2.2.1.heap) (hl : X.1.2.1.stackTraces = false) (l0 : Nat) (l1 : Int32) (l2 : Nat) (M : Mem) (h : F_L_paid l0 l1 l2 M = some y) (kf : FINH X (some .int) (rs_mI y) (ms_mI y) [(0, 9, 12, 13)]) : wq X 4 0 [(0, .ref l0), (1, .int l1), (2, .ref l2)] [] M := by
  unfold F_L_paid at h
  refine q_aload_n 2 C dL_paid_0 rfl ?_
  refine q_iconst (v := (0 : Int32)) C dL_paid_1 (by decide) ?_
  refine q_aload_n 0 C dL_paid_2 rfl ?_
  refine q_iload_n 1 C dL_paid_3 rfl ?_
  obtain ⟨e1, h⟩ := ckOE h
  rcases bdTE h with ⟨v4, M3, e2, h⟩ | ⟨x7, M8, e2, h⟩
  · refine q_callV (v := some (.int v4)) [.int l1] C hRO lk_RL_108 vk_X8_paid e1 rfl rfl rfl (Nat.le_of_ble_eq_true rfl) (by decide) (by decide) dL_paid_4 (k_X8_paid X.1.2.1 hl X.2.2.1 l0 l1 M _ e2) ?_
    refine q_i2l C dL_paid_7 ?_
    obtain ⟨M5, e6, h⟩ := bindE h
    refine q_lastore C e6 dL_paid_8 ?_
    refine q_goto (tgt := 15) C dL_paid_9 (by decide) ?_
    refine q_iconst (v := (0 : Int32)) C dL_paid_15 (by decide) ?_
    cases h
    exact q_iretH C kf dL_paid_16
  · skip
    by_cases c9 : x7 = 0
    · subst c9
      have h := ifT rfl h
      refine q_catch (e0 := 0) (j := 3) (len := 1) (lv' := [(0, .ref l0), (1, .int l1), (2, .ref l2)]) [.int l1] [] ⟨0, 9, 12, 13⟩ [] C hRO lk_RL_108 vk_X8_paid e1 rfl rfl rfl (Nat.le_of_ble_eq_true rfl) (by decide) (by decide) dL_paid_4 (k_X8_paid X.1.2.1 hl X.2.2.1 l0 l1 M _ e2) kf.2.2.1 (fun z hz => nomatch hz) ⟨by decide, by decide, 0, cl_RL_13, by rw [if_pos rfl]; exact xc_0⟩ (Or.inr ⟨_, dL_paid_12, rfl, rfl⟩) (by decide) rfl ?_
      refine q_iconst (v := (1 : Int32)) C dL_paid_13 (by decide) ?_
      cases h
      exact q_iretH C kf dL_paid_14
    have h := ifF c9 h
    cases h
theorem k_L_paid (l : Launch) (hl : l.stackTraces = false) (G : GG) (l0 : Nat) (l1 : Int32) (l2 : Nat) (M : Mem) (x : Int32 × Mem) (h : F_L_paid l0 l1 l2 M = some x) : Ct l G yL_paid (.codeWith yL_paid cL_paid 4 (some .int) [(0, 9, 12, 13)]) 14 302 [.ref l0, .int l1, .ref l2] M (rs_mI x) (ms_mI x) := by
  refine Ct_ofH (by decide +kernel) (Nat.le_of_ble_eq_true rfl) fun X e1 e2 e3 C FN => ?_
  subst e1; subst e2
  show wq X 4 0 [(0, .ref l0), (1, .int l1), (2, .ref l2)] [] M
  exact w_L_paid C FN.2.2.2 hl l0 l1 l2 M h FN
/-! L_person -/
set_option maxRecDepth 100000 in
set_option maxHeartbeats 4000000 in
theorem w_L_person {X : CX} {y : Int32 × Mem} (C : CK X cL_person 5 RL 10 206) (hRO : RO X.2.2.1 X.1.2.2.2.2.1 X.1.2.2.2.2.1.heap) (hl : X.1.2.1.stackTraces = false) (l0 : Nat) (l1 : Int32) (l2 : Int32) (l3 : Nat) (M : Mem) (h : F_L_person l0 l1 l2 l3 M = some y) (kf : FINH X (some .int) (rs_mI y) (ms_mI y) [(0, 10, 13, 18)]) : wq X 5 0 [(0, .ref l0), (1, .int l1), (2, .int l2), (3, .ref l3)] [] M := by
  unfold F_L_person at h
  refine q_aload_n 3 C dL_person_0 rfl ?_
  refine q_iconst (v := (0 : Int32)) C dL_person_1 (by decide) ?_
  refine q_aload_n 0 C dL_person_2 rfl ?_
  refine q_iload_n 1 C dL_person_3 rfl ?_
  refine q_iload_n 2 C dL_person_4 rfl ?_
  obtain ⟨e1, h⟩ := ckOE h
  rcases bdTE h with ⟨v4, M3, e2, h⟩ | ⟨x7, M8, e2, h⟩
  · refine q_callV (v := some (.int v4)) [.int l1, .int l2] C hRO lk_RL_24 vk_X8_person e1 rfl rfl rfl (Nat.le_of_ble_eq_true rfl) (by decide) (by decide) dL_person_5 (k_X8_person X.1.2.1 hl X.2.2.1 l0 l1 l2 M _ e2) ?_
    refine q_i2l C dL_person_8 ?_
    obtain ⟨M5, e6, h⟩ := bindE h
    refine q_lastore C e6 dL_person_9 ?_
    refine q_goto (tgt := 17) C dL_person_10 (by decide) ?_
    refine q_iconst (v := (0 : Int32)) C dL_person_17 (by decide) ?_
    cases h
    exact q_iretH C kf dL_person_18
  · skip
    by_cases c9 : x7 = 1
    · subst c9
      have h := ifT rfl h
      refine q_catch (e0 := 1) (j := 4) (len := 2) (lv' := [(0, .ref l0), (1, .int l1), (2, .int l2), (3, .ref l3)]) [.int l1, .int l2] [] ⟨0, 10, 13, 18⟩ [] C hRO lk_RL_24 vk_X8_person e1 rfl rfl rfl (Nat.le_of_ble_eq_true rfl) (by decide) (by decide) dL_person_5 (k_X8_person X.1.2.1 hl X.2.2.1 l0 l1 l2 M _ e2) kf.2.2.1 (fun z hz => nomatch hz) ⟨by decide, by decide, 1, cl_RL_18, by rw [if_pos rfl]; exact xc_1⟩ (Or.inl ⟨dL_person_13, rfl⟩) (by decide) rfl ?_
      refine q_iconst (v := (1 : Int32)) C dL_person_15 (by decide) ?_
      cases h
      exact q_iretH C kf dL_person_16
    have h := ifF c9 h
    cases h
theorem k_L_person (l : Launch) (hl : l.stackTraces = false) (G : GG) (l0 : Nat) (l1 : Int32) (l2 : Int32) (l3 : Nat) (M : Mem) (x : Int32 × Mem) (h : F_L_person l0 l1 l2 l3 M = some x) : Ct l G yL_person (.codeWith yL_person cL_person 5 (some .int) [(0, 10, 13, 18)]) 10 206 [.ref l0, .int l1, .int l2, .ref l3] M (rs_mI x) (ms_mI x) := by
  refine Ct_ofH (by decide +kernel) (Nat.le_of_ble_eq_true rfl) fun X e1 e2 e3 C FN => ?_
  subst e1; subst e2
  show wq X 5 0 [(0, .ref l0), (1, .int l1), (2, .int l2), (3, .ref l3)] [] M
  exact w_L_person C FN.2.2.2 hl l0 l1 l2 l3 M h FN
/-! L_putIn -/
set_option maxRecDepth 100000 in
set_option maxHeartbeats 4000000 in
theorem w_L_putIn {X : CX} {y : Int32 × Mem} (C : CK X cL_putIn 5 RL 13 280) (hRO : RO X.2.2.1 X.1.2.2.2.2.1 X.1.2.2.2.2.1.heap) (hl : X.1.2.1.stackTraces = false) (l0 : Nat) (l1 : Int32) (l2 : Int32) (l3 : Nat) (M : Mem) (h : F_L_putIn l0 l1 l2 l3 M = some y) (kf : FINH X (some .int) (rs_mI y) (ms_mI y) [(0, 10, 13, 18)]) : wq X 5 0 [(0, .ref l0), (1, .int l1), (2, .int l2), (3, .ref l3)] [] M := by
  unfold F_L_putIn at h
  refine q_aload_n 3 C dL_putIn_0 rfl ?_
  refine q_iconst (v := (0 : Int32)) C dL_putIn_1 (by decide) ?_
  refine q_aload_n 0 C dL_putIn_2 rfl ?_
  refine q_iload_n 1 C dL_putIn_3 rfl ?_
  refine q_iload_n 2 C dL_putIn_4 rfl ?_
  obtain ⟨e1, h⟩ := ckOE h
  rcases bdTE h with ⟨v4, M3, e2, h⟩ | ⟨x7, M8, e2, h⟩
  · refine q_callV (v := some (.int v4)) [.int l1, .int l2] C hRO lk_RL_30 vk_X8_putIn e1 rfl rfl rfl (Nat.le_of_ble_eq_true rfl) (by decide) (by decide) dL_putIn_5 (k_X8_putIn X.1.2.1 hl X.2.2.1 l0 l1 l2 M _ e2) ?_
    refine q_i2l C dL_putIn_8 ?_
    obtain ⟨M5, e6, h⟩ := bindE h
    refine q_lastore C e6 dL_putIn_9 ?_
    refine q_goto (tgt := 17) C dL_putIn_10 (by decide) ?_
    refine q_iconst (v := (0 : Int32)) C dL_putIn_17 (by decide) ?_
    cases h
    exact q_iretH C kf dL_putIn_18
  · skip
    by_cases c9 : x7 = 1
    · subst c9
      have h := ifT rfl h
      refine q_catch (e0 := 1) (j := 4) (len := 2) (lv' := [(0, .ref l0), (1, .int l1), (2, .int l2), (3, .ref l3)]) [.int l1, .int l2] [] ⟨0, 10, 13, 18⟩ [] C hRO lk_RL_30 vk_X8_putIn e1 rfl rfl rfl (Nat.le_of_ble_eq_true rfl) (by decide) (by decide) dL_putIn_5 (k_X8_putIn X.1.2.1 hl X.2.2.1 l0 l1 l2 M _ e2) kf.2.2.1 (fun z hz => nomatch hz) ⟨by decide, by decide, 1, cl_RL_18, by rw [if_pos rfl]; exact xc_1⟩ (Or.inl ⟨dL_putIn_13, rfl⟩) (by decide) rfl ?_
      refine q_iconst (v := (1 : Int32)) C dL_putIn_15 (by decide) ?_
      cases h
      exact q_iretH C kf dL_putIn_16
    have h := ifF c9 h
    cases h
theorem k_L_putIn (l : Launch) (hl : l.stackTraces = false) (G : GG) (l0 : Nat) (l1 : Int32) (l2 : Int32) (l3 : Nat) (M : Mem) (x : Int32 × Mem) (h : F_L_putIn l0 l1 l2 l3 M = some x) : Ct l G yL_putIn (.codeWith yL_putIn cL_putIn 5 (some .int) [(0, 10, 13, 18)]) 13 280 [.ref l0, .int l1, .int l2, .ref l3] M (rs_mI x) (ms_mI x) := by
  refine Ct_ofH (by decide +kernel) (Nat.le_of_ble_eq_true rfl) fun X e1 e2 e3 C FN => ?_
  subst e1; subst e2
  show wq X 5 0 [(0, .ref l0), (1, .int l1), (2, .int l2), (3, .ref l3)] [] M
  exact w_L_putIn C FN.2.2.2 hl l0 l1 l2 l3 M h FN
/-! L_ringed -/
set_option maxRecDepth 100000 in
set_option maxHeartbeats 4000000 in
theorem w_L_ringed {X : CX} {y : Int32 × Mem} (C : CK X cL_ringed 4 RL 11 237) (hRO : RO X.2.2.1 X.1.2.2.2.2.1 X.1.2.2.2.2.1.heap) (hl : X.1.2.1.stackTraces = false) (l0 : Nat) (l1 : Int32) (l2 : Nat) (M : Mem) (h : F_L_ringed l0 l1 l2 M = some y) (kf : FINH X (some .int) (rs_mI y) (ms_mI y) [(0, 9, 12, 18)]) : wq X 4 0 [(0, .ref l0), (1, .int l1), (2, .ref l2)] [] M := by
  unfold F_L_ringed at h
  refine q_aload_n 2 C dL_ringed_0 rfl ?_
  refine q_iconst (v := (0 : Int32)) C dL_ringed_1 (by decide) ?_
  refine q_aload_n 0 C dL_ringed_2 rfl ?_
  refine q_iload_n 1 C dL_ringed_3 rfl ?_
  obtain ⟨e1, h⟩ := ckOE h
  rcases bdTE h with ⟨v4, M3, e2, h⟩ | ⟨x7, M8, e2, h⟩
  · refine q_callV (v := some (.int v4)) [.int l1] C hRO lk_RL_138 vk_X8_ringed e1 rfl rfl rfl (Nat.le_of_ble_eq_true rfl) (by decide) (by decide) dL_ringed_4 (k_X8_ringed X.1.2.1 hl X.2.2.1 l0 l1 M _ e2) ?_
    refine q_i2l C dL_ringed_7 ?_
    obtain ⟨M5, e6, h⟩ := bindE h
    refine q_lastore C e6 dL_ringed_8 ?_
    refine q_goto (tgt := 15) C dL_ringed_9 (by decide) ?_
    refine q_iconst (v := (0 : Int32)) C dL_ringed_15 (by decide) ?_
    cases h
    exact q_iretH C kf dL_ringed_16
  · skip
    by_cases c9 : x7 = 1
    · subst c9
      have h := ifT rfl h
      refine q_catch (e0 := 1) (j := 3) (len := 1) (lv' := [(0, .ref l0), (1, .int l1), (2, .ref l2)]) [.int l1] [] ⟨0, 9, 12, 18⟩ [] C hRO lk_RL_138 vk_X8_ringed e1 rfl rfl rfl (Nat.le_of_ble_eq_true rfl) (by decide) (by decide) dL_ringed_4 (k_X8_ringed X.1.2.1 hl X.2.2.1 l0 l1 M _ e2) kf.2.2.1 (fun z hz => nomatch hz) ⟨by decide, by decide, 1, cl_RL_18, by rw [if_pos rfl]; exact xc_1⟩ (Or.inr ⟨_, dL_ringed_12, rfl, rfl⟩) (by decide) rfl ?_
      refine q_iconst (v := (1 : Int32)) C dL_ringed_13 (by decide) ?_
      cases h
      exact q_iretH C kf dL_ringed_14
    have h := ifF c9 h
    cases h
theorem k_L_ringed (l : Launch) (hl : l.stackTraces = false) (G : GG) (l0 : Nat) (l1 : Int32) (l2 : Nat) (M : Mem) (x : Int32 × Mem) (h : F_L_ringed l0 l1 l2 M = some x) : Ct l G yL_ringed (.codeWith yL_ringed cL_ringed 4 (some .int) [(0, 9, 12, 18)]) 11 237 [.ref l0, .int l1, .ref l2] M (rs_mI x) (ms_mI x) := by
  refine Ct_ofH (by decide +kernel) (Nat.le_of_ble_eq_true rfl) fun X e1 e2 e3 C FN => ?_
  subst e1; subst e2
  show wq X 4 0 [(0, .ref l0), (1, .int l1), (2, .ref l2)] [] M
  exact w_L_ringed C FN.2.2.2 hl l0 l1 l2 M h FN
/-! L_round -/
set_option maxRecDepth 100000 in
set_option maxHeartbeats 4000000 in
theorem w_L_round {X : CX} {y : Int32 × Mem} (C : CK X cL_round 4 RL 9 188) (hRO : RO X.2.2.1 X.1.2.2.2.2.1 X.1.2.2.2.2.1.heap) (hl : X.1.2.1.stackTraces = false) (l0 : Nat) (l1 : Int32) (l2 : Nat) (M : Mem) (h : F_L_round l0 l1 l2 M = some y) (kf : FINH X (some .int) (rs_mI y) (ms_mI y) [(0, 9, 12, 13)]) : wq X 4 0 [(0, .ref l0), (1, .int l1), (2, .ref l2)] [] M := by
  unfold F_L_round at h
  refine q_aload_n 2 C dL_round_0 rfl ?_
  refine q_iconst (v := (0 : Int32)) C dL_round_1 (by decide) ?_
  refine q_aload_n 0 C dL_round_2 rfl ?_
  refine q_iload_n 1 C dL_round_3 rfl ?_
  obtain ⟨e1, h⟩ := ckOE h
  rcases bdTE h with ⟨v4, M3, e2, h⟩ | ⟨x7, M8, e2, h⟩
  · refine q_callV (v := some (.int v4)) [.int l1] C hRO lk_RL_80 vk_X8_round e1 rfl rfl rfl (Nat.le_of_ble_eq_true rfl) (by decide) (by decide) dL_round_4 (k_X8_round X.1.2.1 hl X.2.2.1 l0 l1 M _ e2) ?_
    refine q_i2l C dL_round_7 ?_
    obtain ⟨M5, e6, h⟩ := bindE h
    refine q_lastore C e6 dL_round_8 ?_
    refine q_goto (tgt := 15) C dL_round_9 (by decide) ?_
    refine q_iconst (v := (0 : Int32)) C dL_round_15 (by decide) ?_
    cases h
    exact q_iretH C kf dL_round_16
  · skip
    by_cases c9 : x7 = 0
    · subst c9
      have h := ifT rfl h
      refine q_catch (e0 := 0) (j := 3) (len := 1) (lv' := [(0, .ref l0), (1, .int l1), (2, .ref l2)]) [.int l1] [] ⟨0, 9, 12, 13⟩ [] C hRO lk_RL_80 vk_X8_round e1 rfl rfl rfl (Nat.le_of_ble_eq_true rfl) (by decide) (by decide) dL_round_4 (k_X8_round X.1.2.1 hl X.2.2.1 l0 l1 M _ e2) kf.2.2.1 (fun z hz => nomatch hz) ⟨by decide, by decide, 0, cl_RL_13, by rw [if_pos rfl]; exact xc_0⟩ (Or.inr ⟨_, dL_round_12, rfl, rfl⟩) (by decide) rfl ?_
      refine q_iconst (v := (1 : Int32)) C dL_round_13 (by decide) ?_
      cases h
      exact q_iretH C kf dL_round_14
    have h := ifF c9 h
    cases h
theorem k_L_round (l : Launch) (hl : l.stackTraces = false) (G : GG) (l0 : Nat) (l1 : Int32) (l2 : Nat) (M : Mem) (x : Int32 × Mem) (h : F_L_round l0 l1 l2 M = some x) : Ct l G yL_round (.codeWith yL_round cL_round 4 (some .int) [(0, 9, 12, 13)]) 9 188 [.ref l0, .int l1, .ref l2] M (rs_mI x) (ms_mI x) := by
  refine Ct_ofH (by decide +kernel) (Nat.le_of_ble_eq_true rfl) fun X e1 e2 e3 C FN => ?_
  subst e1; subst e2
  show wq X 4 0 [(0, .ref l0), (1, .int l1), (2, .ref l2)] [] M
  exact w_L_round C FN.2.2.2 hl l0 l1 l2 M h FN
/-! L_see -/
set_option maxRecDepth 100000 in
set_option maxHeartbeats 4000000 in
theorem w_L_see {X : CX} {y : Int32 × Mem} (C : CK X cL_see 6 RL 9 187) (hRO : RO X.2.2.1 X.1.2.2.2.2.1 X.1.2.2.2.2.1.heap) (hl : X.1.2.1.stackTraces = false) (l0 : Nat) (l1 : Int32) (l2 : Int32) (l3 : Int32) (l4 : Nat) (M : Mem) (h : F_L_see l0 l1 l2 l3 l4 M = some y) (kf : FINH X (some .int) (rs_mI y) (ms_mI y) [(0, 12, 15, 18)]) : wq X 6 0 [(0, .ref l0), (1, .int l1), (2, .int l2), (3, .int l3), (4, .ref l4)] [] M := by
  unfold F_L_see at h
  refine q_aload 4 C dL_see_0 rfl ?_
  refine q_iconst (v := (0 : Int32)) C dL_see_2 (by decide) ?_
  refine q_aload_n 0 C dL_see_3 rfl ?_
  refine q_iload_n 1 C dL_see_4 rfl ?_
  refine q_iload_n 2 C dL_see_5 rfl ?_
  refine q_iload_n 3 C dL_see_6 rfl ?_
  obtain ⟨e1, h⟩ := ckOE h
  rcases bdTE h with ⟨v4, M3, e2, h⟩ | ⟨x7, M8, e2, h⟩
  · refine q_callV (v := some (.int v4)) [.int l1, .int l2, .int l3] C hRO lk_RL_83 vk_X8_see e1 rfl rfl rfl (Nat.le_of_ble_eq_true rfl) (by decide) (by decide) dL_see_7 (k_X8_see X.1.2.1 hl X.2.2.1 l0 l1 l2 l3 M _ e2) ?_
    refine q_i2l C dL_see_10 ?_
    obtain ⟨M5, e6, h⟩ := bindE h
    refine q_lastore C e6 dL_see_11 ?_
    refine q_goto (tgt := 19) C dL_see_12 (by decide) ?_
    refine q_iconst (v := (0 : Int32)) C dL_see_19 (by decide) ?_
    cases h
    exact q_iretH C kf dL_see_20
  · skip
    by_cases c9 : x7 = 1
    · subst c9
      have h := ifT rfl h
      refine q_catch (e0 := 1) (j := 5) (len := 2) (lv' := [(0, .ref l0), (1, .int l1), (2, .int l2), (3, .int l3), (4, .ref l4)]) [.int l1, .int l2, .int l3] [] ⟨0, 12, 15, 18⟩ [] C hRO lk_RL_83 vk_X8_see e1 rfl rfl rfl (Nat.le_of_ble_eq_true rfl) (by decide) (by decide) dL_see_7 (k_X8_see X.1.2.1 hl X.2.2.1 l0 l1 l2 l3 M _ e2) kf.2.2.1 (fun z hz => nomatch hz) ⟨by decide, by decide, 1, cl_RL_18, by rw [if_pos rfl]; exact xc_1⟩ (Or.inl ⟨dL_see_15, rfl⟩) (by decide) rfl ?_
      refine q_iconst (v := (1 : Int32)) C dL_see_17 (by decide) ?_
      cases h
      exact q_iretH C kf dL_see_18
    have h := ifF c9 h
    cases h
theorem k_L_see (l : Launch) (hl : l.stackTraces = false) (G : GG) (l0 : Nat) (l1 : Int32) (l2 : Int32) (l3 : Int32) (l4 : Nat) (M : Mem) (x : Int32 × Mem) (h : F_L_see l0 l1 l2 l3 l4 M = some x) : Ct l G yL_see (.codeWith yL_see cL_see 6 (some .int) [(0, 12, 15, 18)]) 9 187 [.ref l0, .int l1, .int l2, .int l3, .ref l4] M (rs_mI x) (ms_mI x) := by
  refine Ct_ofH (by decide +kernel) (Nat.le_of_ble_eq_true rfl) fun X e1 e2 e3 C FN => ?_
  subst e1; subst e2
  show wq X 6 0 [(0, .ref l0), (1, .int l1), (2, .int l2), (3, .int l3), (4, .ref l4)] [] M
  exact w_L_see C FN.2.2.2 hl l0 l1 l2 l3 l4 M h FN
/-! L_sorest -/
set_option maxRecDepth 100000 in
set_option maxHeartbeats 4000000 in
theorem w_L_sorest {X : CX} {y : Int32 × Mem} (C : CK X cL_sorest 4 RL 14 302) (hRO : RO X.2.2.1 X.1.2.2.2.2.1 X.1.2.2.2.2.1.heap) (hl : X.1.2.1.stackTraces = false) (l0 : Nat) (l1 : Int32) (l2 : Nat) (M : Mem) (h : F_L_sorest l0 l1 l2 M = some y) (kf : FINH X (some .int) (rs_mI y) (ms_mI y) [(0, 9, 12, 13)]) : wq X 4 0 [(0, .ref l0), (1, .int l1), (2, .ref l2)] [] M := by
  unfold F_L_sorest at h
  refine q_aload_n 2 C dL_sorest_0 rfl ?_
  refine q_iconst (v := (0 : Int32)) C dL_sorest_1 (by decide) ?_
  refine q_aload_n 0 C dL_sorest_2 rfl ?_
  refine q_iload_n 1 C dL_sorest_3 rfl ?_
  obtain ⟨e1, h⟩ := ckOE h
  rcases bdTE h with ⟨v4, M3, e2, h⟩ | ⟨x7, M8, e2, h⟩
  · refine q_callV (v := some (.int v4)) [.int l1] C hRO lk_RL_120 vk_X8_sorest e1 rfl rfl rfl (Nat.le_of_ble_eq_true rfl) (by decide) (by decide) dL_sorest_4 (k_X8_sorest X.1.2.1 hl X.2.2.1 l0 l1 M _ e2) ?_
    refine q_i2l C dL_sorest_7 ?_
    obtain ⟨M5, e6, h⟩ := bindE h
    refine q_lastore C e6 dL_sorest_8 ?_
    refine q_goto (tgt := 15) C dL_sorest_9 (by decide) ?_
    refine q_iconst (v := (0 : Int32)) C dL_sorest_15 (by decide) ?_
    cases h
    exact q_iretH C kf dL_sorest_16
  · skip
    by_cases c9 : x7 = 0
    · subst c9
      have h := ifT rfl h
      refine q_catch (e0 := 0) (j := 3) (len := 1) (lv' := [(0, .ref l0), (1, .int l1), (2, .ref l2)]) [.int l1] [] ⟨0, 9, 12, 13⟩ [] C hRO lk_RL_120 vk_X8_sorest e1 rfl rfl rfl (Nat.le_of_ble_eq_true rfl) (by decide) (by decide) dL_sorest_4 (k_X8_sorest X.1.2.1 hl X.2.2.1 l0 l1 M _ e2) kf.2.2.1 (fun z hz => nomatch hz) ⟨by decide, by decide, 0, cl_RL_13, by rw [if_pos rfl]; exact xc_0⟩ (Or.inr ⟨_, dL_sorest_12, rfl, rfl⟩) (by decide) rfl ?_
      refine q_iconst (v := (1 : Int32)) C dL_sorest_13 (by decide) ?_
      cases h
      exact q_iretH C kf dL_sorest_14
    have h := ifF c9 h
    cases h
theorem k_L_sorest (l : Launch) (hl : l.stackTraces = false) (G : GG) (l0 : Nat) (l1 : Int32) (l2 : Nat) (M : Mem) (x : Int32 × Mem) (h : F_L_sorest l0 l1 l2 M = some x) : Ct l G yL_sorest (.codeWith yL_sorest cL_sorest 4 (some .int) [(0, 9, 12, 13)]) 14 302 [.ref l0, .int l1, .ref l2] M (rs_mI x) (ms_mI x) := by
  refine Ct_ofH (by decide +kernel) (Nat.le_of_ble_eq_true rfl) fun X e1 e2 e3 C FN => ?_
  subst e1; subst e2
  show wq X 4 0 [(0, .ref l0), (1, .int l1), (2, .ref l2)] [] M
  exact w_L_sorest C FN.2.2.2 hl l0 l1 l2 M h FN
/-! L_stuff -/
set_option maxRecDepth 100000 in
set_option maxHeartbeats 4000000 in
theorem w_L_stuff {X : CX} {y : Int32 × Mem} (C : CK X cL_stuff 5 RL 12 248) (hRO : RO X.2.2.1 X.1.2.2.2.2.1 X.1.2.2.2.2.1.heap) (hl : X.1.2.1.stackTraces = false) (l0 : Nat) (l1 : Int32) (l2 : Int32) (l3 : Nat) (M : Mem) (h : F_L_stuff l0 l1 l2 l3 M = some y) (kf : FINH X (some .int) (rs_mI y) (ms_mI y) [(0, 10, 13, 18)]) : wq X 5 0 [(0, .ref l0), (1, .int l1), (2, .int l2), (3, .ref l3)] [] M := by
  unfold F_L_stuff at h
  refine q_aload_n 3 C dL_stuff_0 rfl ?_
  refine q_iconst (v := (0 : Int32)) C dL_stuff_1 (by decide) ?_
  refine q_aload_n 0 C dL_stuff_2 rfl ?_
  refine q_iload_n 1 C dL_stuff_3 rfl ?_
  refine q_iload_n 2 C dL_stuff_4 rfl ?_
  obtain ⟨e1, h⟩ := ckOE h
  rcases bdTE h with ⟨v4, M3, e2, h⟩ | ⟨x7, M8, e2, h⟩
  · refine q_callV (v := some (.int v4)) [.int l1, .int l2] C hRO lk_RL_36 vk_X8_stuff e1 rfl rfl rfl (Nat.le_of_ble_eq_true rfl) (by decide) (by decide) dL_stuff_5 (k_X8_stuff X.1.2.1 hl X.2.2.1 l0 l1 l2 M _ e2) ?_
    refine q_i2l C dL_stuff_8 ?_
    obtain ⟨M5, e6, h⟩ := bindE h
    refine q_lastore C e6 dL_stuff_9 ?_
    refine q_goto (tgt := 17) C dL_stuff_10 (by decide) ?_
    refine q_iconst (v := (0 : Int32)) C dL_stuff_17 (by decide) ?_
    cases h
    exact q_iretH C kf dL_stuff_18
  · skip
    by_cases c9 : x7 = 1
    · subst c9
      have h := ifT rfl h
      refine q_catch (e0 := 1) (j := 4) (len := 2) (lv' := [(0, .ref l0), (1, .int l1), (2, .int l2), (3, .ref l3)]) [.int l1, .int l2] [] ⟨0, 10, 13, 18⟩ [] C hRO lk_RL_36 vk_X8_stuff e1 rfl rfl rfl (Nat.le_of_ble_eq_true rfl) (by decide) (by decide) dL_stuff_5 (k_X8_stuff X.1.2.1 hl X.2.2.1 l0 l1 l2 M _ e2) kf.2.2.1 (fun z hz => nomatch hz) ⟨by decide, by decide, 1, cl_RL_18, by rw [if_pos rfl]; exact xc_1⟩ (Or.inl ⟨dL_stuff_13, rfl⟩) (by decide) rfl ?_
      refine q_iconst (v := (1 : Int32)) C dL_stuff_15 (by decide) ?_
      cases h
      exact q_iretH C kf dL_stuff_16
    have h := ifF c9 h
    cases h
theorem k_L_stuff (l : Launch) (hl : l.stackTraces = false) (G : GG) (l0 : Nat) (l1 : Int32) (l2 : Int32) (l3 : Nat) (M : Mem) (x : Int32 × Mem) (h : F_L_stuff l0 l1 l2 l3 M = some x) : Ct l G yL_stuff (.codeWith yL_stuff cL_stuff 5 (some .int) [(0, 10, 13, 18)]) 12 248 [.ref l0, .int l1, .int l2, .ref l3] M (rs_mI x) (ms_mI x) := by
  refine Ct_ofH (by decide +kernel) (Nat.le_of_ble_eq_true rfl) fun X e1 e2 e3 C FN => ?_
  subst e1; subst e2
  show wq X 5 0 [(0, .ref l0), (1, .int l1), (2, .int l2), (3, .ref l3)] [] M
  exact w_L_stuff C FN.2.2.2 hl l0 l1 l2 l3 M h FN
/-! L_then -/
set_option maxRecDepth 100000 in
set_option maxHeartbeats 4000000 in
theorem w_L_then {X : CX} {y : Int32 × Mem} (C : CK X cL_then 6 RL 14 305) (hRO : RO X.2.2.1 X.1.2.2.2.2.1 X.1.2.2.2.2.1.heap) (hl : X.1.2.1.stackTraces = false) (l0 : Nat) (l1 : Int32) (l2 : Int32) (l3 : Int32) (l4 : Nat) (M : Mem) (h : F_L_then l0 l1 l2 l3 l4 M = some y) (kf : FINH X (some .int) (rs_mI y) (ms_mI y) [(0, 12, 15, 18), (0, 12, 19, 13)]) : wq X 6 0 [(0, .ref l0), (1, .int l1), (2, .int l2), (3, .int l3), (4, .ref l4)] [] M := by
  unfold F_L_then at h
  refine q_aload 4 C dL_then_0 rfl ?_
  refine q_iconst (v := (0 : Int32)) C dL_then_2 (by decide) ?_
  refine q_aload_n 0 C dL_then_3 rfl ?_
  refine q_iload_n 1 C dL_then_4 rfl ?_
  refine q_iload_n 2 C dL_then_5 rfl ?_
  refine q_iload_n 3 C dL_then_6 rfl ?_
  obtain ⟨e1, h⟩ := ckOE h
  rcases bdTE h with ⟨v4, M3, e2, h⟩ | ⟨x7, M8, e2, h⟩
  · refine q_callV (v := some (.int v4)) [.int l1, .int l2, .int l3] C hRO lk_RL_43 vk_X8_then e1 rfl rfl rfl (Nat.le_of_ble_eq_true rfl) (by decide) (by decide) dL_then_7 (k_X8_then X.1.2.1 hl X.2.2.1 l0 l1 l2 l3 M _ e2) ?_
    refine q_i2l C dL_then_10 ?_
    obtain ⟨M5, e6, h⟩ := bindE h
    refine q_lastore C e6 dL_then_11 ?_
    refine q_goto (tgt := 23) C dL_then_12 (by decide) ?_
    refine q_iconst (v := (0 : Int32)) C dL_then_23 (by decide) ?_
    cases h
    exact q_iretH C kf dL_then_24
  · skip
    by_cases c9 : x7 = 1
    · subst c9
      have h := ifT rfl h
      refine q_catch (e0 := 1) (j := 5) (len := 2) (lv' := [(0, .ref l0), (1, .int l1), (2, .int l2), (3, .int l3), (4, .ref l4)]) [.int l1, .int l2, .int l3] [] ⟨0, 12, 15, 18⟩ [⟨0, 12, 19, 13⟩] C hRO lk_RL_43 vk_X8_then e1 rfl rfl rfl (Nat.le_of_ble_eq_true rfl) (by decide) (by decide) dL_then_7 (k_X8_then X.1.2.1 hl X.2.2.1 l0 l1 l2 l3 M _ e2) kf.2.2.1 (fun z hz => nomatch hz) ⟨by decide, by decide, 1, cl_RL_18, by rw [if_pos rfl]; exact xc_1⟩ (Or.inl ⟨dL_then_15, rfl⟩) (by decide) rfl ?_
      refine q_iconst (v := (1 : Int32)) C dL_then_17 (by decide) ?_
      cases h
      exact q_iretH C kf dL_then_18
    have h := ifF c9 h
    by_cases c10 : x7 = 0
    · subst c10
      have h := ifT rfl h
      refine q_catch (e0 := 0) (j := 5) (len := 2) (lv' := [(0, .ref l0), (1, .int l1), (2, .int l2), (3, .int l3), (4, .ref l4)]) [.int l1, .int l2, .int l3] [⟨0, 12, 15, 18⟩] ⟨0, 12, 19, 13⟩ [] C hRO lk_RL_43 vk_X8_then e1 rfl rfl rfl (Nat.le_of_ble_eq_true rfl) (by decide) (by decide) dL_then_7 (k_X8_then X.1.2.1 hl X.2.2.1 l0 l1 l2 l3 M _ e2) kf.2.2.1 (fun z hz => by rw [List.mem_singleton.mp hz]; exact ⟨by decide, by decide, 1, cl_RL_18, by rw [if_neg (by decide)]; exact ⟨rfl, rfl⟩⟩) ⟨by decide, by decide, 0, cl_RL_13, by rw [if_pos rfl]; exact xc_0⟩ (Or.inl ⟨dL_then_19, rfl⟩) (by decide) rfl ?_
      refine q_iconst (v := (2 : Int32)) C dL_then_21 (by decide) ?_
      cases h
      exact q_iretH C kf dL_then_22
    have h := ifF c10 h
    cases h
theorem k_L_then (l : Launch) (hl : l.stackTraces = false) (G : GG) (l0 : Nat) (l1 : Int32) (l2 : Int32) (l3 : Int32) (l4 : Nat) (M : Mem) (x : Int32 × Mem) (h : F_L_then l0 l1 l2 l3 l4 M = some x) : Ct l G yL_then (.codeWith yL_then cL_then 6 (some .int) [(0, 12, 15, 18), (0, 12, 19, 13)]) 14 305 [.ref l0, .int l1, .int l2, .int l3, .ref l4] M (rs_mI x) (ms_mI x) := by
  refine Ct_ofH (by decide +kernel) (Nat.le_of_ble_eq_true rfl) fun X e1 e2 e3 C FN => ?_
  subst e1; subst e2
  show wq X 6 0 [(0, .ref l0), (1, .int l1), (2, .int l2), (3, .int l3), (4, .ref l4)] [] M
  exact w_L_then C FN.2.2.2 hl l0 l1 l2 l3 l4 M h FN
/-! L_toGrow -/
set_option maxRecDepth 100000 in
set_option maxHeartbeats 4000000 in
theorem w_L_toGrow {X : CX} {y : Int32 × Mem} (C : CK X cL_toGrow 5 RL 9 185) (hRO : RO X.2.2.1 X.1.2.2.2.2.1 X.1.2.2.2.2.1.heap) (hl : X.1.2.1.stackTraces = false) (l0 : Nat) (l1 : Int32) (l2 : Int32) (l3 : Nat) (M : Mem) (h : F_L_toGrow l0 l1 l2 l3 M = some y) (kf : FINH X (some .int) (rs_mI y) (ms_mI y) [(0, 10, 13, 18)]) : wq X 5 0 [(0, .ref l0), (1, .int l1), (2, .int l2), (3, .ref l3)] [] M := by
  unfold F_L_toGrow at h
  refine q_aload_n 3 C dL_toGrow_0 rfl ?_
  refine q_iconst (v := (0 : Int32)) C dL_toGrow_1 (by decide) ?_
  refine q_aload_n 0 C dL_toGrow_2 rfl ?_
  refine q_iload_n 1 C dL_toGrow_3 rfl ?_
  refine q_iload_n 2 C dL_toGrow_4 rfl ?_
  obtain ⟨e1, h⟩ := ckOE h
  rcases bdTE h with ⟨v4, M3, e2, h⟩ | ⟨x7, M8, e2, h⟩
  · refine q_callV (v := some (.int v4)) [.int l1, .int l2] C hRO lk_RL_105 vk_X8_toGrow e1 rfl rfl rfl (Nat.le_of_ble_eq_true rfl) (by decide) (by decide) dL_toGrow_5 (k_X8_toGrow X.1.2.1 hl X.2.2.1 l0 l1 l2 M _ e2) ?_
    refine q_i2l C dL_toGrow_8 ?_
    obtain ⟨M5, e6, h⟩ := bindE h
    refine q_lastore C e6 dL_toGrow_9 ?_
    refine q_goto (tgt := 17) C dL_toGrow_10 (by decide) ?_
    refine q_iconst (v := (0 : Int32)) C dL_toGrow_17 (by decide) ?_
    cases h
    exact q_iretH C kf dL_toGrow_18
  · skip
    by_cases c9 : x7 = 1
    · subst c9
      have h := ifT rfl h
      refine q_catch (e0 := 1) (j := 4) (len := 2) (lv' := [(0, .ref l0), (1, .int l1), (2, .int l2), (3, .ref l3)]) [.int l1, .int l2] [] ⟨0, 10, 13, 18⟩ [] C hRO lk_RL_105 vk_X8_toGrow e1 rfl rfl rfl (Nat.le_of_ble_eq_true rfl) (by decide) (by decide) dL_toGrow_5 (k_X8_toGrow X.1.2.1 hl X.2.2.1 l0 l1 l2 M _ e2) kf.2.2.1 (fun z hz => nomatch hz) ⟨by decide, by decide, 1, cl_RL_18, by rw [if_pos rfl]; exact xc_1⟩ (Or.inl ⟨dL_toGrow_13, rfl⟩) (by decide) rfl ?_
      refine q_iconst (v := (1 : Int32)) C dL_toGrow_15 (by decide) ?_
      cases h
      exact q_iretH C kf dL_toGrow_16
    have h := ifF c9 h
    cases h
theorem k_L_toGrow (l : Launch) (hl : l.stackTraces = false) (G : GG) (l0 : Nat) (l1 : Int32) (l2 : Int32) (l3 : Nat) (M : Mem) (x : Int32 × Mem) (h : F_L_toGrow l0 l1 l2 l3 M = some x) : Ct l G yL_toGrow (.codeWith yL_toGrow cL_toGrow 5 (some .int) [(0, 10, 13, 18)]) 9 185 [.ref l0, .int l1, .int l2, .ref l3] M (rs_mI x) (ms_mI x) := by
  refine Ct_ofH (by decide +kernel) (Nat.le_of_ble_eq_true rfl) fun X e1 e2 e3 C FN => ?_
  subst e1; subst e2
  show wq X 5 0 [(0, .ref l0), (1, .int l1), (2, .int l2), (3, .ref l3)] [] M
  exact w_L_toGrow C FN.2.2.2 hl l0 l1 l2 l3 M h FN
/-! L_toStuff -/
set_option maxRecDepth 100000 in
set_option maxHeartbeats 4000000 in
theorem w_L_toStuff {X : CX} {y : Int32 × Mem} (C : CK X cL_toStuff 5 RL 9 184) (hRO : RO X.2.2.1 X.1.2.2.2.2.1 X.1.2.2.2.2.1.heap) (hl : X.1.2.1.stackTraces = false) (l0 : Nat) (l1 : Int32) (l2 : Int32) (l3 : Nat) (M : Mem) (h : F_L_toStuff l0 l1 l2 l3 M = some y) (kf : FINH X (some .int) (rs_mI y) (ms_mI y) [(0, 10, 13, 18)]) : wq X 5 0 [(0, .ref l0), (1, .int l1), (2, .int l2), (3, .ref l3)] [] M := by
  unfold F_L_toStuff at h
  refine q_aload_n 3 C dL_toStuff_0 rfl ?_
  refine q_iconst (v := (0 : Int32)) C dL_toStuff_1 (by decide) ?_
  refine q_aload_n 0 C dL_toStuff_2 rfl ?_
  refine q_iload_n 1 C dL_toStuff_3 rfl ?_
  refine q_iload_n 2 C dL_toStuff_4 rfl ?_
  obtain ⟨e1, h⟩ := ckOE h
  rcases bdTE h with ⟨v4, M3, e2, h⟩ | ⟨x7, M8, e2, h⟩
  · refine q_callV (v := some (.int v4)) [.int l1, .int l2] C hRO lk_RL_74 vk_X8_toStuff e1 rfl rfl rfl (Nat.le_of_ble_eq_true rfl) (by decide) (by decide) dL_toStuff_5 (k_X8_toStuff X.1.2.1 hl X.2.2.1 l0 l1 l2 M _ e2) ?_
    refine q_i2l C dL_toStuff_8 ?_
    obtain ⟨M5, e6, h⟩ := bindE h
    refine q_lastore C e6 dL_toStuff_9 ?_
    refine q_goto (tgt := 17) C dL_toStuff_10 (by decide) ?_
    refine q_iconst (v := (0 : Int32)) C dL_toStuff_17 (by decide) ?_
    cases h
    exact q_iretH C kf dL_toStuff_18
  · skip
    by_cases c9 : x7 = 1
    · subst c9
      have h := ifT rfl h
      refine q_catch (e0 := 1) (j := 4) (len := 2) (lv' := [(0, .ref l0), (1, .int l1), (2, .int l2), (3, .ref l3)]) [.int l1, .int l2] [] ⟨0, 10, 13, 18⟩ [] C hRO lk_RL_74 vk_X8_toStuff e1 rfl rfl rfl (Nat.le_of_ble_eq_true rfl) (by decide) (by decide) dL_toStuff_5 (k_X8_toStuff X.1.2.1 hl X.2.2.1 l0 l1 l2 M _ e2) kf.2.2.1 (fun z hz => nomatch hz) ⟨by decide, by decide, 1, cl_RL_18, by rw [if_pos rfl]; exact xc_1⟩ (Or.inl ⟨dL_toStuff_13, rfl⟩) (by decide) rfl ?_
      refine q_iconst (v := (1 : Int32)) C dL_toStuff_15 (by decide) ?_
      cases h
      exact q_iretH C kf dL_toStuff_16
    have h := ifF c9 h
    cases h
theorem k_L_toStuff (l : Launch) (hl : l.stackTraces = false) (G : GG) (l0 : Nat) (l1 : Int32) (l2 : Int32) (l3 : Nat) (M : Mem) (x : Int32 × Mem) (h : F_L_toStuff l0 l1 l2 l3 M = some x) : Ct l G yL_toStuff (.codeWith yL_toStuff cL_toStuff 5 (some .int) [(0, 10, 13, 18)]) 9 184 [.ref l0, .int l1, .int l2, .ref l3] M (rs_mI x) (ms_mI x) := by
  refine Ct_ofH (by decide +kernel) (Nat.le_of_ble_eq_true rfl) fun X e1 e2 e3 C FN => ?_
  subst e1; subst e2
  show wq X 5 0 [(0, .ref l0), (1, .int l1), (2, .int l2), (3, .ref l3)] [] M
  exact w_L_toStuff C FN.2.2.2 hl l0 l1 l2 l3 M h FN
/-! L_toWait -/
set_option maxRecDepth 100000 in
set_option maxHeartbeats 4000000 in
theorem w_L_toWait {X : CX} {y : Int32 × Mem} (C : CK X cL_toWait 5 RL 13 283) (hRO : RO X.2.2.1 X.1.2.2.2.2.1 X.1.2.2.2.2.1.heap) (hl : X.1.2.1.stackTraces = false) (l0 : Nat) (l1 : Int32) (l2 : Int32) (l3 : Nat) (M : Mem) (h : F_L_toWait l0 l1 l2 l3 M = some y) (kf : FINH X (some .int) (rs_mI y) (ms_mI y) [(0, 10, 13, 18)]) : wq X 5 0 [(0, .ref l0), (1, .int l1), (2, .int l2), (3, .ref l3)] [] M := by
  unfold F_L_toWait at h
  refine q_aload_n 3 C dL_toWait_0 rfl ?_
  refine q_iconst (v := (0 : Int32)) C dL_toWait_1 (by decide) ?_
  refine q_aload_n 0 C dL_toWait_2 rfl ?_
  refine q_iload_n 1 C dL_toWait_3 rfl ?_
  refine q_iload_n 2 C dL_toWait_4 rfl ?_
  obtain ⟨e1, h⟩ := ckOE h
  rcases bdTE h with ⟨v4, M3, e2, h⟩ | ⟨x7, M8, e2, h⟩
  · refine q_callV (v := some (.int v4)) [.int l1, .int l2] C hRO lk_RL_77 vk_X8_toWait e1 rfl rfl rfl (Nat.le_of_ble_eq_true rfl) (by decide) (by decide) dL_toWait_5 (k_X8_toWait X.1.2.1 hl X.2.2.1 l0 l1 l2 M _ e2) ?_
    refine q_i2l C dL_toWait_8 ?_
    obtain ⟨M5, e6, h⟩ := bindE h
    refine q_lastore C e6 dL_toWait_9 ?_
    refine q_goto (tgt := 17) C dL_toWait_10 (by decide) ?_
    refine q_iconst (v := (0 : Int32)) C dL_toWait_17 (by decide) ?_
    cases h
    exact q_iretH C kf dL_toWait_18
  · skip
    by_cases c9 : x7 = 1
    · subst c9
      have h := ifT rfl h
      refine q_catch (e0 := 1) (j := 4) (len := 2) (lv' := [(0, .ref l0), (1, .int l1), (2, .int l2), (3, .ref l3)]) [.int l1, .int l2] [] ⟨0, 10, 13, 18⟩ [] C hRO lk_RL_77 vk_X8_toWait e1 rfl rfl rfl (Nat.le_of_ble_eq_true rfl) (by decide) (by decide) dL_toWait_5 (k_X8_toWait X.1.2.1 hl X.2.2.1 l0 l1 l2 M _ e2) kf.2.2.1 (fun z hz => nomatch hz) ⟨by decide, by decide, 1, cl_RL_18, by rw [if_pos rfl]; exact xc_1⟩ (Or.inl ⟨dL_toWait_13, rfl⟩) (by decide) rfl ?_
      refine q_iconst (v := (1 : Int32)) C dL_toWait_15 (by decide) ?_
      cases h
      exact q_iretH C kf dL_toWait_16
    have h := ifF c9 h
    cases h
theorem k_L_toWait (l : Launch) (hl : l.stackTraces = false) (G : GG) (l0 : Nat) (l1 : Int32) (l2 : Int32) (l3 : Nat) (M : Mem) (x : Int32 × Mem) (h : F_L_toWait l0 l1 l2 l3 M = some x) : Ct l G yL_toWait (.codeWith yL_toWait cL_toWait 5 (some .int) [(0, 10, 13, 18)]) 13 283 [.ref l0, .int l1, .int l2, .ref l3] M (rs_mI x) (ms_mI x) := by
  refine Ct_ofH (by decide +kernel) (Nat.le_of_ble_eq_true rfl) fun X e1 e2 e3 C FN => ?_
  subst e1; subst e2
  show wq X 5 0 [(0, .ref l0), (1, .int l1), (2, .int l2), (3, .ref l3)] [] M
  exact w_L_toWait C FN.2.2.2 hl l0 l1 l2 l3 M h FN
/-! L_town -/
set_option maxRecDepth 100000 in
set_option maxHeartbeats 4000000 in
theorem w_L_town {X : CX} {y : Int32 × Mem} (C : CK X cL_town 4 RL 80 2010) (hRO : RO X.2.2.1 X.1.2.2.2.2.1 X.1.2.2.2.2.1.heap) (hl : X.1.2.1.stackTraces = false) (l0 : Nat) (l1 : Int32) (l2 : Nat) (M : Mem) (h : F_L_town l0 l1 l2 M = some y) (kf : FINH X (some .int) (rs_mI y) (ms_mI y) [(0, 9, 12, 13)]) : wq X 4 0 [(0, .ref l0), (1, .int l1), (2, .ref l2)] [] M := by
  unfold F_L_town at h
  refine q_aload_n 2 C dL_town_0 rfl ?_
  refine q_iconst (v := (0 : Int32)) C dL_town_1 (by decide) ?_
  refine q_aload_n 0 C dL_town_2 rfl ?_
  refine q_iload_n 1 C dL_town_3 rfl ?_
  obtain ⟨e1, h⟩ := ckOE h
  rcases bdTE h with ⟨v4, M3, e2, h⟩ | ⟨x7, M8, e2, h⟩
  · refine q_callV (v := some (.int v4)) [.int l1] C hRO lk_RL_7 vk_X8_town e1 rfl rfl rfl (Nat.le_of_ble_eq_true rfl) (by decide) (by decide) dL_town_4 (k_X8_town X.1.2.1 hl X.2.2.1 l0 l1 M _ e2) ?_
    refine q_i2l C dL_town_7 ?_
    obtain ⟨M5, e6, h⟩ := bindE h
    refine q_lastore C e6 dL_town_8 ?_
    refine q_goto (tgt := 15) C dL_town_9 (by decide) ?_
    refine q_iconst (v := (0 : Int32)) C dL_town_15 (by decide) ?_
    cases h
    exact q_iretH C kf dL_town_16
  · skip
    by_cases c9 : x7 = 0
    · subst c9
      have h := ifT rfl h
      refine q_catch (e0 := 0) (j := 3) (len := 1) (lv' := [(0, .ref l0), (1, .int l1), (2, .ref l2)]) [.int l1] [] ⟨0, 9, 12, 13⟩ [] C hRO lk_RL_7 vk_X8_town e1 rfl rfl rfl (Nat.le_of_ble_eq_true rfl) (by decide) (by decide) dL_town_4 (k_X8_town X.1.2.1 hl X.2.2.1 l0 l1 M _ e2) kf.2.2.1 (fun z hz => nomatch hz) ⟨by decide, by decide, 0, cl_RL_13, by rw [if_pos rfl]; exact xc_0⟩ (Or.inr ⟨_, dL_town_12, rfl, rfl⟩) (by decide) rfl ?_
      refine q_iconst (v := (1 : Int32)) C dL_town_13 (by decide) ?_
      cases h
      exact q_iretH C kf dL_town_14
    have h := ifF c9 h
    cases h
theorem k_L_town (l : Launch) (hl : l.stackTraces = false) (G : GG) (l0 : Nat) (l1 : Int32) (l2 : Nat) (M : Mem) (x : Int32 × Mem) (h : F_L_town l0 l1 l2 M = some x) : Ct l G yL_town (.codeWith yL_town cL_town 4 (some .int) [(0, 9, 12, 13)]) 80 2010 [.ref l0, .int l1, .ref l2] M (rs_mI x) (ms_mI x) := by
  refine Ct_ofH (by decide +kernel) (Nat.le_of_ble_eq_true rfl) fun X e1 e2 e3 C FN => ?_
  subst e1; subst e2
  show wq X 4 0 [(0, .ref l0), (1, .int l1), (2, .ref l2)] [] M
  exact w_L_town C FN.2.2.2 hl l0 l1 l2 M h FN
/-! L_trade -/
set_option maxRecDepth 100000 in
set_option maxHeartbeats 4000000 in
theorem w_L_trade {X : CX} {y : Int32 × Mem} (C : CK X cL_trade 4 RL 11 237) (hRO : RO X.2.2.1 X.1.2.2.2.2.1 X.1.2.2.2.2.1.heap) (hl : X.1.2.1.stackTraces = false) (l0 : Nat) (l1 : Int32) (l2 : Nat) (M : Mem) (h : F_L_trade l0 l1 l2 M = some y) (kf : FINH X (some .int) (rs_mI y) (ms_mI y) [(0, 9, 12, 18)]) : wq X 4 0 [(0, .ref l0), (1, .int l1), (2, .ref l2)] [] M := by
  unfold F_L_trade at h
  refine q_aload_n 2 C dL_trade_0 rfl ?_
  refine q_iconst (v := (0 : Int32)) C dL_trade_1 (by decide) ?_
  refine q_aload_n 0 C dL_trade_2 rfl ?_
  refine q_iload_n 1 C dL_trade_3 rfl ?_
  obtain ⟨e1, h⟩ := ckOE h
  rcases bdTE h with ⟨v4, M3, e2, h⟩ | ⟨x7, M8, e2, h⟩
  · refine q_callV (v := some (.int v4)) [.int l1] C hRO lk_RL_71 vk_X8_trade e1 rfl rfl rfl (Nat.le_of_ble_eq_true rfl) (by decide) (by decide) dL_trade_4 (k_X8_trade X.1.2.1 hl X.2.2.1 l0 l1 M _ e2) ?_
    refine q_i2l C dL_trade_7 ?_
    obtain ⟨M5, e6, h⟩ := bindE h
    refine q_lastore C e6 dL_trade_8 ?_
    refine q_goto (tgt := 15) C dL_trade_9 (by decide) ?_
    refine q_iconst (v := (0 : Int32)) C dL_trade_15 (by decide) ?_
    cases h
    exact q_iretH C kf dL_trade_16
  · skip
    by_cases c9 : x7 = 1
    · subst c9
      have h := ifT rfl h
      refine q_catch (e0 := 1) (j := 3) (len := 1) (lv' := [(0, .ref l0), (1, .int l1), (2, .ref l2)]) [.int l1] [] ⟨0, 9, 12, 18⟩ [] C hRO lk_RL_71 vk_X8_trade e1 rfl rfl rfl (Nat.le_of_ble_eq_true rfl) (by decide) (by decide) dL_trade_4 (k_X8_trade X.1.2.1 hl X.2.2.1 l0 l1 M _ e2) kf.2.2.1 (fun z hz => nomatch hz) ⟨by decide, by decide, 1, cl_RL_18, by rw [if_pos rfl]; exact xc_1⟩ (Or.inr ⟨_, dL_trade_12, rfl, rfl⟩) (by decide) rfl ?_
      refine q_iconst (v := (1 : Int32)) C dL_trade_13 (by decide) ?_
      cases h
      exact q_iretH C kf dL_trade_14
    have h := ifF c9 h
    cases h
theorem k_L_trade (l : Launch) (hl : l.stackTraces = false) (G : GG) (l0 : Nat) (l1 : Int32) (l2 : Nat) (M : Mem) (x : Int32 × Mem) (h : F_L_trade l0 l1 l2 M = some x) : Ct l G yL_trade (.codeWith yL_trade cL_trade 4 (some .int) [(0, 9, 12, 18)]) 11 237 [.ref l0, .int l1, .ref l2] M (rs_mI x) (ms_mI x) := by
  refine Ct_ofH (by decide +kernel) (Nat.le_of_ble_eq_true rfl) fun X e1 e2 e3 C FN => ?_
  subst e1; subst e2
  show wq X 4 0 [(0, .ref l0), (1, .int l1), (2, .ref l2)] [] M
  exact w_L_trade C FN.2.2.2 hl l0 l1 l2 M h FN
/-! L_wide -/
set_option maxRecDepth 100000 in
set_option maxHeartbeats 4000000 in
theorem w_L_wide {X : CX} {y : Int32 × Mem} (C : CK X cL_wide 4 RL 9 184) (hRO : RO X.2.2.1 X.1.2.2.2.2.1 X.1.2.2.2.2.1.heap) (hl : X.1.2.1.stackTraces = false) (l0 : Nat) (l1 : Int32) (l2 : Nat) (M : Mem) (h : F_L_wide l0 l1 l2 M = some y) (kf : FINH X (some .int) (rs_mI y) (ms_mI y) [(0, 9, 12, 13)]) : wq X 4 0 [(0, .ref l0), (1, .int l1), (2, .ref l2)] [] M := by
  unfold F_L_wide at h
  refine q_aload_n 2 C dL_wide_0 rfl ?_
  refine q_iconst (v := (0 : Int32)) C dL_wide_1 (by decide) ?_
  refine q_aload_n 0 C dL_wide_2 rfl ?_
  refine q_iload_n 1 C dL_wide_3 rfl ?_
  obtain ⟨e1, h⟩ := ckOE h
  rcases bdTE h with ⟨v4, M3, e2, h⟩ | ⟨x7, M8, e2, h⟩
  · refine q_callV (v := some (.int v4)) [.int l1] C hRO lk_RL_132 vk_X8_wide e1 rfl rfl rfl (Nat.le_of_ble_eq_true rfl) (by decide) (by decide) dL_wide_4 (k_X8_wide X.1.2.1 hl X.2.2.1 l0 l1 M _ e2) ?_
    refine q_i2l C dL_wide_7 ?_
    obtain ⟨M5, e6, h⟩ := bindE h
    refine q_lastore C e6 dL_wide_8 ?_
    refine q_goto (tgt := 15) C dL_wide_9 (by decide) ?_
    refine q_iconst (v := (0 : Int32)) C dL_wide_15 (by decide) ?_
    cases h
    exact q_iretH C kf dL_wide_16
  · skip
    by_cases c9 : x7 = 0
    · subst c9
      have h := ifT rfl h
      refine q_catch (e0 := 0) (j := 3) (len := 1) (lv' := [(0, .ref l0), (1, .int l1), (2, .ref l2)]) [.int l1] [] ⟨0, 9, 12, 13⟩ [] C hRO lk_RL_132 vk_X8_wide e1 rfl rfl rfl (Nat.le_of_ble_eq_true rfl) (by decide) (by decide) dL_wide_4 (k_X8_wide X.1.2.1 hl X.2.2.1 l0 l1 M _ e2) kf.2.2.1 (fun z hz => nomatch hz) ⟨by decide, by decide, 0, cl_RL_13, by rw [if_pos rfl]; exact xc_0⟩ (Or.inr ⟨_, dL_wide_12, rfl, rfl⟩) (by decide) rfl ?_
      refine q_iconst (v := (1 : Int32)) C dL_wide_13 (by decide) ?_
      cases h
      exact q_iretH C kf dL_wide_14
    have h := ifF c9 h
    cases h
theorem k_L_wide (l : Launch) (hl : l.stackTraces = false) (G : GG) (l0 : Nat) (l1 : Int32) (l2 : Nat) (M : Mem) (x : Int32 × Mem) (h : F_L_wide l0 l1 l2 M = some x) : Ct l G yL_wide (.codeWith yL_wide cL_wide 4 (some .int) [(0, 9, 12, 13)]) 9 184 [.ref l0, .int l1, .ref l2] M (rs_mI x) (ms_mI x) := by
  refine Ct_ofH (by decide +kernel) (Nat.le_of_ble_eq_true rfl) fun X e1 e2 e3 C FN => ?_
  subst e1; subst e2
  show wq X 4 0 [(0, .ref l0), (1, .int l1), (2, .ref l2)] [] M
  exact w_L_wide C FN.2.2.2 hl l0 l1 l2 M h FN
/-! L_worn -/
set_option maxRecDepth 100000 in
set_option maxHeartbeats 4000000 in
theorem w_L_worn {X : CX} {y : Int32 × Mem} (C : CK X cL_worn 5 RL 14 303) (hRO : RO X.2.2.1 X.1.2.2.2.2.1 X.1.2.2.2.2.1.heap) (hl : X.1.2.1.stackTraces = false) (l0 : Nat) (l1 : Int32) (l2 : Int32) (l3 : Nat) (M : Mem) (h : F_L_worn l0 l1 l2 l3 M = some y) (kf : FINH X (some .int) (rs_mI y) (ms_mI y) [(0, 10, 13, 18), (0, 10, 17, 13)]) : wq X 5 0 [(0, .ref l0), (1, .int l1), (2, .int l2), (3, .ref l3)] [] M := by
  unfold F_L_worn at h
  refine q_aload_n 3 C dL_worn_0 rfl ?_
  refine q_iconst (v := (0 : Int32)) C dL_worn_1 (by decide) ?_
  refine q_aload_n 0 C dL_worn_2 rfl ?_
  refine q_iload_n 1 C dL_worn_3 rfl ?_
  refine q_iload_n 2 C dL_worn_4 rfl ?_
  obtain ⟨e1, h⟩ := ckOE h
  rcases bdTE h with ⟨v4, M3, e2, h⟩ | ⟨x7, M8, e2, h⟩
  · refine q_callV (v := some (.int v4)) [.int l1, .int l2] C hRO lk_RL_47 vk_X8_worn e1 rfl rfl rfl (Nat.le_of_ble_eq_true rfl) (by decide) (by decide) dL_worn_5 (k_X8_worn X.1.2.1 hl X.2.2.1 l0 l1 l2 M _ e2) ?_
    refine q_i2l C dL_worn_8 ?_
    obtain ⟨M5, e6, h⟩ := bindE h
    refine q_lastore C e6 dL_worn_9 ?_
    refine q_goto (tgt := 21) C dL_worn_10 (by decide) ?_
    refine q_iconst (v := (0 : Int32)) C dL_worn_21 (by decide) ?_
    cases h
    exact q_iretH C kf dL_worn_22
  · skip
    by_cases c9 : x7 = 1
    · subst c9
      have h := ifT rfl h
      refine q_catch (e0 := 1) (j := 4) (len := 2) (lv' := [(0, .ref l0), (1, .int l1), (2, .int l2), (3, .ref l3)]) [.int l1, .int l2] [] ⟨0, 10, 13, 18⟩ [⟨0, 10, 17, 13⟩] C hRO lk_RL_47 vk_X8_worn e1 rfl rfl rfl (Nat.le_of_ble_eq_true rfl) (by decide) (by decide) dL_worn_5 (k_X8_worn X.1.2.1 hl X.2.2.1 l0 l1 l2 M _ e2) kf.2.2.1 (fun z hz => nomatch hz) ⟨by decide, by decide, 1, cl_RL_18, by rw [if_pos rfl]; exact xc_1⟩ (Or.inl ⟨dL_worn_13, rfl⟩) (by decide) rfl ?_
      refine q_iconst (v := (1 : Int32)) C dL_worn_15 (by decide) ?_
      cases h
      exact q_iretH C kf dL_worn_16
    have h := ifF c9 h
    by_cases c10 : x7 = 0
    · subst c10
      have h := ifT rfl h
      refine q_catch (e0 := 0) (j := 4) (len := 2) (lv' := [(0, .ref l0), (1, .int l1), (2, .int l2), (3, .ref l3)]) [.int l1, .int l2] [⟨0, 10, 13, 18⟩] ⟨0, 10, 17, 13⟩ [] C hRO lk_RL_47 vk_X8_worn e1 rfl rfl rfl (Nat.le_of_ble_eq_true rfl) (by decide) (by decide) dL_worn_5 (k_X8_worn X.1.2.1 hl X.2.2.1 l0 l1 l2 M _ e2) kf.2.2.1 (fun z hz => by rw [List.mem_singleton.mp hz]; exact ⟨by decide, by decide, 1, cl_RL_18, by rw [if_neg (by decide)]; exact ⟨rfl, rfl⟩⟩) ⟨by decide, by decide, 0, cl_RL_13, by rw [if_pos rfl]; exact xc_0⟩ (Or.inl ⟨dL_worn_17, rfl⟩) (by decide) rfl ?_
      refine q_iconst (v := (2 : Int32)) C dL_worn_19 (by decide) ?_
      cases h
      exact q_iretH C kf dL_worn_20
    have h := ifF c10 h
    cases h
theorem k_L_worn (l : Launch) (hl : l.stackTraces = false) (G : GG) (l0 : Nat) (l1 : Int32) (l2 : Int32) (l3 : Nat) (M : Mem) (x : Int32 × Mem) (h : F_L_worn l0 l1 l2 l3 M = some x) : Ct l G yL_worn (.codeWith yL_worn cL_worn 5 (some .int) [(0, 10, 13, 18), (0, 10, 17, 13)]) 14 303 [.ref l0, .int l1, .int l2, .ref l3] M (rs_mI x) (ms_mI x) := by
  refine Ct_ofH (by decide +kernel) (Nat.le_of_ble_eq_true rfl) fun X e1 e2 e3 C FN => ?_
  subst e1; subst e2
  show wq X 5 0 [(0, .ref l0), (1, .int l1), (2, .int l2), (3, .ref l3)] [] M
  exact w_L_worn C FN.2.2.2 hl l0 l1 l2 l3 M h FN
/-! L_wornest -/
set_option maxRecDepth 100000 in
set_option maxHeartbeats 4000000 in
theorem w_L_wornest {X : CX} {y : Int32 × Mem} (C : CK X cL_wornest 4 RL 14 302) (hRO : RO X.2.2.1 X.1.2.2.2.2.1 X.1.2.2.2.2.1.heap) (hl : X.1.2.1.stackTraces = false) (l0 : Nat) (l1 : Int32) (l2 : Nat) (M : Mem) (h : F_L_wornest l0 l1 l2 M = some y) (kf : FINH X (some .int) (rs_mI y) (ms_mI y) [(0, 9, 12, 13)]) : wq X 4 0 [(0, .ref l0), (1, .int l1), (2, .ref l2)] [] M := by
  unfold F_L_wornest at h
  refine q_aload_n 2 C dL_wornest_0 rfl ?_
  refine q_iconst (v := (0 : Int32)) C dL_wornest_1 (by decide) ?_
  refine q_aload_n 0 C dL_wornest_2 rfl ?_
  refine q_iload_n 1 C dL_wornest_3 rfl ?_
  obtain ⟨e1, h⟩ := ckOE h
  rcases bdTE h with ⟨v4, M3, e2, h⟩ | ⟨x7, M8, e2, h⟩
  · refine q_callV (v := some (.int v4)) [.int l1] C hRO lk_RL_111 vk_X8_wornest e1 rfl rfl rfl (Nat.le_of_ble_eq_true rfl) (by decide) (by decide) dL_wornest_4 (k_X8_wornest X.1.2.1 hl X.2.2.1 l0 l1 M _ e2) ?_
    refine q_i2l C dL_wornest_7 ?_
    obtain ⟨M5, e6, h⟩ := bindE h
    refine q_lastore C e6 dL_wornest_8 ?_
    refine q_goto (tgt := 15) C dL_wornest_9 (by decide) ?_
    refine q_iconst (v := (0 : Int32)) C dL_wornest_15 (by decide) ?_
    cases h
    exact q_iretH C kf dL_wornest_16
  · skip
    by_cases c9 : x7 = 0
    · subst c9
      have h := ifT rfl h
      refine q_catch (e0 := 0) (j := 3) (len := 1) (lv' := [(0, .ref l0), (1, .int l1), (2, .ref l2)]) [.int l1] [] ⟨0, 9, 12, 13⟩ [] C hRO lk_RL_111 vk_X8_wornest e1 rfl rfl rfl (Nat.le_of_ble_eq_true rfl) (by decide) (by decide) dL_wornest_4 (k_X8_wornest X.1.2.1 hl X.2.2.1 l0 l1 M _ e2) kf.2.2.1 (fun z hz => nomatch hz) ⟨by decide, by decide, 0, cl_RL_13, by rw [if_pos rfl]; exact xc_0⟩ (Or.inr ⟨_, dL_wornest_12, rfl, rfl⟩) (by decide) rfl ?_
      refine q_iconst (v := (1 : Int32)) C dL_wornest_13 (by decide) ?_
      cases h
      exact q_iretH C kf dL_wornest_14
    have h := ifF c9 h
    cases h
theorem k_L_wornest (l : Launch) (hl : l.stackTraces = false) (G : GG) (l0 : Nat) (l1 : Int32) (l2 : Nat) (M : Mem) (x : Int32 × Mem) (h : F_L_wornest l0 l1 l2 M = some x) : Ct l G yL_wornest (.codeWith yL_wornest cL_wornest 4 (some .int) [(0, 9, 12, 13)]) 14 302 [.ref l0, .int l1, .ref l2] M (rs_mI x) (ms_mI x) := by
  refine Ct_ofH (by decide +kernel) (Nat.le_of_ble_eq_true rfl) fun X e1 e2 e3 C FN => ?_
  subst e1; subst e2
  show wq X 4 0 [(0, .ref l0), (1, .int l1), (2, .ref l2)] [] M
  exact w_L_wornest C FN.2.2.2 hl l0 l1 l2 M h FN
/-! L_wriggles -/
set_option maxRecDepth 100000 in
set_option maxHeartbeats 4000000 in
theorem w_L_wriggles {X : CX} {y : Int32 × Mem} (C : CK X cL_wriggles 4 RL 13 282) (hRO : RO X.2.2.1 X.1.2.2.2.2.1 X.1.2.2.2.2.1.heap) (hl : X.1.2.1.stackTraces = false) (l0 : Nat) (l1 : Int32) (l2 : Nat) (M : Mem) (h : F_L_wriggles l0 l1 l2 M = some y) (kf : FINH X (some .int) (rs_mI y) (ms_mI y) [(0, 9, 12, 18)]) : wq X 4 0 [(0, .ref l0), (1, .int l1), (2, .ref l2)] [] M := by
  unfold F_L_wriggles at h
  refine q_aload_n 2 C dL_wriggles_0 rfl ?_
  refine q_iconst (v := (0 : Int32)) C dL_wriggles_1 (by decide) ?_
  refine q_aload_n 0 C dL_wriggles_2 rfl ?_
  refine q_iload_n 1 C dL_wriggles_3 rfl ?_
  obtain ⟨e1, h⟩ := ckOE h
  rcases bdTE h with ⟨v4, M3, e2, h⟩ | ⟨x7, M8, e2, h⟩
  · refine q_callV (v := some (.int v4)) [.int l1] C hRO lk_RL_53 vk_X8_wriggles e1 rfl rfl rfl (Nat.le_of_ble_eq_true rfl) (by decide) (by decide) dL_wriggles_4 (k_X8_wriggles X.1.2.1 hl X.2.2.1 l0 l1 M _ e2) ?_
    refine q_i2l C dL_wriggles_7 ?_
    obtain ⟨M5, e6, h⟩ := bindE h
    refine q_lastore C e6 dL_wriggles_8 ?_
    refine q_goto (tgt := 15) C dL_wriggles_9 (by decide) ?_
    refine q_iconst (v := (0 : Int32)) C dL_wriggles_15 (by decide) ?_
    cases h
    exact q_iretH C kf dL_wriggles_16
  · skip
    by_cases c9 : x7 = 1
    · subst c9
      have h := ifT rfl h
      refine q_catch (e0 := 1) (j := 3) (len := 1) (lv' := [(0, .ref l0), (1, .int l1), (2, .ref l2)]) [.int l1] [] ⟨0, 9, 12, 18⟩ [] C hRO lk_RL_53 vk_X8_wriggles e1 rfl rfl rfl (Nat.le_of_ble_eq_true rfl) (by decide) (by decide) dL_wriggles_4 (k_X8_wriggles X.1.2.1 hl X.2.2.1 l0 l1 M _ e2) kf.2.2.1 (fun z hz => nomatch hz) ⟨by decide, by decide, 1, cl_RL_18, by rw [if_pos rfl]; exact xc_1⟩ (Or.inr ⟨_, dL_wriggles_12, rfl, rfl⟩) (by decide) rfl ?_
      refine q_iconst (v := (1 : Int32)) C dL_wriggles_13 (by decide) ?_
      cases h
      exact q_iretH C kf dL_wriggles_14
    have h := ifF c9 h
    cases h
theorem k_L_wriggles (l : Launch) (hl : l.stackTraces = false) (G : GG) (l0 : Nat) (l1 : Int32) (l2 : Nat) (M : Mem) (x : Int32 × Mem) (h : F_L_wriggles l0 l1 l2 M = some x) : Ct l G yL_wriggles (.codeWith yL_wriggles cL_wriggles 4 (some .int) [(0, 9, 12, 18)]) 13 282 [.ref l0, .int l1, .ref l2] M (rs_mI x) (ms_mI x) := by
  refine Ct_ofH (by decide +kernel) (Nat.le_of_ble_eq_true rfl) fun X e1 e2 e3 C FN => ?_
  subst e1; subst e2
  show wq X 4 0 [(0, .ref l0), (1, .int l1), (2, .ref l2)] [] M
  exact w_L_wriggles C FN.2.2.2 hl l0 l1 l2 M h FN
/-! L_years -/
set_option maxRecDepth 100000 in
set_option maxHeartbeats 4000000 in
theorem w_L_years {X : CX} {y : Int32 × Mem} (C : CK X cL_years 6 RL 13 287) (hRO : RO X.2.2.1 X.1.2.2.2.2.1 X.1.2.2.2.2.1.heap) (hl : X.1.2.1.stackTraces = false) (l0 : Nat) (l1 : Int32) (l2 : Int32) (l3 : Int32) (l4 : Nat) (M : Mem) (h : F_L_years l0 l1 l2 l3 l4 M = some y) (kf : FINH X (some .int) (rs_mI y) (ms_mI y) [(0, 12, 15, 18), (0, 12, 19, 13)]) : wq X 6 0 [(0, .ref l0), (1, .int l1), (2, .int l2), (3, .int l3), (4, .ref l4)] [] M := by
  unfold F_L_years at h
  refine q_aload 4 C dL_years_0 rfl ?_
  refine q_iconst (v := (0 : Int32)) C dL_years_2 (by decide) ?_
  refine q_aload_n 0 C dL_years_3 rfl ?_
  refine q_iload_n 1 C dL_years_4 rfl ?_
  refine q_iload_n 2 C dL_years_5 rfl ?_
  refine q_iload_n 3 C dL_years_6 rfl ?_
  obtain ⟨e1, h⟩ := ckOE h
  rcases bdTE h with ⟨v4, M3, e2, h⟩ | ⟨x7, M8, e2, h⟩
  · refine q_callV (v := some (.int v4)) [.int l1, .int l2, .int l3] C hRO lk_RL_99 vk_X8_years e1 rfl rfl rfl (Nat.le_of_ble_eq_true rfl) (by decide) (by decide) dL_years_7 (k_X8_years X.1.2.1 hl X.2.2.1 l0 l1 l2 l3 M _ e2) ?_
    refine q_i2l C dL_years_10 ?_
    obtain ⟨M5, e6, h⟩ := bindE h
    refine q_lastore C e6 dL_years_11 ?_
    refine q_goto (tgt := 23) C dL_years_12 (by decide) ?_
    refine q_iconst (v := (0 : Int32)) C dL_years_23 (by decide) ?_
    cases h
    exact q_iretH C kf dL_years_24
  · skip
    by_cases c9 : x7 = 1
    · subst c9
      have h := ifT rfl h
      refine q_catch (e0 := 1) (j := 5) (len := 2) (lv' := [(0, .ref l0), (1, .int l1), (2, .int l2), (3, .int l3), (4, .ref l4)]) [.int l1, .int l2, .int l3] [] ⟨0, 12, 15, 18⟩ [⟨0, 12, 19, 13⟩] C hRO lk_RL_99 vk_X8_years e1 rfl rfl rfl (Nat.le_of_ble_eq_true rfl) (by decide) (by decide) dL_years_7 (k_X8_years X.1.2.1 hl X.2.2.1 l0 l1 l2 l3 M _ e2) kf.2.2.1 (fun z hz => nomatch hz) ⟨by decide, by decide, 1, cl_RL_18, by rw [if_pos rfl]; exact xc_1⟩ (Or.inl ⟨dL_years_15, rfl⟩) (by decide) rfl ?_
      refine q_iconst (v := (1 : Int32)) C dL_years_17 (by decide) ?_
      cases h
      exact q_iretH C kf dL_years_18
    have h := ifF c9 h
    by_cases c10 : x7 = 0
    · subst c10
      have h := ifT rfl h
      refine q_catch (e0 := 0) (j := 5) (len := 2) (lv' := [(0, .ref l0), (1, .int l1), (2, .int l2), (3, .int l3), (4, .ref l4)]) [.int l1, .int l2, .int l3] [⟨0, 12, 15, 18⟩] ⟨0, 12, 19, 13⟩ [] C hRO lk_RL_99 vk_X8_years e1 rfl rfl rfl (Nat.le_of_ble_eq_true rfl) (by decide) (by decide) dL_years_7 (k_X8_years X.1.2.1 hl X.2.2.1 l0 l1 l2 l3 M _ e2) kf.2.2.1 (fun z hz => by rw [List.mem_singleton.mp hz]; exact ⟨by decide, by decide, 1, cl_RL_18, by rw [if_neg (by decide)]; exact ⟨rfl, rfl⟩⟩) ⟨by decide, by decide, 0, cl_RL_13, by rw [if_pos rfl]; exact xc_0⟩ (Or.inl ⟨dL_years_19, rfl⟩) (by decide) rfl ?_
      refine q_iconst (v := (2 : Int32)) C dL_years_21 (by decide) ?_
      cases h
      exact q_iretH C kf dL_years_22
    have h := ifF c10 h
    cases h
theorem k_L_years (l : Launch) (hl : l.stackTraces = false) (G : GG) (l0 : Nat) (l1 : Int32) (l2 : Int32) (l3 : Int32) (l4 : Nat) (M : Mem) (x : Int32 × Mem) (h : F_L_years l0 l1 l2 l3 l4 M = some x) : Ct l G yL_years (.codeWith yL_years cL_years 6 (some .int) [(0, 12, 15, 18), (0, 12, 19, 13)]) 13 287 [.ref l0, .int l1, .int l2, .int l3, .ref l4] M (rs_mI x) (ms_mI x) := by
  refine Ct_ofH (by decide +kernel) (Nat.le_of_ble_eq_true rfl) fun X e1 e2 e3 C FN => ?_
  subst e1; subst e2
  show wq X 6 0 [(0, .ref l0), (1, .int l1), (2, .int l2), (3, .int l3), (4, .ref l4)] [] M
  exact w_L_years C FN.2.2.2 hl l0 l1 l2 l3 l4 M h FN
