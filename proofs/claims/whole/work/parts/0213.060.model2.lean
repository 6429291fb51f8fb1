/-! X9_gains -/
set_option maxRecDepth 100000 in
set_option maxHeartbeats 4000000 in
theorem w_X9_gains_j53 {X : CX} {y : Int32 × Mem} (C : CK X cX9_gains 8 RX9 12 256) (hRO : RO X.2.2.1 X.1.2.2.2.2.1 X.1.2.2.2.2.1.heap) (hl : X.1.2.1.stackTraces = false) (l0 : Nat) (l1 : Int32) (l3 : Int32) (l6 : Int32) (M : Mem) (h : F_X9_gains_j53 l0 l1 l3 l6 M = some y) (kf : FIN X (some .int) (rs_mI y) (ms_mI y)) : wq X 8 53 [(0, .ref l0), (1, .int l1), (3, .int l3), (6, .int l6)] [] M := by
  unfold F_X9_gains_j53 at h
  refine q_aload_n 0 C dX9_gains_53 rfl ?_
  refine q_iconst (v := (0 : Int32)) C dX9_gains_54 (by decide) ?_
  refine q_iload_n 1 C dX9_gains_55 rfl ?_
  refine q_iload_n 2 C dX9_gains_56 rfl ?_
  obtain ⟨e9, h⟩ := ckOE h
  obtain ⟨v12, M11, e10, h⟩ := bd2E h
  refine q_callV (v := some (.int v12)) [.int (0 : Int32), .int l1, .int l3] C hRO lk_RX9_388 vk_X9_wouldGo e9 rfl rfl rfl (Nat.le_of_ble_eq_true rfl) (by decide) (by decide) dX9_gains_57 (k_X9_wouldGo X.1.2.1 hl X.2.2.1 l0 (0 : Int32) l1 l3 M _ e10) ?_
  refine q_if_eq (tgt := 73) C dX9_gains_60 (by decide) (fun c13 => ?_) (fun c13 => ?_)
  · have h := ifT c13 h
    refine q_bipush (v := (-3 : Int32)) C dX9_gains_73 (by decide) ?_
    cases h
    exact q_iret C kf dX9_gains_75
  · have h := ifF c13 h
    refine q_bipush (v := (20 : Int32)) C dX9_gains_63 (by decide) ?_
    refine q_iconst (v := (2 : Int32)) C dX9_gains_65 (by decide) ?_
    refine q_iload 3 C dX9_gains_66 rfl ?_
    refine q_imul C dX9_gains_68 ?_
    refine q_isub C dX9_gains_69 ?_
    refine q_goto (tgt := 75) C dX9_gains_70 (by decide) ?_
    cases h
    exact q_iret C kf dX9_gains_75
set_option maxRecDepth 100000 in
set_option maxHeartbeats 4000000 in
theorem w_X9_gains {X : CX} {y : Int32 × Mem} (C : CK X cX9_gains 8 RX9 12 256) (hRO : RO X.2.2.1 X.1.2.2.2.2.1 X.1.2.2.2.2.1.heap) (hl : X.1.2.1.stackTraces = false) (l0 : Nat) (l1 : Int32) (l2 : Int32) (l3 : Int32) (l4 : Int32) (l5 : Int32) (M : Mem) (h : F_X9_gains l0 l1 l2 l3 l4 l5 M = some y) (kf : FIN X (some .int) (rs_mI y) (ms_mI y)) : wq X 8 0 [(0, .ref l0), (1, .int l1), (2, .int l2), (3, .int l3), (4, .int l4), (5, .int l5)] [] M := by
  unfold F_X9_gains at h
  refine q_iload 4 C dX9_gains_0 rfl ?_
  refine q_if_ne (tgt := 7) C dX9_gains_2 (by decide) (fun c1 => ?_) (fun c1 => ?_)
  · have h := ifF c1 h
    refine q_aload_n 0 C dX9_gains_7 rfl ?_
    refine q_iconst (v := (0 : Int32)) C dX9_gains_8 (by decide) ?_
    refine q_iload_n 1 C dX9_gains_9 rfl ?_
    refine q_iload_n 3 C dX9_gains_10 rfl ?_
    obtain ⟨e2, h⟩ := ckOE h
    obtain ⟨v4, e3, h⟩ := bindE h
    refine q_callV (v := some (.int v4)) [.int (0 : Int32), .int l1, .int l3] C hRO lk_RX9_312 vk_X9_tightOf e2 rfl rfl rfl (Nat.le_of_ble_eq_true rfl) (by decide) (by decide) dX9_gains_11 (k_X9_tightOf X.1.2.1 hl X.2.2.1 l0 (0 : Int32) l1 l3 M _ e3) ?_
    refine q_istore (i := 6) (lv' := [(6, .int v4), (0, .ref l0), (1, .int l1), (2, .int l2), (3, .int l3), (4, .int l4), (5, .int l5)]) C dX9_gains_14 (by decide) rfl ?_
    refine q_aload_n 1 C dX9_gains_16 rfl ?_
    refine q_iconst (v := (0 : Int32)) C dX9_gains_17 (by decide) ?_
    refine q_iload_n 3 C dX9_gains_18 rfl ?_
    refine q_iload_n 4 C dX9_gains_19 rfl ?_
    obtain ⟨e5, h⟩ := ckOE h
    obtain ⟨v7, e6, h⟩ := bindE h
    refine q_callV (v := some (.int v7)) [.int (0 : Int32), .int l2, .int l3] C hRO lk_RX9_312 vk_X9_tightOf e5 rfl rfl rfl (Nat.le_of_ble_eq_true rfl) (by decide) (by decide) dX9_gains_20 (k_X9_tightOf X.1.2.1 hl X.2.2.1 l0 (0 : Int32) l2 l3 M _ e6) ?_
    refine q_istore (i := 7) (lv' := [(7, .int v7), (6, .int v4), (0, .ref l0), (1, .int l1), (2, .int l2), (3, .int l3), (4, .int l4), (5, .int l5)]) C dX9_gains_23 (by decide) rfl ?_
    refine q_iload 7 C dX9_gains_25 rfl ?_
    refine q_iconst (v := (1 : Int32)) C dX9_gains_27 (by decide) ?_
    refine q_icmp_ne (tgt := 53) C dX9_gains_28 (by decide) (fun c8 => ?_) (fun c8 => ?_)
    · have h := ifF c8 h
      exact q_sub (lv' := [(0, .ref l0), (1, .int l1), (3, .int l3), (6, .int v4)]) [2, 3, 5, 1] rfl (w_X9_gains_j53 C hRO hl l0 l1 l3 v4 M h kf)
    · have h := ifT c8 h
      refine q_iload 0 C dX9_gains_31 rfl ?_
      refine q_iload 1 C dX9_gains_33 rfl ?_
      refine q_icmp_lt (tgt := 50) C dX9_gains_35 (by decide) (fun c14 => ?_) (fun c14 => ?_)
      · have h := ifT c14 h
        refine q_bipush (v := (-5 : Int32)) C dX9_gains_50 (by decide) ?_
        cases h
        exact q_iret C kf dX9_gains_52
      · have h := ifF c14 h
        refine q_iload 0 C dX9_gains_38 rfl ?_
        refine q_iload 1 C dX9_gains_40 rfl ?_
        refine q_icmp_ne (tgt := 53) C dX9_gains_42 (by decide) (fun c15 => ?_) (fun c15 => ?_)
        · have h := ifF c15 h
          exact q_sub (lv' := [(0, .ref l0), (1, .int l1), (3, .int l3), (6, .int v4)]) [2, 3, 5, 1] rfl (w_X9_gains_j53 C hRO hl l0 l1 l3 v4 M h kf)
        · have h := ifT c15 h
          refine q_iload_n 4 C dX9_gains_45 rfl ?_
          refine q_iload_n 3 C dX9_gains_46 rfl ?_
          refine q_icmp_ge (tgt := 53) C dX9_gains_47 (by decide) (fun c16 => ?_) (fun c16 => ?_)
          · have h := ifT c16 h
            exact q_sub (lv' := [(0, .ref l0), (1, .int l1), (3, .int l3), (6, .int v4)]) [2, 3, 5, 1] rfl (w_X9_gains_j53 C hRO hl l0 l1 l3 v4 M h kf)
          · have h := ifF c16 h
            refine q_bipush (v := (-5 : Int32)) C dX9_gains_50 (by decide) ?_
            cases h
            exact q_iret C kf dX9_gains_52
  · have h := ifT c1 h
    refine q_iconst (v := (2 : Int32)) C dX9_gains_5 (by decide) ?_
    cases h
    exact q_iret C kf dX9_gains_6
theorem k_X9_gains (l : Launch) (hl : l.stackTraces = false) (G : GG) (l0 : Nat) (l1 : Int32) (l2 : Int32) (l3 : Int32) (l4 : Int32) (l5 : Int32) (M : Mem) (x : Int32 × Mem) (h : F_X9_gains l0 l1 l2 l3 l4 l5 M = some x) : Ct l G yX9_gains (.code yX9_gains cX9_gains 8 (some .int)) 12 256 [.ref l0, .int l1, .int l2, .int l3, .int l4, .int l5] M (rs_mI x) (ms_mI x) := by
  refine Ct_of (by decide +kernel) (Nat.le_of_ble_eq_true rfl) fun X e1 e2 e3 C FN hnm => ?_
  subst e1; subst e2
  show wq X 8 0 [(0, .ref l0), (1, .int l1), (2, .int l2), (3, .int l3), (4, .int l4), (5, .int l5)] [] M
  exact w_X9_gains C FN.2.2.2 hl l0 l1 l2 l3 l4 l5 M h FN
/-! X9_isWhat -/
set_option maxRecDepth 100000 in
set_option maxHeartbeats 4000000 in
theorem w_X9_isWhat {X : CX} {y : Int32 × Mem} (C : CK X cX9_isWhat 3 RX9 8 162) (hRO : RO X.2.2.1 X.1.2.2.2.2.1 X.1.2.2.2.2.1.heap) (hl : X.1.2.1.stackTraces = false) (l0 : Nat) (l1 : Int32) (l2 : Int32) (M : Mem) (h : F_X9_isWhat l0 l1 l2 M = some y) (kf : FIN X (some .boolean) (rs_mI y) (ms_mI y)) : wq X 3 0 [(0, .ref l0), (1, .int l1), (2, .int l2)] [] M := by
  unfold F_X9_isWhat at h
  refine q_aload_n 0 C dX9_isWhat_0 rfl ?_
  refine q_iload_n 1 C dX9_isWhat_1 rfl ?_
  refine q_iconst (v := (0 : Int32)) C dX9_isWhat_2 (by decide) ?_
  refine q_iload_n 2 C dX9_isWhat_3 rfl ?_
  obtain ⟨v2, e1, h⟩ := bindE h
  refine q_callS (v := some (.int v2)) [.int l1, .int (0 : Int32), .int l2] C hRO lk_RX9_345 sk_X9_within rfl rfl (Nat.le_of_ble_eq_true rfl) (by decide) (by decide) dX9_isWhat_4 (k_X9_within X.1.2.1 hl X.2.2.1 l1 (0 : Int32) l2 M _ e1) ?_
  refine q_iconst (v := (1 : Int32)) C dX9_isWhat_7 (by decide) ?_
  obtain ⟨e3, h⟩ := ckOE h
  obtain ⟨v6, M5, e4, h⟩ := bd2E h
  refine q_callV (v := some (.int v6)) [.int v2, .int (1 : Int32)] C hRO lk_RX9_268 vk_X9_right e3 rfl rfl rfl (Nat.le_of_ble_eq_true rfl) (by decide) (by decide) dX9_isWhat_8 (k_X9_right X.1.2.1 hl X.2.2.1 l0 v2 (1 : Int32) M _ e4) ?_
  cases h
  exact q_zretE (w := (nz v6)) rfl C kf dX9_isWhat_11
theorem k_X9_isWhat (l : Launch) (hl : l.stackTraces = false) (G : GG) (l0 : Nat) (l1 : Int32) (l2 : Int32) (M : Mem) (x : Int32 × Mem) (h : F_X9_isWhat l0 l1 l2 M = some x) : Ct l G yX9_isWhat (.code yX9_isWhat cX9_isWhat 3 (some .boolean)) 8 162 [.ref l0, .int l1, .int l2] M (rs_mI x) (ms_mI x) := by
  refine Ct_of (by decide +kernel) (Nat.le_of_ble_eq_true rfl) fun X e1 e2 e3 C FN hnm => ?_
  subst e1; subst e2
  show wq X 3 0 [(0, .ref l0), (1, .int l1), (2, .int l2)] [] M
  exact w_X9_isWhat C FN.2.2.2 hl l0 l1 l2 M h FN
/-! X9_game -/
set_option maxRecDepth 100000 in
set_option maxHeartbeats 4000000 in
theorem w_X9_game_s68 {X : CX} {y : (Int32 × Int32 × Int32 × Mem) ⊕ (Int32 × Int32 × Mem)} (C : CK X cX9_game 10 RX9 13 283) (hRO : RO X.2.2.1 X.1.2.2.2.2.1 X.1.2.2.2.2.1.heap) (hl : X.1.2.1.stackTraces = false) (l0 : Nat) (l1 : Int32) (l2 : Int32) (l3 : Int32) (l4 : Int32) (l5 : Int32) (l6 : Int32) (l7 : Int32) (M : Mem) (h : F_X9_game_s68 l0 l1 l2 l3 l5 l6 l7 M = some y) (kc : ∀ s' : Int32 × Int32 × Int32 × Mem, y = .inl s' → wq X 10 68 [(0, .ref l0), (1, .int l1), (2, .int l2), (3, .int l3), (4, .int l4), (5, .int (s'.1)), (6, .int (s'.2.1)), (7, .int (s'.2.2.1))] [] s'.2.2.2) (kx : ∀ e' : Int32 × Int32 × Mem, y = (.inr e') → wq X 10 168 [(4, .int l4), (5, .int (e'.1)), (6, .int (e'.2.1))] [] e'.2.2) : wq X 10 68 [(0, .ref l0), (1, .int l1), (2, .int l2), (3, .int l3), (4, .int l4), (5, .int l5), (6, .int l6), (7, .int l7)] [] M := by
  unfold F_X9_game_s68 at h
  refine q_iload 7 C dX9_game_68 rfl ?_
  refine q_iconst (v := (4 : Int32)) C dX9_game_70 (by decide) ?_
  refine q_icmp_ge (tgt := 168) C dX9_game_71 (by decide) (fun c29 => ?_) (fun c29 => ?_)
  · have h := ifT c29 h
    exact q_sub (lv' := [(4, .int l4), (5, .int l5), (6, .int l6)]) [4, 5, 6] rfl (kx (l5, l6, M) (someI h))
  · have h := ifF c29 h
    refine q_iload 7 C dX9_game_74 rfl ?_
    refine q_iconst (v := (2 : Int32)) C dX9_game_76 (by decide) ?_
    refine q_idiv C (by decide) dX9_game_77 ?_
    refine q_istore (i := 8) (lv' := [(8, .int (l7 / (2 : Int32))), (0, .ref l0), (1, .int l1), (2, .int l2), (3, .int l3), (4, .int l4), (5, .int l5), (6, .int l6), (7, .int l7)]) C dX9_game_78 (by decide) rfl ?_
    refine q_iload 8 C dX9_game_80 rfl ?_
    refine q_iconst (v := (2 : Int32)) C dX9_game_82 (by decide) ?_
    refine q_irem C (by decide) dX9_game_83 ?_
    obtain ⟨n30, e31, h⟩ := nmE h
    refine q_topI e31 ?_
    refine q_istore (i := 9) (lv' := [(9, .int n30), (8, .int (l7 / (2 : Int32))), (0, .ref l0), (1, .int l1), (2, .int l2), (3, .int l3), (4, .int l4), (5, .int l5), (6, .int l6), (7, .int l7)]) C dX9_game_84 (by decide) rfl ?_
    refine q_aload_n 2 C dX9_game_86 rfl ?_
    refine q_iload_n 3 C dX9_game_87 rfl ?_
    refine q_iload_n 4 C dX9_game_88 rfl ?_
    refine q_iload_n 5 C dX9_game_89 rfl ?_
    refine q_iconst (v := (1 : Int32)) C dX9_game_90 (by decide) ?_
    refine q_iload 1 C dX9_game_91 rfl ?_
    refine q_isub C dX9_game_93 ?_
    refine q_iload 0 C dX9_game_94 rfl ?_
    obtain ⟨e32, h⟩ := ckOE h
    obtain ⟨v35, M34, e33, h⟩ := bd2E h
    refine q_callV (v := some (.int v35)) [.int l1, .int l2, .int l3, .int ((1 : Int32) - (l7 / (2 : Int32))), .int n30] C hRO lk_RX9_430 vk_X9_gains e32 rfl rfl rfl (Nat.le_of_ble_eq_true rfl) (by decide) (by decide) dX9_game_96 (k_X9_gains X.1.2.1 hl X.2.2.1 l0 l1 l2 l3 ((1 : Int32) - (l7 / (2 : Int32))) n30 M _ e33) ?_
    refine q_aload_n 2 C dX9_game_99 rfl ?_
    refine q_iload_n 3 C dX9_game_100 rfl ?_
    refine q_iload_n 4 C dX9_game_101 rfl ?_
    refine q_iload_n 5 C dX9_game_102 rfl ?_
    refine q_iload 1 C dX9_game_103 rfl ?_
    refine q_iload 0 C dX9_game_105 rfl ?_
    obtain ⟨e36, h⟩ := ckOE h
    obtain ⟨v39, M38, e37, h⟩ := bd2E h
    refine q_callV (v := some (.int v39)) [.int l1, .int l2, .int l3, .int (l7 / (2 : Int32)), .int n30] C hRO lk_RX9_430 vk_X9_gains e36 rfl rfl rfl (Nat.le_of_ble_eq_true rfl) (by decide) (by decide) dX9_game_107 (k_X9_gains X.1.2.1 hl X.2.2.1 l0 l1 l2 l3 (l7 / (2 : Int32)) n30 M34 _ e37) ?_
    refine q_icmp_gt (tgt := 162) C dX9_game_110 (by decide) (fun c40 => ?_) (fun c40 => ?_)
    · have h := ifT c40 h
      refine q_iinc 9 (v := (l7 + (1 : Int32))) (lv' := [(7, .int (l7 + (1 : Int32))), (9, .int n30), (8, .int (l7 / (2 : Int32))), (0, .ref l0), (1, .int l1), (2, .int l2), (3, .int l3), (4, .int l4), (5, .int l5), (6, .int l6)]) C dX9_game_162 rfl rfl (by decide) rfl ?_
      refine q_goto (tgt := 68) C dX9_game_165 (by decide) ?_
      exact q_sub (lv' := [(0, .ref l0), (1, .int l1), (2, .int l2), (3, .int l3), (4, .int l4), (5, .int l5), (6, .int l6), (7, .int (l7 + (1 : Int32)))]) [3, 4, 5, 6, 7, 8, 9, 0] rfl (kc (l5, l6, (l7 + (1 : Int32)), M38) (someI h))
    · have h := ifF c40 h
      refine q_aload_n 2 C dX9_game_113 rfl ?_
      refine q_iload_n 4 C dX9_game_114 rfl ?_
      refine q_iload_n 3 C dX9_game_115 rfl ?_
      refine q_iload_n 5 C dX9_game_116 rfl ?_
      refine q_iconst (v := (1 : Int32)) C dX9_game_117 (by decide) ?_
      refine q_iload 0 C dX9_game_118 rfl ?_
      refine q_isub C dX9_game_120 ?_
      refine q_iload 1 C dX9_game_121 rfl ?_
      obtain ⟨e41, h⟩ := ckOE h
      obtain ⟨v44, M43, e42, h⟩ := bd2E h
      refine q_callV (v := some (.int v44)) [.int l2, .int l1, .int l3, .int ((1 : Int32) - n30), .int (l7 / (2 : Int32))] C hRO lk_RX9_430 vk_X9_gains e41 rfl rfl rfl (Nat.le_of_ble_eq_true rfl) (by decide) (by decide) dX9_game_123 (k_X9_gains X.1.2.1 hl X.2.2.1 l0 l2 l1 l3 ((1 : Int32) - n30) (l7 / (2 : Int32)) M38 _ e42) ?_
      refine q_aload_n 2 C dX9_game_126 rfl ?_
      refine q_iload_n 4 C dX9_game_127 rfl ?_
      refine q_iload_n 3 C dX9_game_128 rfl ?_
      refine q_iload_n 5 C dX9_game_129 rfl ?_
      refine q_iload 0 C dX9_game_130 rfl ?_
      refine q_iload 1 C dX9_game_132 rfl ?_
      obtain ⟨e45, h⟩ := ckOE h
      obtain ⟨v48, M47, e46, h⟩ := bd2E h
      refine q_callV (v := some (.int v48)) [.int l2, .int l1, .int l3, .int n30, .int (l7 / (2 : Int32))] C hRO lk_RX9_430 vk_X9_gains e45 rfl rfl rfl (Nat.le_of_ble_eq_true rfl) (by decide) (by decide) dX9_game_134 (k_X9_gains X.1.2.1 hl X.2.2.1 l0 l2 l1 l3 n30 (l7 / (2 : Int32)) M43 _ e46) ?_
      refine q_icmp_le (tgt := 143) C dX9_game_137 (by decide) (fun c49 => ?_) (fun c49 => ?_)
      · have h := ifT c49 h
        refine q_iinc 7 (v := (l5 + (1 : Int32))) (lv' := [(5, .int (l5 + (1 : Int32))), (9, .int n30), (8, .int (l7 / (2 : Int32))), (0, .ref l0), (1, .int l1), (2, .int l2), (3, .int l3), (4, .int l4), (6, .int l6), (7, .int l7)]) C dX9_game_143 rfl rfl (by decide) rfl ?_
        refine q_iload 8 C dX9_game_146 rfl ?_
        refine q_iconst (v := (-1 : Int32)) C dX9_game_148 (by decide) ?_
        refine q_icmp_ne (tgt := 162) C dX9_game_149 (by decide) (fun c50 => ?_) (fun c50 => ?_)
        · have h := ifF c50 h
          refine q_iinc 9 (v := (l7 + (1 : Int32))) (lv' := [(7, .int (l7 + (1 : Int32))), (5, .int (l5 + (1 : Int32))), (9, .int n30), (8, .int (l7 / (2 : Int32))), (0, .ref l0), (1, .int l1), (2, .int l2), (3, .int l3), (4, .int l4), (6, .int l6)]) C dX9_game_162 rfl rfl (by decide) rfl ?_
          refine q_goto (tgt := 68) C dX9_game_165 (by decide) ?_
          exact q_sub (lv' := [(0, .ref l0), (1, .int l1), (2, .int l2), (3, .int l3), (4, .int l4), (5, .int (l5 + (1 : Int32))), (6, .int l6), (7, .int (l7 + (1 : Int32)))]) [4, 5, 6, 7, 8, 1, 9, 0] rfl (kc ((l5 + (1 : Int32)), l6, (l7 + (1 : Int32)), M47) (someI h))
        · have h := ifT c50 h
          refine q_bipush (v := (10 : Int32)) C dX9_game_152 (by decide) ?_
          refine q_iload 2 C dX9_game_154 rfl ?_
          refine q_imul C dX9_game_156 ?_
          refine q_iload 1 C dX9_game_157 rfl ?_
          refine q_iadd C dX9_game_159 ?_
          obtain ⟨n51, e52, h⟩ := nmE h
          refine q_topI e52 ?_
          refine q_istore (i := 6) (lv' := [(6, .int n51), (5, .int (l5 + (1 : Int32))), (9, .int n30), (8, .int (l7 / (2 : Int32))), (0, .ref l0), (1, .int l1), (2, .int l2), (3, .int l3), (4, .int l4), (7, .int l7)]) C dX9_game_160 (by decide) rfl ?_
          refine q_iinc 9 (v := (l7 + (1 : Int32))) (lv' := [(7, .int (l7 + (1 : Int32))), (6, .int n51), (5, .int (l5 + (1 : Int32))), (9, .int n30), (8, .int (l7 / (2 : Int32))), (0, .ref l0), (1, .int l1), (2, .int l2), (3, .int l3), (4, .int l4)]) C dX9_game_162 rfl rfl (by decide) rfl ?_
          refine q_goto (tgt := 68) C dX9_game_165 (by decide) ?_
          exact q_sub (lv' := [(0, .ref l0), (1, .int l1), (2, .int l2), (3, .int l3), (4, .int l4), (5, .int (l5 + (1 : Int32))), (6, .int n51), (7, .int (l7 + (1 : Int32)))]) [5, 6, 7, 8, 9, 2, 1, 0] rfl (kc ((l5 + (1 : Int32)), n51, (l7 + (1 : Int32)), M47) (someI h))
      · have h := ifF c49 h
        refine q_goto (tgt := 162) C dX9_game_140 (by decide) ?_
        refine q_iinc 9 (v := (l7 + (1 : Int32))) (lv' := [(7, .int (l7 + (1 : Int32))), (9, .int n30), (8, .int (l7 / (2 : Int32))), (0, .ref l0), (1, .int l1), (2, .int l2), (3, .int l3), (4, .int l4), (5, .int l5), (6, .int l6)]) C dX9_game_162 rfl rfl (by decide) rfl ?_
        refine q_goto (tgt := 68) C dX9_game_165 (by decide) ?_
        exact q_sub (lv' := [(0, .ref l0), (1, .int l1), (2, .int l2), (3, .int l3), (4, .int l4), (5, .int l5), (6, .int l6), (7, .int (l7 + (1 : Int32)))]) [3, 4, 5, 6, 7, 8, 9, 0] rfl (kc (l5, l6, (l7 + (1 : Int32)), M47) (someI h))
theorem w_X9_game_l68 {X : CX} {r : Int32 × Int32 × Mem} (C : CK X cX9_game 10 RX9 13 283) (hRO : RO X.2.2.1 X.1.2.2.2.2.1 X.1.2.2.2.2.1.heap) (hl : X.1.2.1.stackTraces = false) (l0 : Nat) (l1 : Int32) (l2 : Int32) (l3 : Int32) (l4 : Int32) (l5 : Int32) (l6 : Int32) (l7 : Int32) (M : Mem) (h : loop (fun s => F_X9_game_s68 l0 l1 l2 l3 s.1 s.2.1 s.2.2.1 s.2.2.2) (l5, l6, l7, M) = some r) (kx : ∀ e' : Int32 × Int32 × Mem, r = e' → wq X 10 168 [(4, .int l4), (5, .int (e'.1)), (6, .int (e'.2.1))] [] e'.2.2) : wq X 10 68 [(0, .ref l0), (1, .int l1), (2, .int l2), (3, .int l3), (4, .int l4), (5, .int l5), (6, .int l6), (7, .int l7)] [] M :=
  loop_ind (P := fun s => wq X 10 68 [(0, .ref l0), (1, .int l1), (2, .int l2), (3, .int l3), (4, .int l4), (5, .int s.1), (6, .int s.2.1), (7, .int s.2.2.1)] [] s.2.2.2) h (fun s y hy kc kr => w_X9_game_s68 C hRO hl l0 l1 l2 l3 l4 s.1 s.2.1 s.2.2.1 s.2.2.2 hy kc (fun e' he => kx e' (kr _ he).symm))
set_option maxRecDepth 100000 in
set_option maxHeartbeats 4000000 in
theorem w_X9_game_j50 {X : CX} {y : Int32 × Mem} (C : CK X cX9_game 10 RX9 13 283) (hRO : RO X.2.2.1 X.1.2.2.2.2.1 X.1.2.2.2.2.1.heap) (hl : X.1.2.1.stackTraces = false) (l0 : Nat) (l1 : Int32) (l2 : Int32) (l3 : Int32) (l4 : Int32) (t0 : Int32) (t1 : Nat) (M : Mem) (h : F_X9_game_j50 l0 l1 l2 l3 l4 t0 t1 M = some y) (kf : FIN X (some .int) (rs_mI y) (ms_mI y)) : wq X 10 50 [(0, .ref l0), (1, .int l1), (2, .int l2), (3, .int l3), (4, .int l4)] [.int t0, .ref t1] M := by
  unfold F_X9_game_j50 at h
  refine q_iconst (v := (2 : Int32)) C dX9_game_50 (by decide) ?_
  obtain ⟨e24, h⟩ := ckOE h
  obtain ⟨v27, M26, e25, h⟩ := bd2E h
  refine q_callV (v := some (.int v27)) [.int t0, .int (2 : Int32)] C hRO lk_RX9_268 vk_X9_right e24 rfl rfl rfl (Nat.le_of_ble_eq_true rfl) (by decide) (by decide) dX9_game_51 (k_X9_right X.1.2.1 hl X.2.2.1 t1 t0 (2 : Int32) M _ e25) ?_
  refine q_if_ne (tgt := 59) C dX9_game_54 (by decide) (fun c28 => ?_) (fun c28 => ?_)
  · have h := ifF c28 h
    refine q_iconst (v := (0 : Int32)) C dX9_game_59 (by decide) ?_
    refine q_istore (i := 5) (lv' := [(5, .int (0 : Int32)), (0, .ref l0), (1, .int l1), (2, .int l2), (3, .int l3), (4, .int l4)]) C dX9_game_60 (by decide) rfl ?_
    refine q_iconst (v := (-1 : Int32)) C dX9_game_62 (by decide) ?_
    refine q_istore (i := 6) (lv' := [(6, .int (-1 : Int32)), (5, .int (0 : Int32)), (0, .ref l0), (1, .int l1), (2, .int l2), (3, .int l3), (4, .int l4)]) C dX9_game_63 (by decide) rfl ?_
    refine q_iconst (v := (0 : Int32)) C dX9_game_65 (by decide) ?_
    refine q_istore (i := 7) (lv' := [(7, .int (0 : Int32)), (6, .int (-1 : Int32)), (5, .int (0 : Int32)), (0, .ref l0), (1, .int l1), (2, .int l2), (3, .int l3), (4, .int l4)]) C dX9_game_66 (by decide) rfl ?_
    obtain ⟨⟨x55, x56, M57⟩, e54, h⟩ := bindE h
    refine q_sub (lv' := [(0, .ref l0), (1, .int l1), (2, .int l2), (3, .int l3), (4, .int l4), (5, .int (0 : Int32)), (6, .int (-1 : Int32)), (7, .int (0 : Int32))]) [3, 4, 5, 6, 7, 2, 1, 0] rfl (w_X9_game_l68 C hRO hl l0 l1 l2 l3 l4 (0 : Int32) (-1 : Int32) (0 : Int32) M26 e54 (fun r53 he => ?_))
    subst he
    have h := u3E h
    show wq X 10 168 [(4, .int l4), (5, .int x55), (6, .int x56)] [] M57
    refine q_iload 0 C dX9_game_168 rfl ?_
    refine q_if_ne (tgt := 178) C dX9_game_170 (by decide) (fun c58 => ?_) (fun c58 => ?_)
    · have h := ifF c58 h
      refine q_iload 2 C dX9_game_178 rfl ?_
      cases h
      exact q_iret C kf dX9_game_180
    · have h := ifT c58 h
      refine q_iload 1 C dX9_game_173 rfl ?_
      refine q_goto (tgt := 180) C dX9_game_175 (by decide) ?_
      cases h
      exact q_iret C kf dX9_game_180
  · have h := ifT c28 h
    refine q_iconst (v := (0 : Int32)) C dX9_game_57 (by decide) ?_
    cases h
    exact q_iret C kf dX9_game_58
set_option maxRecDepth 100000 in
set_option maxHeartbeats 4000000 in
theorem w_X9_game {X : CX} {y : Int32 × Mem} (C : CK X cX9_game 10 RX9 13 283) (hRO : RO X.2.2.1 X.1.2.2.2.2.1 X.1.2.2.2.2.1.heap) (hl : X.1.2.1.stackTraces = false) (l0 : Nat) (l1 : Int32) (l2 : Int32) (l3 : Int32) (l4 : Int32) (M : Mem) (h : F_X9_game l0 l1 l2 l3 l4 M = some y) (kf : FIN X (some .int) (rs_mI y) (ms_mI y)) : wq X 10 0 [(0, .ref l0), (1, .int l1), (2, .int l2), (3, .int l3), (4, .int l4)] [] M := by
  unfold F_X9_game at h
  refine q_aload_n 0 C dX9_game_0 rfl ?_
  refine q_iconst (v := (0 : Int32)) C dX9_game_1 (by decide) ?_
  obtain ⟨M1, e2, h⟩ := bindE h
  refine q_putI C fp_RX9_111 rfl e2 dX9_game_2 ?_
  refine q_aload_n 0 C dX9_game_5 rfl ?_
  refine q_iload_n 1 C dX9_game_6 rfl ?_
  obtain ⟨e3, h⟩ := ckOE h
  obtain ⟨v6, M5, e4, h⟩ := bd2E h
  refine q_callV (v := some (.int v6)) [.int l1] C hRO lk_RX9_379 vk_X9_isPerson e3 rfl rfl rfl (Nat.le_of_ble_eq_true rfl) (by decide) (by decide) dX9_game_7 (k_X9_isPerson X.1.2.1 hl X.2.2.1 l0 l1 M1 _ e4) ?_
  refine q_if_eq (tgt := 57) C dX9_game_10 (by decide) (fun c7 => ?_) (fun c7 => ?_)
  · have h := ifT c7 h
    refine q_iconst (v := (0 : Int32)) C dX9_game_57 (by decide) ?_
    cases h
    exact q_iret C kf dX9_game_58
  · have h := ifF c7 h
    refine q_aload_n 0 C dX9_game_13 rfl ?_
    refine q_iload_n 2 C dX9_game_14 rfl ?_
    obtain ⟨e8, h⟩ := ckOE h
    obtain ⟨v11, M10, e9, h⟩ := bd2E h
    refine q_callV (v := some (.int v11)) [.int l2] C hRO lk_RX9_379 vk_X9_isPerson e8 rfl rfl rfl (Nat.le_of_ble_eq_true rfl) (by decide) (by decide) dX9_game_15 (k_X9_isPerson X.1.2.1 hl X.2.2.1 l0 l2 M5 _ e9) ?_
    refine q_if_eq (tgt := 57) C dX9_game_18 (by decide) (fun c12 => ?_) (fun c12 => ?_)
    · have h := ifT c12 h
      refine q_iconst (v := (0 : Int32)) C dX9_game_57 (by decide) ?_
      cases h
      exact q_iret C kf dX9_game_58
    · have h := ifF c12 h
      refine q_aload_n 0 C dX9_game_21 rfl ?_
      refine q_iload_n 3 C dX9_game_22 rfl ?_
      obtain ⟨e13, h⟩ := ckOE h
      obtain ⟨v16, M15, e14, h⟩ := bd2E h
      refine q_callV (v := some (.int v16)) [.int l3] C hRO lk_RX9_367 vk_X9_isHouse e13 rfl rfl rfl (Nat.le_of_ble_eq_true rfl) (by decide) (by decide) dX9_game_23 (k_X9_isHouse X.1.2.1 hl X.2.2.1 l0 l3 M10 _ e14) ?_
      refine q_if_eq (tgt := 57) C dX9_game_26 (by decide) (fun c17 => ?_) (fun c17 => ?_)
      · have h := ifT c17 h
        refine q_iconst (v := (0 : Int32)) C dX9_game_57 (by decide) ?_
        cases h
        exact q_iret C kf dX9_game_58
      · have h := ifF c17 h
        refine q_aload_n 0 C dX9_game_29 rfl ?_
        refine q_iload 4 C dX9_game_30 rfl ?_
        refine q_iconst (v := (1 : Int32)) C dX9_game_32 (by decide) ?_
        obtain ⟨e18, h⟩ := ckOE h
        obtain ⟨v21, M20, e19, h⟩ := bd2E h
        refine q_callV (v := some (.int v21)) [.int l4, .int (1 : Int32)] C hRO lk_RX9_370 vk_X9_isWhat e18 rfl rfl rfl (Nat.le_of_ble_eq_true rfl) (by decide) (by decide) dX9_game_33 (k_X9_isWhat X.1.2.1 hl X.2.2.1 l0 l4 (1 : Int32) M15 _ e19) ?_
        refine q_if_eq (tgt := 57) C dX9_game_36 (by decide) (fun c22 => ?_) (fun c22 => ?_)
        · have h := ifT c22 h
          refine q_iconst (v := (0 : Int32)) C dX9_game_57 (by decide) ?_
          cases h
          exact q_iret C kf dX9_game_58
        · have h := ifF c22 h
          refine q_aload_n 0 C dX9_game_39 rfl ?_
          refine q_iload_n 1 C dX9_game_40 rfl ?_
          refine q_iload_n 2 C dX9_game_41 rfl ?_
          refine q_icmp_eq (tgt := 49) C dX9_game_42 (by decide) (fun c23 => ?_) (fun c23 => ?_)
          · have h := ifT c23 h
            refine q_iconst (v := (0 : Int32)) C dX9_game_49 (by decide) ?_
            exact q_sub (lv' := [(0, .ref l0), (1, .int l1), (2, .int l2), (3, .int l3), (4, .int l4)]) [0, 1, 2, 3, 4] rfl (w_X9_game_j50 C hRO hl l0 l1 l2 l3 l4 (0 : Int32) l0 M20 h kf)
          · have h := ifF c23 h
            refine q_iconst (v := (1 : Int32)) C dX9_game_45 (by decide) ?_
            refine q_goto (tgt := 50) C dX9_game_46 (by decide) ?_
            exact q_sub (lv' := [(0, .ref l0), (1, .int l1), (2, .int l2), (3, .int l3), (4, .int l4)]) [0, 1, 2, 3, 4] rfl (w_X9_game_j50 C hRO hl l0 l1 l2 l3 l4 (1 : Int32) l0 M20 h kf)
theorem k_X9_game (l : Launch) (hl : l.stackTraces = false) (G : GG) (l0 : Nat) (l1 : Int32) (l2 : Int32) (l3 : Int32) (l4 : Int32) (M : Mem) (x : Int32 × Mem) (h : F_X9_game l0 l1 l2 l3 l4 M = some x) : Ct l G yX9_game (.code yX9_game cX9_game 10 (some .int)) 13 283 [.ref l0, .int l1, .int l2, .int l3, .int l4] M (rs_mI x) (ms_mI x) := by
  refine Ct_of (by decide +kernel) (Nat.le_of_ble_eq_true rfl) fun X e1 e2 e3 C FN hnm => ?_
  subst e1; subst e2
  show wq X 10 0 [(0, .ref l0), (1, .int l1), (2, .int l2), (3, .int l3), (4, .int l4)] [] M
  exact w_X9_game C FN.2.2.2 hl l0 l1 l2 l3 l4 M h FN
/-! X9_goes -/
set_option maxRecDepth 100000 in
set_option maxHeartbeats 4000000 in
theorem w_X9_goes_s19 {X : CX} {y : (Int32 × Int32 × Mem) ⊕ (Int32 × Mem)} (C : CK X cX9_goes 4 RX9 12 256) (hRO : RO X.2.2.1 X.1.2.2.2.2.1 X.1.2.2.2.2.1.heap) (hl : X.1.2.1.stackTraces = false) (l0 : Nat) (l1 : Int32) (l2 : Int32) (l3 : Int32) (M : Mem) (h : F_X9_goes_s19 l0 l1 l2 l3 M = some y) (kc : ∀ s' : Int32 × Int32 × Mem, y = .inl s' → wq X 4 19 [(0, .ref l0), (1, .int l1), (2, .int (s'.1)), (3, .int (s'.2.1))] [] s'.2.2) (kx : ∀ e' : Int32 × Mem, y = (.inr e') → wq X 4 53 [(2, .int (e'.1))] [] e'.2) : wq X 4 19 [(0, .ref l0), (1, .int l1), (2, .int l2), (3, .int l3)] [] M := by
  unfold F_X9_goes_s19 at h
  refine q_iload_n 3 C dX9_goes_19 rfl ?_
  refine q_aload_n 0 C dX9_goes_20 rfl ?_
  obtain ⟨v8, e9, h⟩ := bindE h
  refine q_getI C fl_RX9_275 rfl e9 dX9_goes_21 ?_
  refine q_icmp_ge (tgt := 53) C dX9_goes_24 (by decide) (fun c10 => ?_) (fun c10 => ?_)
  · have h := ifT c10 h
    exact q_sub (lv' := [(2, .int l2)]) [2] rfl (kx (l2, M) (someI h))
  · have h := ifF c10 h
    refine q_iload_n 2 C dX9_goes_27 rfl ?_
    refine q_aload_n 0 C dX9_goes_28 rfl ?_
    refine q_iconst (v := (0 : Int32)) C dX9_goes_29 (by decide) ?_
    refine q_iload_n 1 C dX9_goes_30 rfl ?_
    refine q_iload_n 3 C dX9_goes_31 rfl ?_
    obtain ⟨e11, h⟩ := ckOE h
    obtain ⟨v14, M13, e12, h⟩ := bd2E h
    refine q_callV (v := some (.int v14)) [.int (0 : Int32), .int l1, .int l3] C hRO lk_RX9_388 vk_X9_wouldGo e11 rfl rfl rfl (Nat.le_of_ble_eq_true rfl) (by decide) (by decide) dX9_goes_32 (k_X9_wouldGo X.1.2.1 hl X.2.2.1 l0 (0 : Int32) l1 l3 M _ e12) ?_
    refine q_if_eq (tgt := 44) C dX9_goes_35 (by decide) (fun c15 => ?_) (fun c15 => ?_)
    · have h := ifT c15 h
      refine q_iconst (v := (0 : Int32)) C dX9_goes_44 (by decide) ?_
      refine q_ior C dX9_goes_45 ?_
      refine q_istore_n (i := 2) (lv' := [(2, .int (l2 ||| (0 : Int32))), (0, .ref l0), (1, .int l1), (3, .int l3)]) C dX9_goes_46 rfl (by decide) rfl ?_
      refine q_iinc 3 (v := (l3 + (1 : Int32))) (lv' := [(3, .int (l3 + (1 : Int32))), (2, .int (l2 ||| (0 : Int32))), (0, .ref l0), (1, .int l1)]) C dX9_goes_47 rfl rfl (by decide) rfl ?_
      refine q_goto (tgt := 19) C dX9_goes_50 (by decide) ?_
      exact q_sub (lv' := [(0, .ref l0), (1, .int l1), (2, .int (l2 ||| (0 : Int32))), (3, .int (l3 + (1 : Int32)))]) [2, 3, 1, 0] rfl (kc ((l2 ||| (0 : Int32)), (l3 + (1 : Int32)), M13) (someI h))
    · have h := ifF c15 h
      refine q_iconst (v := (1 : Int32)) C dX9_goes_38 (by decide) ?_
      refine q_iload_n 3 C dX9_goes_39 rfl ?_
      refine q_ishl C dX9_goes_40 ?_
      refine q_goto (tgt := 45) C dX9_goes_41 (by decide) ?_
      refine q_ior C dX9_goes_45 ?_
      obtain ⟨n16, e17, h⟩ := nmE h
      refine q_topI e17 ?_
      refine q_istore_n (i := 2) (lv' := [(2, .int n16), (0, .ref l0), (1, .int l1), (3, .int l3)]) C dX9_goes_46 rfl (by decide) rfl ?_
      refine q_iinc 3 (v := (l3 + (1 : Int32))) (lv' := [(3, .int (l3 + (1 : Int32))), (2, .int n16), (0, .ref l0), (1, .int l1)]) C dX9_goes_47 rfl rfl (by decide) rfl ?_
      refine q_goto (tgt := 19) C dX9_goes_50 (by decide) ?_
      exact q_sub (lv' := [(0, .ref l0), (1, .int l1), (2, .int n16), (3, .int (l3 + (1 : Int32)))]) [2, 3, 1, 0] rfl (kc (n16, (l3 + (1 : Int32)), M13) (someI h))
theorem w_X9_goes_l19 {X : CX} {r : Int32 × Mem} (C : CK X cX9_goes 4 RX9 12 256) (hRO : RO X.2.2.1 X.1.2.2.2.2.1 X.1.2.2.2.2.1.heap) (hl : X.1.2.1.stackTraces = false) (l0 : Nat) (l1 : Int32) (l2 : Int32) (l3 : Int32) (M : Mem) (h : loop (fun s => F_X9_goes_s19 l0 l1 s.1 s.2.1 s.2.2) (l2, l3, M) = some r) (kx : ∀ e' : Int32 × Mem, r = e' → wq X 4 53 [(2, .int (e'.1))] [] e'.2) : wq X 4 19 [(0, .ref l0), (1, .int l1), (2, .int l2), (3, .int l3)] [] M :=
  loop_ind (P := fun s => wq X 4 19 [(0, .ref l0), (1, .int l1), (2, .int s.1), (3, .int s.2.1)] [] s.2.2) h (fun s y hy kc kr => w_X9_goes_s19 C hRO hl l0 l1 s.1 s.2.1 s.2.2 hy kc (fun e' he => kx e' (kr _ he).symm))
set_option maxRecDepth 100000 in
set_option maxHeartbeats 4000000 in
theorem w_X9_goes {X : CX} {y : Int32 × Mem} (C : CK X cX9_goes 4 RX9 12 256) (hRO : RO X.2.2.1 X.1.2.2.2.2.1 X.1.2.2.2.2.1.heap) (hl : X.1.2.1.stackTraces = false) (l0 : Nat) (l1 : Int32) (M : Mem) (h : F_X9_goes l0 l1 M = some y) (kf : FIN X (some .int) (rs_mI y) (ms_mI y)) : wq X 4 0 [(0, .ref l0), (1, .int l1)] [] M := by
  unfold F_X9_goes at h
  refine q_aload_n 0 C dX9_goes_0 rfl ?_
  refine q_iconst (v := (0 : Int32)) C dX9_goes_1 (by decide) ?_
  obtain ⟨M1, e2, h⟩ := bindE h
  refine q_putI C fp_RX9_111 rfl e2 dX9_goes_2 ?_
  refine q_aload_n 0 C dX9_goes_5 rfl ?_
  refine q_iload_n 1 C dX9_goes_6 rfl ?_
  obtain ⟨e3, h⟩ := ckOE h
  obtain ⟨v6, M5, e4, h⟩ := bd2E h
  refine q_callV (v := some (.int v6)) [.int l1] C hRO lk_RX9_379 vk_X9_isPerson e3 rfl rfl rfl (Nat.le_of_ble_eq_true rfl) (by decide) (by decide) dX9_goes_7 (k_X9_isPerson X.1.2.1 hl X.2.2.1 l0 l1 M1 _ e4) ?_
  refine q_if_ne (tgt := 15) C dX9_goes_10 (by decide) (fun c7 => ?_) (fun c7 => ?_)
  · have h := ifF c7 h
    refine q_iconst (v := (0 : Int32)) C dX9_goes_15 (by decide) ?_
    refine q_istore_n (i := 2) (lv' := [(2, .int (0 : Int32)), (0, .ref l0), (1, .int l1)]) C dX9_goes_16 rfl (by decide) rfl ?_
    refine q_iconst (v := (0 : Int32)) C dX9_goes_17 (by decide) ?_
    refine q_istore_n (i := 3) (lv' := [(3, .int (0 : Int32)), (2, .int (0 : Int32)), (0, .ref l0), (1, .int l1)]) C dX9_goes_18 rfl (by decide) rfl ?_
    obtain ⟨⟨x20, M21⟩, e19, h⟩ := bindE h
    refine q_sub (lv' := [(0, .ref l0), (1, .int l1), (2, .int (0 : Int32)), (3, .int (0 : Int32))]) [2, 3, 1, 0] rfl (w_X9_goes_l19 C hRO hl l0 l1 (0 : Int32) (0 : Int32) M5 e19 (fun r18 he => ?_))
    subst he
    have h := u2E h
    show wq X 4 53 [(2, .int x20)] [] M21
    refine q_iload_n 0 C dX9_goes_53 rfl ?_
    cases h
    exact q_iret C kf dX9_goes_54
  · have h := ifT c7 h
    refine q_iconst (v := (0 : Int32)) C dX9_goes_13 (by decide) ?_
    cases h
    exact q_iret C kf dX9_goes_14
theorem k_X9_goes (l : Launch) (hl : l.stackTraces = false) (G : GG) (l0 : Nat) (l1 : Int32) (M : Mem) (x : Int32 × Mem) (h : F_X9_goes l0 l1 M = some x) : Ct l G yX9_goes (.code yX9_goes cX9_goes 4 (some .int)) 12 256 [.ref l0, .int l1] M (rs_mI x) (ms_mI x) := by
  refine Ct_of (by decide +kernel) (Nat.le_of_ble_eq_true rfl) fun X e1 e2 e3 C FN hnm => ?_
  subst e1; subst e2
  show wq X 4 0 [(0, .ref l0), (1, .int l1)] [] M
  exact w_X9_goes C FN.2.2.2 hl l0 l1 M h FN
/-! X9_happens -/
set_option maxRecDepth 100000 in
set_option maxHeartbeats 4000000 in
theorem w_X9_happens {X : CX} {y : Mem} (C : CK X cX9_happens 3 RX9 12 256) (hRO : RO X.2.2.1 X.1.2.2.2.2.1 X.1.2.2.2.2.1.heap) (hl : X.1.2.1.stackTraces = false) (l0 : Nat) (M : Mem) (h : F_X9_happens l0 M = some y) (kf : FIN X none (rs_mV y) (ms_mV y)) : wq X 3 0 [(0, .ref l0)] [] M := by
  unfold F_X9_happens at h
  refine q_aload_n 0 C dX9_happens_0 rfl ?_
  refine q_aload_n 0 C dX9_happens_1 rfl ?_
  obtain ⟨v1, e2, h⟩ := bindE h
  refine q_getI C fl_RX9_278 rfl e2 dX9_happens_2 ?_
  obtain ⟨e3, h⟩ := ckOE h
  obtain ⟨v6, M5, e4, h⟩ := bd2E h
  refine q_callV (v := some (.int v6)) [.int v1] C hRO lk_RX9_438 vk_X9_draw e3 rfl rfl rfl (Nat.le_of_ble_eq_true rfl) (by decide) (by decide) dX9_happens_5 (k_X9_draw X.1.2.1 hl X.2.2.1 l0 v1 M _ e4) ?_
  refine q_istore_n (i := 1) (lv' := [(1, .int v6), (0, .ref l0)]) C dX9_happens_8 rfl (by decide) rfl ?_
  refine q_aload_n 1 C dX9_happens_9 rfl ?_
  refine q_aload_n 1 C dX9_happens_10 rfl ?_
  obtain ⟨v7, e8, h⟩ := bindE h
  refine q_getI C fl_RX9_275 rfl e8 dX9_happens_11 ?_
  obtain ⟨e9, h⟩ := ckOE h
  obtain ⟨v12, M11, e10, h⟩ := bd2E h
  refine q_callV (v := some (.int v12)) [.int v7] C hRO lk_RX9_438 vk_X9_draw e9 rfl rfl rfl (Nat.le_of_ble_eq_true rfl) (by decide) (by decide) dX9_happens_14 (k_X9_draw X.1.2.1 hl X.2.2.1 l0 v7 M5 _ e10) ?_
  refine q_istore_n (i := 2) (lv' := [(2, .int v12), (1, .int v6), (0, .ref l0)]) C dX9_happens_17 rfl (by decide) rfl ?_
  refine q_aload_n 2 C dX9_happens_18 rfl ?_
  refine q_bipush (v := (43 : Int32)) C dX9_happens_19 (by decide) ?_
  refine q_iload_n 1 C dX9_happens_21 rfl ?_
  obtain ⟨e13, h⟩ := ckOE h
  obtain ⟨v15, e14, h⟩ := bindE h
  refine q_callV (v := some (.int v15)) [.int (43 : Int32), .int v6] C hRO lk_RX9_339 vk_X9_houseOf e13 rfl rfl rfl (Nat.le_of_ble_eq_true rfl) (by decide) (by decide) dX9_happens_22 (k_X9_houseOf X.1.2.1 hl X.2.2.1 l0 (43 : Int32) v6 M11 _ e14) ?_
  refine q_iconst (v := (-1 : Int32)) C dX9_happens_25 (by decide) ?_
  refine q_icmp_ne (tgt := 63) C dX9_happens_26 (by decide) (fun c16 => ?_) (fun c16 => ?_)
  · have h := ifF c16 h
    cases h
    exact q_vret C kf dX9_happens_63
  · have h := ifT c16 h
    refine q_aload_n 2 C dX9_happens_29 rfl ?_
    obtain ⟨v17, e18, h⟩ := bindE h
    refine q_getP C fl_RX9_66 rfl e18 dX9_happens_30 ?_
    refine q_bipush (v := (62 : Int32)) C dX9_happens_33 (by decide) ?_
    refine q_iload_n 0 C dX9_happens_35 rfl ?_
    refine q_iadd C dX9_happens_36 ?_
    obtain ⟨v19, e20, h⟩ := bindE h
    refine q_iaload C e20 dX9_happens_37 ?_
    refine q_iconst (v := (-1 : Int32)) C dX9_happens_38 (by decide) ?_
    refine q_icmp_ne (tgt := 63) C dX9_happens_39 (by decide) (fun c21 => ?_) (fun c21 => ?_)
    · have h := ifF c21 h
      cases h
      exact q_vret C kf dX9_happens_63
    · have h := ifT c21 h
      refine q_aload_n 2 C dX9_happens_42 rfl ?_
      refine q_bipush (v := (43 : Int32)) C dX9_happens_43 (by decide) ?_
      refine q_iload_n 1 C dX9_happens_45 rfl ?_
      refine q_iload_n 0 C dX9_happens_46 rfl ?_
      obtain ⟨e22, h⟩ := ckOE h
      obtain ⟨v25, M24, e23, h⟩ := bd2E h
      refine q_callV (v := some (.int v25)) [.int (43 : Int32), .int v6, .int v12] C hRO lk_RX9_388 vk_X9_wouldGo e22 rfl rfl rfl (Nat.le_of_ble_eq_true rfl) (by decide) (by decide) dX9_happens_47 (k_X9_wouldGo X.1.2.1 hl X.2.2.1 l0 (43 : Int32) v6 v12 M11 _ e23) ?_
      refine q_if_eq (tgt := 63) C dX9_happens_50 (by decide) (fun c26 => ?_) (fun c26 => ?_)
      · have h := ifT c26 h
        cases h
        exact q_vret C kf dX9_happens_63
      · have h := ifF c26 h
        refine q_aload_n 2 C dX9_happens_53 rfl ?_
        obtain ⟨v27, e28, h⟩ := bindE h
        refine q_getP C fl_RX9_66 rfl e28 dX9_happens_54 ?_
        refine q_bipush (v := (62 : Int32)) C dX9_happens_57 (by decide) ?_
        refine q_iload_n 0 C dX9_happens_59 rfl ?_
        refine q_iadd C dX9_happens_60 ?_
        refine q_iload_n 1 C dX9_happens_61 rfl ?_
        obtain ⟨M29, e30, h⟩ := bindE h
        refine q_iastore C e30 dX9_happens_62 ?_
        cases h
        exact q_vret C kf dX9_happens_63
theorem k_X9_happens (l : Launch) (hl : l.stackTraces = false) (G : GG) (l0 : Nat) (M : Mem) (x : Mem) (h : F_X9_happens l0 M = some x) : Ct l G yX9_happens (.code yX9_happens cX9_happens 3 none) 12 256 [.ref l0] M (rs_mV x) (ms_mV x) := by
  refine Ct_of (by decide +kernel) (Nat.le_of_ble_eq_true rfl) fun X e1 e2 e3 C FN hnm => ?_
  subst e1; subst e2
  show wq X 3 0 [(0, .ref l0)] [] M
  exact w_X9_happens C FN.2.2.2 hl l0 M h FN
/-! X9_heirs -/
set_option maxRecDepth 100000 in
set_option maxHeartbeats 4000000 in
theorem w_X9_heirs_s19 {X : CX} {y : (Int32 × Int32 × Mem) ⊕ (Int32 × Mem)} (C : CK X cX9_heirs 4 RX9 12 256) (hRO : RO X.2.2.1 X.1.2.2.2.2.1 X.1.2.2.2.2.1.heap) (hl : X.1.2.1.stackTraces = false) (l0 : Nat) (l1 : Int32) (l2 : Int32) (l3 : Int32) (M : Mem) (h : F_X9_heirs_s19 l0 l1 l2 l3 M = some y) (kc : ∀ s' : Int32 × Int32 × Mem, y = .inl s' → wq X 4 19 [(0, .ref l0), (1, .int l1), (2, .int (s'.1)), (3, .int (s'.2.1))] [] s'.2.2) (kx : ∀ e' : Int32 × Mem, y = (.inr e') → wq X 4 53 [(2, .int (e'.1))] [] e'.2) : wq X 4 19 [(0, .ref l0), (1, .int l1), (2, .int l2), (3, .int l3)] [] M := by
  unfold F_X9_heirs_s19 at h
  refine q_iload_n 3 C dX9_heirs_19 rfl ?_
  refine q_aload_n 0 C dX9_heirs_20 rfl ?_
  obtain ⟨v8, e9, h⟩ := bindE h
  refine q_getI C fl_RX9_278 rfl e9 dX9_heirs_21 ?_
  refine q_icmp_ge (tgt := 53) C dX9_heirs_24 (by decide) (fun c10 => ?_) (fun c10 => ?_)
  · have h := ifT c10 h
    exact q_sub (lv' := [(2, .int l2)]) [2] rfl (kx (l2, M) (someI h))
  · have h := ifF c10 h
    refine q_iload_n 2 C dX9_heirs_27 rfl ?_
    refine q_aload_n 0 C dX9_heirs_28 rfl ?_
    refine q_iconst (v := (0 : Int32)) C dX9_heirs_29 (by decide) ?_
    refine q_iload_n 3 C dX9_heirs_30 rfl ?_
    refine q_iload_n 1 C dX9_heirs_31 rfl ?_
    obtain ⟨e11, h⟩ := ckOE h
    obtain ⟨v14, M13, e12, h⟩ := bd2E h
    refine q_callV (v := some (.int v14)) [.int (0 : Int32), .int l3, .int l1] C hRO lk_RX9_388 vk_X9_wouldGo e11 rfl rfl rfl (Nat.le_of_ble_eq_true rfl) (by decide) (by decide) dX9_heirs_32 (k_X9_wouldGo X.1.2.1 hl X.2.2.1 l0 (0 : Int32) l3 l1 M _ e12) ?_
    refine q_if_eq (tgt := 44) C dX9_heirs_35 (by decide) (fun c15 => ?_) (fun c15 => ?_)
    · have h := ifT c15 h
      refine q_iconst (v := (0 : Int32)) C dX9_heirs_44 (by decide) ?_
      refine q_ior C dX9_heirs_45 ?_
      refine q_istore_n (i := 2) (lv' := [(2, .int (l2 ||| (0 : Int32))), (0, .ref l0), (1, .int l1), (3, .int l3)]) C dX9_heirs_46 rfl (by decide) rfl ?_
      refine q_iinc 3 (v := (l3 + (1 : Int32))) (lv' := [(3, .int (l3 + (1 : Int32))), (2, .int (l2 ||| (0 : Int32))), (0, .ref l0), (1, .int l1)]) C dX9_heirs_47 rfl rfl (by decide) rfl ?_
      refine q_goto (tgt := 19) C dX9_heirs_50 (by decide) ?_
      exact q_sub (lv' := [(0, .ref l0), (1, .int l1), (2, .int (l2 ||| (0 : Int32))), (3, .int (l3 + (1 : Int32)))]) [2, 3, 1, 0] rfl (kc ((l2 ||| (0 : Int32)), (l3 + (1 : Int32)), M13) (someI h))
    · have h := ifF c15 h
      refine q_iconst (v := (1 : Int32)) C dX9_heirs_38 (by decide) ?_
      refine q_iload_n 3 C dX9_heirs_39 rfl ?_
      refine q_ishl C dX9_heirs_40 ?_
      refine q_goto (tgt := 45) C dX9_heirs_41 (by decide) ?_
      refine q_ior C dX9_heirs_45 ?_
      obtain ⟨n16, e17, h⟩ := nmE h
      refine q_topI e17 ?_
      refine q_istore_n (i := 2) (lv' := [(2, .int n16), (0, .ref l0), (1, .int l1), (3, .int l3)]) C dX9_heirs_46 rfl (by decide) rfl ?_
      refine q_iinc 3 (v := (l3 + (1 : Int32))) (lv' := [(3, .int (l3 + (1 : Int32))), (2, .int n16), (0, .ref l0), (1, .int l1)]) C dX9_heirs_47 rfl rfl (by decide) rfl ?_
      refine q_goto (tgt := 19) C dX9_heirs_50 (by decide) ?_
      exact q_sub (lv' := [(0, .ref l0), (1, .int l1), (2, .int n16), (3, .int (l3 + (1 : Int32)))]) [2, 3, 1, 0] rfl (kc (n16, (l3 + (1 : Int32)), M13) (someI h))
theorem w_X9_heirs_l19 {X : CX} {r : Int32 × Mem} (C : CK X cX9_heirs 4 RX9 12 256) (hRO : RO X.2.2.1 X.1.2.2.2.2.1 X.1.2.2.2.2.1.heap) (hl : X.1.2.1.stackTraces = false) (l0 : Nat) (l1 : Int32) (l2 : Int32) (l3 : Int32) (M : Mem) (h : loop (fun s => F_X9_heirs_s19 l0 l1 s.1 s.2.1 s.2.2) (l2, l3, M) = some r) (kx : ∀ e' : Int32 × Mem, r = e' → wq X 4 53 [(2, .int (e'.1))] [] e'.2) : wq X 4 19 [(0, .ref l0), (1, .int l1), (2, .int l2), (3, .int l3)] [] M :=
  loop_ind (P := fun s => wq X 4 19 [(0, .ref l0), (1, .int l1), (2, .int s.1), (3, .int s.2.1)] [] s.2.2) h (fun s y hy kc kr => w_X9_heirs_s19 C hRO hl l0 l1 s.1 s.2.1 s.2.2 hy kc (fun e' he => kx e' (kr _ he).symm))
set_option maxRecDepth 100000 in
set_option maxHeartbeats 4000000 in
theorem w_X9_heirs {X : CX} {y : Int32 × Mem} (C : CK X cX9_heirs 4 RX9 12 256) (hRO : RO X.2.2.1 X.1.2.2.2.2.1 X.1.2.2.2.2.1.heap) (hl : X.1.2.1.stackTraces = false) (l0 : Nat) (l1 : Int32) (M : Mem) (h : F_X9_heirs l0 l1 M = some y) (kf : FIN X (some .int) (rs_mI y) (ms_mI y)) : wq X 4 0 [(0, .ref l0), (1, .int l1)] [] M := by
  unfold F_X9_heirs at h
  refine q_aload_n 0 C dX9_heirs_0 rfl ?_
  refine q_iconst (v := (0 : Int32)) C dX9_heirs_1 (by decide) ?_
  obtain ⟨M1, e2, h⟩ := bindE h
  refine q_putI C fp_RX9_111 rfl e2 dX9_heirs_2 ?_
  refine q_aload_n 0 C dX9_heirs_5 rfl ?_
  refine q_iload_n 1 C dX9_heirs_6 rfl ?_
  obtain ⟨e3, h⟩ := ckOE h
  obtain ⟨v6, M5, e4, h⟩ := bd2E h
  refine q_callV (v := some (.int v6)) [.int l1] C hRO lk_RX9_367 vk_X9_isHouse e3 rfl rfl rfl (Nat.le_of_ble_eq_true rfl) (by decide) (by decide) dX9_heirs_7 (k_X9_isHouse X.1.2.1 hl X.2.2.1 l0 l1 M1 _ e4) ?_
  refine q_if_ne (tgt := 15) C dX9_heirs_10 (by decide) (fun c7 => ?_) (fun c7 => ?_)
  · have h := ifF c7 h
    refine q_iconst (v := (0 : Int32)) C dX9_heirs_15 (by decide) ?_
    refine q_istore_n (i := 2) (lv' := [(2, .int (0 : Int32)), (0, .ref l0), (1, .int l1)]) C dX9_heirs_16 rfl (by decide) rfl ?_
    refine q_iconst (v := (0 : Int32)) C dX9_heirs_17 (by decide) ?_
    refine q_istore_n (i := 3) (lv' := [(3, .int (0 : Int32)), (2, .int (0 : Int32)), (0, .ref l0), (1, .int l1)]) C dX9_heirs_18 rfl (by decide) rfl ?_
    obtain ⟨⟨x20, M21⟩, e19, h⟩ := bindE h
    refine q_sub (lv' := [(0, .ref l0), (1, .int l1), (2, .int (0 : Int32)), (3, .int (0 : Int32))]) [2, 3, 1, 0] rfl (w_X9_heirs_l19 C hRO hl l0 l1 (0 : Int32) (0 : Int32) M5 e19 (fun r18 he => ?_))
    subst he
    have h := u2E h
    show wq X 4 53 [(2, .int x20)] [] M21
    refine q_iload_n 0 C dX9_heirs_53 rfl ?_
    cases h
    exact q_iret C kf dX9_heirs_54
  · have h := ifT c7 h
    refine q_iconst (v := (0 : Int32)) C dX9_heirs_13 (by decide) ?_
    cases h
    exact q_iret C kf dX9_heirs_14
theorem k_X9_heirs (l : Launch) (hl : l.stackTraces = false) (G : GG) (l0 : Nat) (l1 : Int32) (M : Mem) (x : Int32 × Mem) (h : F_X9_heirs l0 l1 M = some x) : Ct l G yX9_heirs (.code yX9_heirs cX9_heirs 4 (some .int)) 12 256 [.ref l0, .int l1] M (rs_mI x) (ms_mI x) := by
  refine Ct_of (by decide +kernel) (Nat.le_of_ble_eq_true rfl) fun X e1 e2 e3 C FN hnm => ?_
  subst e1; subst e2
  show wq X 4 0 [(0, .ref l0), (1, .int l1)] [] M
  exact w_X9_heirs C FN.2.2.2 hl l0 l1 M h FN
/-! X9_off -/
set_option maxRecDepth 100000 in
set_option maxHeartbeats 4000000 in
theorem w_X9_off {X : CX} {y : Int32} (C : CK X cX9_off 2 RX9 7 140) (hRO : RO X.2.2.1 X.1.2.2.2.2.1 X.1.2.2.2.2.1.heap) (hl : X.1.2.1.stackTraces = false) (l0 : Int32) (l1 : Int32) (M : Mem) (h : F_X9_off l0 l1 M = some y) (kf : FIN X (some .int) (rs_pI y) M) : wq X 2 0 [(0, .int l0), (1, .int l1)] [] M := by
  unfold F_X9_off at h
  refine q_iload_n 0 C dX9_off_0 rfl ?_
  refine q_iload_n 1 C dX9_off_1 rfl ?_
  refine q_icmp_ge (tgt := 11) C dX9_off_2 (by decide) (fun c1 => ?_) (fun c1 => ?_)
  · have h := ifT c1 h
    refine q_iload_n 0 C dX9_off_11 rfl ?_
    refine q_iload_n 1 C dX9_off_12 rfl ?_
    refine q_isub C dX9_off_13 ?_
    cases h
    exact q_iret C kf dX9_off_14
  · have h := ifF c1 h
    refine q_iload_n 1 C dX9_off_5 rfl ?_
    refine q_iload_n 0 C dX9_off_6 rfl ?_
    refine q_isub C dX9_off_7 ?_
    refine q_goto (tgt := 14) C dX9_off_8 (by decide) ?_
    cases h
    exact q_iret C kf dX9_off_14
theorem k_X9_off (l : Launch) (hl : l.stackTraces = false) (G : GG) (l0 : Int32) (l1 : Int32) (M : Mem) (x : Int32) (h : F_X9_off l0 l1 M = some x) : Ct l G yX9_off (.code yX9_off cX9_off 2 (some .int)) 7 140 [.int l0, .int l1] M (rs_pI x) M := by
  refine Ct_of (by decide +kernel) (Nat.le_of_ble_eq_true rfl) fun X e1 e2 e3 C FN hnm => ?_
  subst e1; subst e2
  show wq X 2 0 [(0, .int l0), (1, .int l1)] [] M
  exact w_X9_off C FN.2.2.2 hl l0 l1 M h FN
/-! X9_nextDoor -/
set_option maxRecDepth 100000 in
set_option maxHeartbeats 4000000 in
theorem w_X9_nextDoor_s4 {X : CX} {y : (Int32 × Int32) ⊕ (Int32)} (C : CK X cX9_nextDoor 4 RX9 8 161) (hRO : RO X.2.2.1 X.1.2.2.2.2.1 X.1.2.2.2.2.1.heap) (hl : X.1.2.1.stackTraces = false) (l0 : Nat) (l1 : Int32) (M : Mem) (l2 : Int32) (l3 : Int32) (h : F_X9_nextDoor_s4 l0 l1 M l2 l3 = some y) (kc : ∀ s' : Int32 × Int32, y = .inl s' → wq X 4 4 [(0, .ref l0), (1, .int l1), (2, .int (s'.1)), (3, .int (s'.2))] [] M) (kx : ∀ e' : Int32, y = (.inr e') → wq X 4 63 [(2, .int (e'))] [] M) : wq X 4 4 [(0, .ref l0), (1, .int l1), (2, .int l2), (3, .int l3)] [] M := by
  unfold F_X9_nextDoor_s4 at h
  refine q_iload_n 3 C dX9_nextDoor_4 rfl ?_
  refine q_aload_n 0 C dX9_nextDoor_5 rfl ?_
  obtain ⟨v1, e2, h⟩ := bindE h
  refine q_getI C fl_RX9_275 rfl e2 dX9_nextDoor_6 ?_
  refine q_icmp_ge (tgt := 63) C dX9_nextDoor_9 (by decide) (fun c3 => ?_) (fun c3 => ?_)
  · have h := ifT c3 h
    exact q_sub (lv' := [(2, .int l2)]) [2] rfl (kx l2 (someI h))
  · have h := ifF c3 h
    refine q_iload_n 3 C dX9_nextDoor_12 rfl ?_
    refine q_iload_n 1 C dX9_nextDoor_13 rfl ?_
    refine q_icmp_eq (tgt := 57) C dX9_nextDoor_14 (by decide) (fun c4 => ?_) (fun c4 => ?_)
    · have h := ifT c4 h
      refine q_iinc 3 (v := (l3 + (1 : Int32))) (lv' := [(3, .int (l3 + (1 : Int32))), (0, .ref l0), (1, .int l1), (2, .int l2)]) C dX9_nextDoor_57 rfl rfl (by decide) rfl ?_
      refine q_goto (tgt := 4) C dX9_nextDoor_60 (by decide) ?_
      exact q_sub (lv' := [(0, .ref l0), (1, .int l1), (2, .int l2), (3, .int (l3 + (1 : Int32)))]) [1, 2, 3, 0] rfl (kc (l2, (l3 + (1 : Int32))) (someI h))
    · have h := ifF c4 h
      refine q_iload_n 2 C dX9_nextDoor_17 rfl ?_
      refine q_iconst (v := (-1 : Int32)) C dX9_nextDoor_18 (by decide) ?_
      refine q_icmp_eq (tgt := 55) C dX9_nextDoor_19 (by decide) (fun c5 => ?_) (fun c5 => ?_)
      · have h := ifT c5 h
        refine q_iload_n 3 C dX9_nextDoor_55 rfl ?_
        refine q_istore_n (i := 2) (lv' := [(2, .int l3), (0, .ref l0), (1, .int l1), (3, .int l3)]) C dX9_nextDoor_56 rfl (by decide) rfl ?_
        refine q_iinc 3 (v := (l3 + (1 : Int32))) (lv' := [(3, .int (l3 + (1 : Int32))), (2, .int l3), (0, .ref l0), (1, .int l1)]) C dX9_nextDoor_57 rfl rfl (by decide) rfl ?_
        refine q_goto (tgt := 4) C dX9_nextDoor_60 (by decide) ?_
        exact q_sub (lv' := [(0, .ref l0), (1, .int l1), (2, .int l3), (3, .int (l3 + (1 : Int32)))]) [2, 3, 1, 0] rfl (kc (l3, (l3 + (1 : Int32))) (someI h))
      · have h := ifF c5 h
        refine q_aload_n 0 C dX9_nextDoor_22 rfl ?_
        obtain ⟨v6, e7, h⟩ := bindE h
        refine q_getP C fl_RX9_20 rfl e7 dX9_nextDoor_23 ?_
        refine q_iload_n 3 C dX9_nextDoor_26 rfl ?_
        obtain ⟨v8, e9, h⟩ := bindE h
        refine q_iaload C e9 dX9_nextDoor_27 ?_
        refine q_aload_n 0 C dX9_nextDoor_28 rfl ?_
        obtain ⟨v10, e11, h⟩ := bindE h
        refine q_getP C fl_RX9_20 rfl e11 dX9_nextDoor_29 ?_
        refine q_iload_n 1 C dX9_nextDoor_32 rfl ?_
        obtain ⟨v12, e13, h⟩ := bindE h
        refine q_iaload C e13 dX9_nextDoor_33 ?_
        obtain ⟨v15, e14, h⟩ := bindE h
        refine q_callS (v := some (.int v15)) [.int v8, .int v12] C hRO lk_RX9_364 sk_X9_off rfl rfl (Nat.le_of_ble_eq_true rfl) (by decide) (by decide) dX9_nextDoor_34 (k_X9_off X.1.2.1 hl X.2.2.1 v8 v12 M _ e14) ?_
        refine q_aload_n 0 C dX9_nextDoor_37 rfl ?_
        obtain ⟨v16, e17, h⟩ := bindE h
        refine q_getP C fl_RX9_20 rfl e17 dX9_nextDoor_38 ?_
        refine q_iload_n 2 C dX9_nextDoor_41 rfl ?_
        obtain ⟨v18, e19, h⟩ := bindE h
        refine q_iaload C e19 dX9_nextDoor_42 ?_
        refine q_aload_n 0 C dX9_nextDoor_43 rfl ?_
        obtain ⟨v20, e21, h⟩ := bindE h
        refine q_getP C fl_RX9_20 rfl e21 dX9_nextDoor_44 ?_
        refine q_iload_n 1 C dX9_nextDoor_47 rfl ?_
        obtain ⟨v22, e23, h⟩ := bindE h
        refine q_iaload C e23 dX9_nextDoor_48 ?_
        obtain ⟨v25, e24, h⟩ := bindE h
        refine q_callS (v := some (.int v25)) [.int v18, .int v22] C hRO lk_RX9_364 sk_X9_off rfl rfl (Nat.le_of_ble_eq_true rfl) (by decide) (by decide) dX9_nextDoor_49 (k_X9_off X.1.2.1 hl X.2.2.1 v18 v22 M _ e24) ?_
        refine q_icmp_ge (tgt := 57) C dX9_nextDoor_52 (by decide) (fun c26 => ?_) (fun c26 => ?_)
        · have h := ifT c26 h
          refine q_iinc 3 (v := (l3 + (1 : Int32))) (lv' := [(3, .int (l3 + (1 : Int32))), (0, .ref l0), (1, .int l1), (2, .int l2)]) C dX9_nextDoor_57 rfl rfl (by decide) rfl ?_
          refine q_goto (tgt := 4) C dX9_nextDoor_60 (by decide) ?_
          exact q_sub (lv' := [(0, .ref l0), (1, .int l1), (2, .int l2), (3, .int (l3 + (1 : Int32)))]) [1, 2, 3, 0] rfl (kc (l2, (l3 + (1 : Int32))) (someI h))
        · have h := ifF c26 h
          refine q_iload_n 3 C dX9_nextDoor_55 rfl ?_
          refine q_istore_n (i := 2) (lv' := [(2, .int l3), (0, .ref l0), (1, .int l1), (3, .int l3)]) C dX9_nextDoor_56 rfl (by decide) rfl ?_
          refine q_iinc 3 (v := (l3 + (1 : Int32))) (lv' := [(3, .int (l3 + (1 : Int32))), (2, .int l3), (0, .ref l0), (1, .int l1)]) C dX9_nextDoor_57 rfl rfl (by decide) rfl ?_
          refine q_goto (tgt := 4) C dX9_nextDoor_60 (by decide) ?_
          exact q_sub (lv' := [(0, .ref l0), (1, .int l1), (2, .int l3), (3, .int (l3 + (1 : Int32)))]) [2, 3, 1, 0] rfl (kc (l3, (l3 + (1 : Int32))) (someI h))
theorem w_X9_nextDoor_l4 {X : CX} {r : Int32} (C : CK X cX9_nextDoor 4 RX9 8 161) (hRO : RO X.2.2.1 X.1.2.2.2.2.1 X.1.2.2.2.2.1.heap) (hl : X.1.2.1.stackTraces = false) (l0 : Nat) (l1 : Int32) (M : Mem) (l2 : Int32) (l3 : Int32) (h : loop (fun s => F_X9_nextDoor_s4 l0 l1 M s.1 s.2) (l2, l3) = some r) (kx : ∀ e' : Int32, r = e' → wq X 4 63 [(2, .int (e'))] [] M) : wq X 4 4 [(0, .ref l0), (1, .int l1), (2, .int l2), (3, .int l3)] [] M :=
  loop_ind (P := fun s => wq X 4 4 [(0, .ref l0), (1, .int l1), (2, .int s.1), (3, .int s.2)] [] M) h (fun s y hy kc kr => w_X9_nextDoor_s4 C hRO hl l0 l1 M s.1 s.2 hy kc (fun e' he => kx e' (kr _ he).symm))
set_option maxRecDepth 100000 in
set_option maxHeartbeats 4000000 in
theorem w_X9_nextDoor {X : CX} {y : Int32} (C : CK X cX9_nextDoor 4 RX9 8 161) (hRO : RO X.2.2.1 X.1.2.2.2.2.1 X.1.2.2.2.2.1.heap) (hl : X.1.2.1.stackTraces = false) (l0 : Nat) (l1 : Int32) (M : Mem) (h : F_X9_nextDoor l0 l1 M = some y) (kf : FIN X (some .int) (rs_pI y) M) : wq X 4 0 [(0, .ref l0), (1, .int l1)] [] M := by
  unfold F_X9_nextDoor at h
  refine q_iconst (v := (-1 : Int32)) C dX9_nextDoor_0 (by decide) ?_
  refine q_istore_n (i := 2) (lv' := [(2, .int (-1 : Int32)), (0, .ref l0), (1, .int l1)]) C dX9_nextDoor_1 rfl (by decide) rfl ?_
  refine q_iconst (v := (0 : Int32)) C dX9_nextDoor_2 (by decide) ?_
  refine q_istore_n (i := 3) (lv' := [(3, .int (0 : Int32)), (2, .int (-1 : Int32)), (0, .ref l0), (1, .int l1)]) C dX9_nextDoor_3 rfl (by decide) rfl ?_
  obtain ⟨x29, e28, h⟩ := bindE h
  refine q_sub (lv' := [(0, .ref l0), (1, .int l1), (2, .int (-1 : Int32)), (3, .int (0 : Int32))]) [2, 3, 1, 0] rfl (w_X9_nextDoor_l4 C hRO hl l0 l1 M (-1 : Int32) (0 : Int32) e28 (fun r27 he => ?_))
  subst he
  show wq X 4 63 [(2, .int x29)] [] M
  refine q_iload_n 0 C dX9_nextDoor_63 rfl ?_
  cases h
  exact q_iret C kf dX9_nextDoor_64
theorem k_X9_nextDoor (l : Launch) (hl : l.stackTraces = false) (G : GG) (l0 : Nat) (l1 : Int32) (M : Mem) (x : Int32) (h : F_X9_nextDoor l0 l1 M = some x) : Ct l G yX9_nextDoor (.code yX9_nextDoor cX9_nextDoor 4 (some .int)) 8 161 [.ref l0, .int l1] M (rs_pI x) M := by
  refine Ct_of (by decide +kernel) (Nat.le_of_ble_eq_true rfl) fun X e1 e2 e3 C FN hnm => ?_
  subst e1; subst e2
  show wq X 4 0 [(0, .ref l0), (1, .int l1)] [] M
  exact w_X9_nextDoor C FN.2.2.2 hl l0 l1 M h FN
/-! X9_roomOf -/
set_option maxRecDepth 100000 in
set_option maxHeartbeats 4000000 in
theorem w_X9_roomOf {X : CX} {y : Int32} (C : CK X cX9_roomOf 3 RX9 8 162) (hRO : RO X.2.2.1 X.1.2.2.2.2.1 X.1.2.2.2.2.1.heap) (hl : X.1.2.1.stackTraces = false) (l0 : Nat) (l1 : Int32) (M : Mem) (h : F_X9_roomOf l0 l1 M = some y) (kf : FIN X (some .int) (rs_pI y) M) : wq X 3 0 [(0, .ref l0), (1, .int l1)] [] M := by
  unfold F_X9_roomOf at h
  refine q_aload_n 0 C dX9_roomOf_0 rfl ?_
  obtain ⟨v1, e2, h⟩ := bindE h
  refine q_getP C fl_RX9_66 rfl e2 dX9_roomOf_1 ?_
  refine q_bipush (v := (19 : Int32)) C dX9_roomOf_4 (by decide) ?_
  refine q_iload_n 1 C dX9_roomOf_6 rfl ?_
  refine q_iadd C dX9_roomOf_7 ?_
  obtain ⟨v3, e4, h⟩ := bindE h
  refine q_iaload C e4 dX9_roomOf_8 ?_
  refine q_istore_n (i := 2) (lv' := [(2, .int v3), (0, .ref l0), (1, .int l1)]) C dX9_roomOf_9 rfl (by decide) rfl ?_
  refine q_iload_n 0 C dX9_roomOf_10 rfl ?_
  refine q_iconst (v := (-1 : Int32)) C dX9_roomOf_11 (by decide) ?_
  refine q_icmp_ne (tgt := 19) C dX9_roomOf_12 (by decide) (fun c5 => ?_) (fun c5 => ?_)
  · have h := ifF c5 h
    refine q_aload_n 1 C dX9_roomOf_19 rfl ?_
    obtain ⟨v6, e7, h⟩ := bindE h
    refine q_getP C fl_RX9_66 rfl e7 dX9_roomOf_20 ?_
    refine q_iconst (v := (3 : Int32)) C dX9_roomOf_23 (by decide) ?_
    refine q_iload_n 2 C dX9_roomOf_24 rfl ?_
    refine q_iadd C dX9_roomOf_25 ?_
    obtain ⟨v8, e9, h⟩ := bindE h
    refine q_iaload C e9 dX9_roomOf_26 ?_
    refine q_aload_n 1 C dX9_roomOf_27 rfl ?_
    obtain ⟨v10, e11, h⟩ := bindE h
    refine q_getP C fl_RX9_66 rfl e11 dX9_roomOf_28 ?_
    refine q_bipush (v := (27 : Int32)) C dX9_roomOf_31 (by decide) ?_
    refine q_iload_n 0 C dX9_roomOf_33 rfl ?_
    refine q_iadd C dX9_roomOf_34 ?_
    obtain ⟨v12, e13, h⟩ := bindE h
    refine q_iaload C e13 dX9_roomOf_35 ?_
    refine q_isub C dX9_roomOf_36 ?_
    refine q_iconst (v := (0 : Int32)) C dX9_roomOf_37 (by decide) ?_
    refine q_ldcw (v := (99999 : Int32)) C cn_RX9_305 dX9_roomOf_38 ?_
    obtain ⟨v15, e14, h⟩ := bindE h
    refine q_callS (v := some (.int v15)) [.int (v8 - v12), .int (0 : Int32), .int (99999 : Int32)] C hRO lk_RX9_306 sk_X9_bounded rfl rfl (Nat.le_of_ble_eq_true rfl) (by decide) (by decide) dX9_roomOf_41 (k_X9_bounded X.1.2.1 hl X.2.2.1 (v8 - v12) (0 : Int32) (99999 : Int32) M _ e14) ?_
    cases h
    exact q_iret C kf dX9_roomOf_44
  · have h := ifT c5 h
    refine q_iconst (v := (0 : Int32)) C dX9_roomOf_15 (by decide) ?_
    refine q_goto (tgt := 44) C dX9_roomOf_16 (by decide) ?_
    cases h
    exact q_iret C kf dX9_roomOf_44
theorem k_X9_roomOf (l : Launch) (hl : l.stackTraces = false) (G : GG) (l0 : Nat) (l1 : Int32) (M : Mem) (x : Int32) (h : F_X9_roomOf l0 l1 M = some x) : Ct l G yX9_roomOf (.code yX9_roomOf cX9_roomOf 3 (some .int)) 8 162 [.ref l0, .int l1] M (rs_pI x) M := by
  refine Ct_of (by decide +kernel) (Nat.le_of_ble_eq_true rfl) fun X e1 e2 e3 C FN hnm => ?_
  subst e1; subst e2
  show wq X 3 0 [(0, .ref l0), (1, .int l1)] [] M
  exact w_X9_roomOf C FN.2.2.2 hl l0 l1 M h FN
/-! X9_house -/
set_option maxRecDepth 100000 in
set_option maxHeartbeats 4000000 in
theorem w_X9_house {X : CX} {y : Int32 × Mem} (C : CK X cX9_house 3 RX9 9 184) (hRO : RO X.2.2.1 X.1.2.2.2.2.1 X.1.2.2.2.2.1.heap) (hl : X.1.2.1.stackTraces = false) (l0 : Nat) (l1 : Int32) (l2 : Int32) (M : Mem) (h : F_X9_house l0 l1 l2 M = some y) (kf : FIN X (some .int) (rs_mI y) (ms_mI y)) : wq X 3 0 [(0, .ref l0), (1, .int l1), (2, .int l2)] [] M := by
  unfold F_X9_house at h
  refine q_aload_n 0 C dX9_house_0 rfl ?_
  refine q_iconst (v := (0 : Int32)) C dX9_house_1 (by decide) ?_
  obtain ⟨M1, e2, h⟩ := bindE h
  refine q_putI C fp_RX9_111 rfl e2 dX9_house_2 ?_
  refine q_aload_n 0 C dX9_house_5 rfl ?_
  refine q_iload_n 1 C dX9_house_6 rfl ?_
  obtain ⟨e3, h⟩ := ckOE h
  obtain ⟨v6, M5, e4, h⟩ := bd2E h
  refine q_callV (v := some (.int v6)) [.int l1] C hRO lk_RX9_367 vk_X9_isHouse e3 rfl rfl rfl (Nat.le_of_ble_eq_true rfl) (by decide) (by decide) dX9_house_7 (k_X9_isHouse X.1.2.1 hl X.2.2.1 l0 l1 M1 _ e4) ?_
  refine q_if_eq (tgt := 23) C dX9_house_10 (by decide) (fun c7 => ?_) (fun c7 => ?_)
  · have h := ifT c7 h
    refine q_iconst (v := (0 : Int32)) C dX9_house_23 (by decide) ?_
    cases h
    exact q_iret C kf dX9_house_24
  · have h := ifF c7 h
    refine q_aload_n 0 C dX9_house_13 rfl ?_
    refine q_iload_n 2 C dX9_house_14 rfl ?_
    refine q_bipush (v := (7 : Int32)) C dX9_house_15 (by decide) ?_
    obtain ⟨e8, h⟩ := ckOE h
    obtain ⟨v11, M10, e9, h⟩ := bd2E h
    refine q_callV (v := some (.int v11)) [.int l2, .int (7 : Int32)] C hRO lk_RX9_370 vk_X9_isWhat e8 rfl rfl rfl (Nat.le_of_ble_eq_true rfl) (by decide) (by decide) dX9_house_17 (k_X9_isWhat X.1.2.1 hl X.2.2.1 l0 l2 (7 : Int32) M5 _ e9) ?_
    refine q_if_ne (tgt := 25) C dX9_house_20 (by decide) (fun c12 => ?_) (fun c12 => ?_)
    · have h := ifF c12 h
      refine q_iload_n 2 C dX9_house_25 rfl ?_
      by_cases c13 : l2 = (0 : Int32)
      · have h := ifT c13 h
        refine q_tableIn (off := 42) (tgt := 68) C dX9_house_26 (by rw [c13]; decide) (by rw [c13]; decide) (by rw [c13]; rfl) (by decide) ?_
        refine q_aload_n 0 C dX9_house_68 rfl ?_
        obtain ⟨v14, e15, h⟩ := bindE h
        refine q_getP C fl_RX9_66 rfl e15 dX9_house_69 ?_
        refine q_iconst (v := (3 : Int32)) C dX9_house_72 (by decide) ?_
        refine q_iload_n 1 C dX9_house_73 rfl ?_
        refine q_iadd C dX9_house_74 ?_
        obtain ⟨v16, e17, h⟩ := bindE h
        refine q_iaload C e17 dX9_house_75 ?_
        cases h
        exact q_iret C kf dX9_house_76
      have h := ifF c13 h
      by_cases c18 : l2 = (1 : Int32)
      · have h := ifT c18 h
        refine q_tableIn (off := 51) (tgt := 77) C dX9_house_26 (by rw [c18]; decide) (by rw [c18]; decide) (by rw [c18]; rfl) (by decide) ?_
        refine q_aload_n 0 C dX9_house_77 rfl ?_
        obtain ⟨v19, e20, h⟩ := bindE h
        refine q_getP C fl_RX9_16 rfl e20 dX9_house_78 ?_
        refine q_iload_n 1 C dX9_house_81 rfl ?_
        obtain ⟨v21, e22, h⟩ := bindE h
        refine q_iaload C e22 dX9_house_82 ?_
        cases h
        exact q_iret C kf dX9_house_83
      have h := ifF c18 h
      by_cases c23 : l2 = (2 : Int32)
      · have h := ifT c23 h
        refine q_tableIn (off := 58) (tgt := 84) C dX9_house_26 (by rw [c23]; decide) (by rw [c23]; decide) (by rw [c23]; rfl) (by decide) ?_
        refine q_aload_n 0 C dX9_house_84 rfl ?_
        obtain ⟨v24, e25, h⟩ := bindE h
        refine q_getP C fl_RX9_20 rfl e25 dX9_house_85 ?_
        refine q_iload_n 1 C dX9_house_88 rfl ?_
        obtain ⟨v26, e27, h⟩ := bindE h
        refine q_iaload C e27 dX9_house_89 ?_
        cases h
        exact q_iret C kf dX9_house_90
      have h := ifF c23 h
      by_cases c28 : l2 = (3 : Int32)
      · have h := ifT c28 h
        refine q_tableIn (off := 65) (tgt := 91) C dX9_house_26 (by rw [c28]; decide) (by rw [c28]; decide) (by rw [c28]; rfl) (by decide) ?_
        refine q_aload_n 0 C dX9_house_91 rfl ?_
        obtain ⟨v29, e30, h⟩ := bindE h
        refine q_getP C fl_RX9_66 rfl e30 dX9_house_92 ?_
        refine q_bipush (v := (11 : Int32)) C dX9_house_95 (by decide) ?_
        refine q_iload_n 1 C dX9_house_97 rfl ?_
        refine q_iadd C dX9_house_98 ?_
        obtain ⟨v31, e32, h⟩ := bindE h
        refine q_iaload C e32 dX9_house_99 ?_
        cases h
        exact q_iret C kf dX9_house_100
      have h := ifF c28 h
      by_cases c33 : l2 = (4 : Int32)
      · have h := ifT c33 h
        refine q_tableIn (off := 75) (tgt := 101) C dX9_house_26 (by rw [c33]; decide) (by rw [c33]; decide) (by rw [c33]; rfl) (by decide) ?_
        refine q_aload_n 0 C dX9_house_101 rfl ?_
        obtain ⟨v34, e35, h⟩ := bindE h
        refine q_getP C fl_RX9_66 rfl e35 dX9_house_102 ?_
        refine q_bipush (v := (19 : Int32)) C dX9_house_105 (by decide) ?_
        refine q_iload_n 1 C dX9_house_107 rfl ?_
        refine q_iadd C dX9_house_108 ?_
        obtain ⟨v36, e37, h⟩ := bindE h
        refine q_iaload C e37 dX9_house_109 ?_
        cases h
        exact q_iret C kf dX9_house_110
      have h := ifF c33 h
      by_cases c38 : l2 = (5 : Int32)
      · have h := ifT c38 h
        refine q_tableIn (off := 85) (tgt := 111) C dX9_house_26 (by rw [c38]; decide) (by rw [c38]; decide) (by rw [c38]; rfl) (by decide) ?_
        refine q_aload_n 0 C dX9_house_111 rfl ?_
        obtain ⟨v39, e40, h⟩ := bindE h
        refine q_getP C fl_RX9_66 rfl e40 dX9_house_112 ?_
        refine q_iconst (v := (1 : Int32)) C dX9_house_115 (by decide) ?_
        obtain ⟨v41, e42, h⟩ := bindE h
        refine q_iaload C e42 dX9_house_116 ?_
        refine q_iload_n 1 C dX9_house_117 rfl ?_
        refine q_ishr C dX9_house_118 ?_
        refine q_iconst (v := (1 : Int32)) C dX9_house_119 (by decide) ?_
        refine q_iand C dX9_house_120 ?_
        cases h
        exact q_iret C kf dX9_house_121
      have h := ifF c38 h
      by_cases c43 : l2 = (6 : Int32)
      · have h := ifT c43 h
        refine q_tableIn (off := 96) (tgt := 122) C dX9_house_26 (by rw [c43]; decide) (by rw [c43]; decide) (by rw [c43]; rfl) (by decide) ?_
        refine q_aload_n 0 C dX9_house_122 rfl ?_
        refine q_iload_n 1 C dX9_house_123 rfl ?_
        obtain ⟨e44, h⟩ := ckOE h
        obtain ⟨v46, e45, h⟩ := bindE h
        refine q_callV (v := some (.int v46)) [.int l1] C hRO lk_RX9_373 vk_X9_roomOf e44 rfl rfl rfl (Nat.le_of_ble_eq_true rfl) (by decide) (by decide) dX9_house_124 (k_X9_roomOf X.1.2.1 hl X.2.2.1 l0 l1 M10 _ e45) ?_
        cases h
        exact q_iret C kf dX9_house_127
      have h := ifF c43 h
      refine q_tableOut (tgt := 128) C dX9_house_26 (by have z0 := neI c13; have z1 := neI c18; have z2 := neI c23; have z3 := neI c28; have z4 := neI c33; have z5 := neI c38; have z6 := neI c43; simp only [Int32.reduceToInt] at *; omega) (by decide) ?_
      refine q_aload_n 0 C dX9_house_128 rfl ?_
      refine q_iload_n 1 C dX9_house_129 rfl ?_
      obtain ⟨e47, h⟩ := ckOE h
      obtain ⟨v49, e48, h⟩ := bindE h
      refine q_callV (v := some (.int v49)) [.int l1] C hRO lk_RX9_376 vk_X9_nextDoor e47 rfl rfl rfl (Nat.le_of_ble_eq_true rfl) (by decide) (by decide) dX9_house_130 (k_X9_nextDoor X.1.2.1 hl X.2.2.1 l0 l1 M10 _ e48) ?_
      cases h
      exact q_iret C kf dX9_house_133
    · have h := ifT c12 h
      refine q_iconst (v := (0 : Int32)) C dX9_house_23 (by decide) ?_
      cases h
      exact q_iret C kf dX9_house_24
theorem k_X9_house (l : Launch) (hl : l.stackTraces = false) (G : GG) (l0 : Nat) (l1 : Int32) (l2 : Int32) (M : Mem) (x : Int32 × Mem) (h : F_X9_house l0 l1 l2 M = some x) : Ct l G yX9_house (.code yX9_house cX9_house 3 (some .int)) 9 184 [.ref l0, .int l1, .int l2] M (rs_mI x) (ms_mI x) := by
  refine Ct_of (by decide +kernel) (Nat.le_of_ble_eq_true rfl) fun X e1 e2 e3 C FN hnm => ?_
  subst e1; subst e2
  show wq X 3 0 [(0, .ref l0), (1, .int l1), (2, .int l2)] [] M
  exact w_X9_house C FN.2.2.2 hl l0 l1 l2 M h FN
/-! X9_image -/
set_option maxRecDepth 100000 in
set_option maxHeartbeats 4000000 in
theorem w_X9_image_s28 {X : CX} {y : (Int32 × Mem) ⊕ (Mem)} (C : CK X cX9_image 2 RX9 8 163) (hRO : RO X.2.2.1 X.1.2.2.2.2.1 X.1.2.2.2.2.1.heap) (hl : X.1.2.1.stackTraces = false) (l0 : Nat) (l1 : Int32) (M : Mem) (h : F_X9_image_s28 l0 l1 M = some y) (kc : ∀ s' : Int32 × Mem, y = .inl s' → wq X 2 28 [(0, .ref l0), (1, .int (s'.1))] [] s'.2) (kx : ∀ e' : Mem, y = (.inr e') → wq X 2 52 [(0, .ref l0)] [] e') : wq X 2 28 [(0, .ref l0), (1, .int l1)] [] M := by
  unfold F_X9_image_s28 at h
  refine q_iload_n 1 C dX9_image_28 rfl ?_
  refine q_bipush (v := (43 : Int32)) C dX9_image_29 (by decide) ?_
  refine q_icmp_ge (tgt := 52) C dX9_image_31 (by decide) (fun c13 => ?_) (fun c13 => ?_)
  · have h := ifT c13 h
    exact q_sub (lv' := [(0, .ref l0)]) [0] rfl (kx M (someI h))
  · have h := ifF c13 h
    refine q_aload_n 0 C dX9_image_34 rfl ?_
    obtain ⟨v14, e15, h⟩ := bindE h
    refine q_getP C fl_RX9_102 rfl e15 dX9_image_35 ?_
    refine q_iload_n 1 C dX9_image_38 rfl ?_
    refine q_aload_n 0 C dX9_image_39 rfl ?_
    obtain ⟨v16, e17, h⟩ := bindE h
    refine q_getP C fl_RX9_66 rfl e17 dX9_image_40 ?_
    refine q_iload_n 1 C dX9_image_43 rfl ?_
    obtain ⟨v18, e19, h⟩ := bindE h
    refine q_iaload C e19 dX9_image_44 ?_
    obtain ⟨M20, e21, h⟩ := bindE h
    refine q_iastore C e21 dX9_image_45 ?_
    refine q_iinc 1 (v := (l1 + (1 : Int32))) (lv' := [(1, .int (l1 + (1 : Int32))), (0, .ref l0)]) C dX9_image_46 rfl rfl (by decide) rfl ?_
    refine q_goto (tgt := 28) C dX9_image_49 (by decide) ?_
    exact q_sub (lv' := [(0, .ref l0), (1, .int (l1 + (1 : Int32)))]) [1, 0] rfl (kc ((l1 + (1 : Int32)), M20) (someI h))
theorem w_X9_image_l28 {X : CX} {r : Mem} (C : CK X cX9_image 2 RX9 8 163) (hRO : RO X.2.2.1 X.1.2.2.2.2.1 X.1.2.2.2.2.1.heap) (hl : X.1.2.1.stackTraces = false) (l0 : Nat) (l1 : Int32) (M : Mem) (h : loop (fun s => F_X9_image_s28 l0 s.1 s.2) (l1, M) = some r) (kx : ∀ e' : Mem, r = e' → wq X 2 52 [(0, .ref l0)] [] e') : wq X 2 28 [(0, .ref l0), (1, .int l1)] [] M :=
  loop_ind (P := fun s => wq X 2 28 [(0, .ref l0), (1, .int s.1)] [] s.2) h (fun s y hy kc kr => w_X9_image_s28 C hRO hl l0 s.1 s.2 hy kc (fun e' he => kx e' (kr _ he).symm))
set_option maxRecDepth 100000 in
set_option maxHeartbeats 4000000 in
theorem w_X9_image {X : CX} {y : Mem} (C : CK X cX9_image 2 RX9 8 163) (hRO : RO X.2.2.1 X.1.2.2.2.2.1 X.1.2.2.2.2.1.heap) (hl : X.1.2.1.stackTraces = false) (l0 : Nat) (M : Mem) (h : F_X9_image l0 M = some y) (kf : FIN X none (rs_mV y) (ms_mV y)) : wq X 2 0 [(0, .ref l0)] [] M := by
  unfold F_X9_image at h
  refine q_aload_n 0 C dX9_image_0 rfl ?_
  refine q_iconst (v := (0 : Int32)) C dX9_image_1 (by decide) ?_
  obtain ⟨M1, e2, h⟩ := bindE h
  refine q_putI C fp_RX9_111 rfl e2 dX9_image_2 ?_
  refine q_aload_n 0 C dX9_image_5 rfl ?_
  refine q_iconst (v := (1 : Int32)) C dX9_image_6 (by decide) ?_
  obtain ⟨M3, e4, h⟩ := bindE h
  refine q_putZ C fp_RX9_294 rfl e4 dX9_image_7 ?_
  refine q_aload_n 0 C dX9_image_10 rfl ?_
  refine q_aload_n 0 C dX9_image_11 rfl ?_
  obtain ⟨v5, e6, h⟩ := bindE h
  refine q_getI C fl_RX9_288 rfl e6 dX9_image_12 ?_
  obtain ⟨M7, e8, h⟩ := bindE h
  refine q_putI C fp_RX9_447 rfl e8 dX9_image_15 ?_
  refine q_aload_n 0 C dX9_image_18 rfl ?_
  refine q_aload_n 0 C dX9_image_19 rfl ?_
  obtain ⟨v9, e10, h⟩ := bindE h
  refine q_getI C fl_RX9_291 rfl e10 dX9_image_20 ?_
  obtain ⟨M11, e12, h⟩ := bindE h
  refine q_putI C fp_RX9_450 rfl e12 dX9_image_23 ?_
  refine q_iconst (v := (0 : Int32)) C dX9_image_26 (by decide) ?_
  refine q_istore_n (i := 1) (lv' := [(1, .int (0 : Int32)), (0, .ref l0)]) C dX9_image_27 rfl (by decide) rfl ?_
  obtain ⟨M24, e23, h⟩ := bindE h
  refine q_sub (lv' := [(0, .ref l0), (1, .int (0 : Int32))]) [1, 0] rfl (w_X9_image_l28 C hRO hl l0 (0 : Int32) M11 e23 (fun r22 he => ?_))
  subst he
  show wq X 2 52 [(0, .ref l0)] [] M24
  refine q_aload_n 0 C dX9_image_52 rfl ?_
  refine q_aload_n 0 C dX9_image_53 rfl ?_
  obtain ⟨v25, e26, h⟩ := bindE h
  refine q_getP C fl_RX9_69 rfl e26 dX9_image_54 ?_
  refine q_aload_n 0 C dX9_image_57 rfl ?_
  obtain ⟨v27, e28, h⟩ := bindE h
  refine q_getP C fl_RX9_105 rfl e28 dX9_image_58 ?_
  obtain ⟨e29, h⟩ := ckOE h
  obtain ⟨M31, e30, h⟩ := bindE h
  refine q_callV (v := none) [.ref v25, .ref v27] C hRO lk_RX9_284 vk_X9_copies e29 rfl rfl rfl (Nat.le_of_ble_eq_true rfl) (by decide) (by decide) dX9_image_61 (k_X9_copies X.1.2.1 hl X.2.2.1 l0 v25 v27 M24 _ e30) ?_
  refine q_aload_n 0 C dX9_image_64 rfl ?_
  refine q_aload_n 0 C dX9_image_65 rfl ?_
  obtain ⟨v33, e34, h⟩ := bindE h
  refine q_getP C fl_RX9_93 rfl e34 dX9_image_66 ?_
  refine q_aload_n 0 C dX9_image_69 rfl ?_
  obtain ⟨v35, e36, h⟩ := bindE h
  refine q_getP C fl_RX9_108 rfl e36 dX9_image_70 ?_
  obtain ⟨e37, h⟩ := ckOE h
  obtain ⟨M39, e38, h⟩ := bindE h
  refine q_callV (v := none) [.ref v33, .ref v35] C hRO lk_RX9_284 vk_X9_copies e37 rfl rfl rfl (Nat.le_of_ble_eq_true rfl) (by decide) (by decide) dX9_image_73 (k_X9_copies X.1.2.1 hl X.2.2.1 l0 v33 v35 M31 _ e38) ?_
  cases h
  exact q_vret C kf dX9_image_76
theorem k_X9_image (l : Launch) (hl : l.stackTraces = false) (G : GG) (l0 : Nat) (M : Mem) (x : Mem) (h : F_X9_image l0 M = some x) : Ct l G yX9_image (.code yX9_image cX9_image 2 none) 8 163 [.ref l0] M (rs_mV x) (ms_mV x) := by
  refine Ct_of (by decide +kernel) (Nat.le_of_ble_eq_true rfl) fun X e1 e2 e3 C FN hnm => ?_
  subst e1; subst e2
  show wq X 2 0 [(0, .ref l0)] [] M
  exact w_X9_image C FN.2.2.2 hl l0 M h FN
/-! X9_isSeen -/
set_option maxRecDepth 100000 in
set_option maxHeartbeats 4000000 in
theorem w_X9_isSeen_s10 {X : CX} {y : (Int32) ⊕ ((Unit) ⊕ (Int32 × Mem))} (C : CK X cX9_isSeen 3 RX9 12 257) (hRO : RO X.2.2.1 X.1.2.2.2.2.1 X.1.2.2.2.2.1.heap) (hl : X.1.2.1.stackTraces = false) (l0 : Nat) (l1 : Int32) (M : Mem) (l2 : Int32) (h : F_X9_isSeen_s10 l0 l1 M l2 = some y) (kc : ∀ s' : Int32, y = .inl s' → wq X 3 10 [(0, .ref l0), (1, .int l1), (2, .int (s'))] [] M) (kx : ∀ e' : Unit, y = (.inr (.inl e')) → wq X 3 69 [(0, .ref l0), (1, .int l1)] [] M) (kf : ∀ f' : Int32 × Mem, y = (.inr (.inr f')) → FIN X (some .boolean) (rs_mI f') (ms_mI f')) : wq X 3 10 [(0, .ref l0), (1, .int l1), (2, .int l2)] [] M := by
  unfold F_X9_isSeen_s10 at h
  refine q_iload_n 2 C dX9_isSeen_10 rfl ?_
  refine q_aload_n 0 C dX9_isSeen_11 rfl ?_
  obtain ⟨v2, e3, h⟩ := bindE h
  refine q_getI C fl_RX9_291 rfl e3 dX9_isSeen_12 ?_
  refine q_icmp_ge (tgt := 69) C dX9_isSeen_15 (by decide) (fun c4 => ?_) (fun c4 => ?_)
  · have h := ifT c4 h
    exact q_sub (lv' := [(0, .ref l0), (1, .int l1)]) [0, 1] rfl (kx () (someI h))
  · have h := ifF c4 h
    refine q_aload_n 0 C dX9_isSeen_18 rfl ?_
    obtain ⟨v5, e6, h⟩ := bindE h
    refine q_getP C fl_RX9_93 rfl e6 dX9_isSeen_19 ?_
    refine q_iconst (v := (3 : Int32)) C dX9_isSeen_22 (by decide) ?_
    refine q_iload_n 2 C dX9_isSeen_23 rfl ?_
    refine q_imul C dX9_isSeen_24 ?_
    refine q_iconst (v := (1 : Int32)) C dX9_isSeen_25 (by decide) ?_
    refine q_iadd C dX9_isSeen_26 ?_
    obtain ⟨v7, e8, h⟩ := bindE h
    refine q_iaload C e8 dX9_isSeen_27 ?_
    refine q_iload_n 1 C dX9_isSeen_28 rfl ?_
    refine q_icmp_ne (tgt := 63) C dX9_isSeen_29 (by decide) (fun c9 => ?_) (fun c9 => ?_)
    · have h := ifF c9 h
      refine q_iinc 2 (v := (l2 + (1 : Int32))) (lv' := [(2, .int (l2 + (1 : Int32))), (0, .ref l0), (1, .int l1)]) C dX9_isSeen_63 rfl rfl (by decide) rfl ?_
      refine q_goto (tgt := 10) C dX9_isSeen_66 (by decide) ?_
      exact q_sub (lv' := [(0, .ref l0), (1, .int l1), (2, .int (l2 + (1 : Int32)))]) [1, 2, 0] rfl (kc (l2 + (1 : Int32)) (someI h))
    · have h := ifT c9 h
      refine q_aload_n 0 C dX9_isSeen_32 rfl ?_
      obtain ⟨v10, e11, h⟩ := bindE h
      refine q_getP C fl_RX9_66 rfl e11 dX9_isSeen_33 ?_
      refine q_bipush (v := (54 : Int32)) C dX9_isSeen_36 (by decide) ?_
      refine q_aload_n 0 C dX9_isSeen_38 rfl ?_
      obtain ⟨v12, e13, h⟩ := bindE h
      refine q_getP C fl_RX9_93 rfl e13 dX9_isSeen_39 ?_
      refine q_iconst (v := (3 : Int32)) C dX9_isSeen_42 (by decide) ?_
      refine q_iload_n 2 C dX9_isSeen_43 rfl ?_
      refine q_imul C dX9_isSeen_44 ?_
      obtain ⟨v14, e15, h⟩ := bindE h
      refine q_iaload C e15 dX9_isSeen_45 ?_
      refine q_iadd C dX9_isSeen_46 ?_
      obtain ⟨v16, e17, h⟩ := bindE h
      refine q_iaload C e17 dX9_isSeen_47 ?_
      refine q_aload_n 0 C dX9_isSeen_48 rfl ?_
      obtain ⟨v18, e19, h⟩ := bindE h
      refine q_getP C fl_RX9_93 rfl e19 dX9_isSeen_49 ?_
      refine q_iconst (v := (3 : Int32)) C dX9_isSeen_52 (by decide) ?_
      refine q_iload_n 2 C dX9_isSeen_53 rfl ?_
      refine q_imul C dX9_isSeen_54 ?_
      refine q_iconst (v := (2 : Int32)) C dX9_isSeen_55 (by decide) ?_
      refine q_iadd C dX9_isSeen_56 ?_
      obtain ⟨v20, e21, h⟩ := bindE h
      refine q_iaload C e21 dX9_isSeen_57 ?_
      refine q_icmp_eq (tgt := 63) C dX9_isSeen_58 (by decide) (fun c22 => ?_) (fun c22 => ?_)
      · have h := ifT c22 h
        refine q_iinc 2 (v := (l2 + (1 : Int32))) (lv' := [(2, .int (l2 + (1 : Int32))), (0, .ref l0), (1, .int l1)]) C dX9_isSeen_63 rfl rfl (by decide) rfl ?_
        refine q_goto (tgt := 10) C dX9_isSeen_66 (by decide) ?_
        exact q_sub (lv' := [(0, .ref l0), (1, .int l1), (2, .int (l2 + (1 : Int32)))]) [1, 2, 0] rfl (kc (l2 + (1 : Int32)) (someI h))
      · have h := ifF c22 h
        refine q_iconst (v := (0 : Int32)) C dX9_isSeen_61 (by decide) ?_
        exact q_zretE (w := (0 : Int32)) (by decide) C (kf _ (someI h)) dX9_isSeen_62
theorem w_X9_isSeen_l10 {X : CX} {r : (Unit) ⊕ (Int32 × Mem)} (C : CK X cX9_isSeen 3 RX9 12 257) (hRO : RO X.2.2.1 X.1.2.2.2.2.1 X.1.2.2.2.2.1.heap) (hl : X.1.2.1.stackTraces = false) (l0 : Nat) (l1 : Int32) (M : Mem) (l2 : Int32) (h : loop (fun s => F_X9_isSeen_s10 l0 l1 M s) l2 = some r) (kx : ∀ e' : Unit, r = .inl e' → wq X 3 69 [(0, .ref l0), (1, .int l1)] [] M) (kf : ∀ f' : Int32 × Mem, r = .inr f' → FIN X (some .boolean) (rs_mI f') (ms_mI f')) : wq X 3 10 [(0, .ref l0), (1, .int l1), (2, .int l2)] [] M :=
  loop_ind (P := fun s => wq X 3 10 [(0, .ref l0), (1, .int l1), (2, .int s)] [] M) h (fun s y hy kc kr => w_X9_isSeen_s10 C hRO hl l0 l1 M s hy kc (fun e' he => kx e' (kr _ he).symm) (fun f' he => kf f' (kr _ he).symm))
set_option maxRecDepth 100000 in
set_option maxHeartbeats 4000000 in
theorem w_X9_isSeen_s76 {X : CX} {y : (Int32 × Mem) ⊕ (Mem)} (C : CK X cX9_isSeen 3 RX9 12 257) (hRO : RO X.2.2.1 X.1.2.2.2.2.1 X.1.2.2.2.2.1.heap) (hl : X.1.2.1.stackTraces = false) (l0 : Nat) (l1 : Int32) (l2 : Int32) (M : Mem) (h : F_X9_isSeen_s76 l0 l2 M = some y) (kc : ∀ s' : Int32 × Mem, y = .inl s' → wq X 3 76 [(0, .ref l0), (1, .int l1), (2, .int (s'.1))] [] s'.2) (kx : ∀ e' : Mem, y = (.inr e') → wq X 3 105 [(0, .ref l0), (1, .int l1)] [] e') : wq X 3 76 [(0, .ref l0), (1, .int l1), (2, .int l2)] [] M := by
  unfold F_X9_isSeen_s76 at h
  refine q_iload_n 2 C dX9_isSeen_76 rfl ?_
  refine q_aload_n 0 C dX9_isSeen_77 rfl ?_
  obtain ⟨v30, e31, h⟩ := bindE h
  refine q_getI C fl_RX9_275 rfl e31 dX9_isSeen_78 ?_
  refine q_icmp_ge (tgt := 105) C dX9_isSeen_81 (by decide) (fun c32 => ?_) (fun c32 => ?_)
  · have h := ifT c32 h
    exact q_sub (lv' := [(0, .ref l0), (1, .int l1)]) [0, 1] rfl (kx M (someI h))
  · have h := ifF c32 h
    refine q_aload_n 0 C dX9_isSeen_84 rfl ?_
    obtain ⟨v33, e34, h⟩ := bindE h
    refine q_getP C fl_RX9_96 rfl e34 dX9_isSeen_85 ?_
    refine q_iload_n 2 C dX9_isSeen_88 rfl ?_
    refine q_aload_n 0 C dX9_isSeen_89 rfl ?_
    obtain ⟨v35, e36, h⟩ := bindE h
    refine q_getP C fl_RX9_66 rfl e36 dX9_isSeen_90 ?_
    refine q_bipush (v := (54 : Int32)) C dX9_isSeen_93 (by decide) ?_
    refine q_iload_n 2 C dX9_isSeen_95 rfl ?_
    refine q_iadd C dX9_isSeen_96 ?_
    obtain ⟨v37, e38, h⟩ := bindE h
    refine q_iaload C e38 dX9_isSeen_97 ?_
    obtain ⟨M39, e40, h⟩ := bindE h
    refine q_iastore C e40 dX9_isSeen_98 ?_
    refine q_iinc 2 (v := (l2 + (1 : Int32))) (lv' := [(2, .int (l2 + (1 : Int32))), (0, .ref l0), (1, .int l1)]) C dX9_isSeen_99 rfl rfl (by decide) rfl ?_
    refine q_goto (tgt := 76) C dX9_isSeen_102 (by decide) ?_
    exact q_sub (lv' := [(0, .ref l0), (1, .int l1), (2, .int (l2 + (1 : Int32)))]) [1, 2, 0] rfl (kc ((l2 + (1 : Int32)), M39) (someI h))
theorem w_X9_isSeen_l76 {X : CX} {r : Mem} (C : CK X cX9_isSeen 3 RX9 12 257) (hRO : RO X.2.2.1 X.1.2.2.2.2.1 X.1.2.2.2.2.1.heap) (hl : X.1.2.1.stackTraces = false) (l0 : Nat) (l1 : Int32) (l2 : Int32) (M : Mem) (h : loop (fun s => F_X9_isSeen_s76 l0 s.1 s.2) (l2, M) = some r) (kx : ∀ e' : Mem, r = e' → wq X 3 105 [(0, .ref l0), (1, .int l1)] [] e') : wq X 3 76 [(0, .ref l0), (1, .int l1), (2, .int l2)] [] M :=
  loop_ind (P := fun s => wq X 3 76 [(0, .ref l0), (1, .int l1), (2, .int s.1)] [] s.2) h (fun s y hy kc kr => w_X9_isSeen_s76 C hRO hl l0 l1 s.1 s.2 hy kc (fun e' he => kx e' (kr _ he).symm))
set_option maxRecDepth 100000 in
set_option maxHeartbeats 4000000 in
theorem w_X9_isSeen_s2 {X : CX} {y : (Int32 × Mem) ⊕ ((Mem) ⊕ (Int32 × Mem))} (C : CK X cX9_isSeen 3 RX9 12 257) (hRO : RO X.2.2.1 X.1.2.2.2.2.1 X.1.2.2.2.2.1.heap) (hl : X.1.2.1.stackTraces = false) (l0 : Nat) (l1 : Int32) (M : Mem) (h : F_X9_isSeen_s2 l0 l1 M = some y) (kc : ∀ s' : Int32 × Mem, y = .inl s' → wq X 3 2 [(0, .ref l0), (1, .int (s'.1))] [] s'.2) (kx : ∀ e' : Mem, y = (.inr (.inl e')) → wq X 3 117 [] [] e') (kf : ∀ f' : Int32 × Mem, y = (.inr (.inr f')) → FIN X (some .boolean) (rs_mI f') (ms_mI f')) : wq X 3 2 [(0, .ref l0), (1, .int l1)] [] M := by
  unfold F_X9_isSeen_s2 at h
  refine q_iload_n 1 C dX9_isSeen_2 rfl ?_
  refine q_bipush (v := (20 : Int32)) C dX9_isSeen_3 (by decide) ?_
  refine q_icmp_gt (tgt := 117) C dX9_isSeen_5 (by decide) (fun c1 => ?_) (fun c1 => ?_)
  · have h := ifT c1 h
    exact q_sub (lv' := []) [] rfl (kx M (someI h))
  · have h := ifF c1 h
    refine q_iconst (v := (0 : Int32)) C dX9_isSeen_8 (by decide) ?_
    refine q_istore_n (i := 2) (lv' := [(2, .int (0 : Int32)), (0, .ref l0), (1, .int l1)]) C dX9_isSeen_9 rfl (by decide) rfl ?_
    obtain ⟨r23, e24, h⟩ := bindE h
    refine q_sub (lv' := [(0, .ref l0), (1, .int l1), (2, .int (0 : Int32))]) [1, 2, 0] rfl (w_X9_isSeen_l10 C hRO hl l0 l1 M (0 : Int32) e24 (fun q49 he => ?_) (fun f50 he => ?_))
    · subst he
      have h := elimL h
      show wq X 3 69 [(0, .ref l0), (1, .int l1)] [] M
      refine q_iload_n 1 C dX9_isSeen_69 rfl ?_
      refine q_iconst (v := (5 : Int32)) C dX9_isSeen_70 (by decide) ?_
      refine q_icmp_ne (tgt := 105) C dX9_isSeen_71 (by decide) (fun c25 => ?_) (fun c25 => ?_)
      · have h := ifF c25 h
        refine q_aload_n 0 C dX9_isSeen_105 rfl ?_
        refine q_bipush (v := (43 : Int32)) C dX9_isSeen_106 (by decide) ?_
        obtain ⟨e26, h⟩ := ckOE h
        obtain ⟨M28, e27, h⟩ := bindE h
        refine q_callV (v := none) [.int (43 : Int32)] C hRO lk_RX9_336 vk_X9_dayGoes e26 rfl rfl rfl (Nat.le_of_ble_eq_true rfl) (by decide) (by decide) dX9_isSeen_108 (k_X9_dayGoes X.1.2.1 hl X.2.2.1 l0 (43 : Int32) M _ e27) ?_
        refine q_iinc 1 (v := (l1 + (1 : Int32))) (lv' := [(1, .int (l1 + (1 : Int32))), (0, .ref l0)]) C dX9_isSeen_111 rfl rfl (by decide) rfl ?_
        refine q_goto (tgt := 2) C dX9_isSeen_114 (by decide) ?_
        exact q_sub (lv' := [(0, .ref l0), (1, .int (l1 + (1 : Int32)))]) [1, 0] rfl (kc ((l1 + (1 : Int32)), M28) (someI h))
      · have h := ifT c25 h
        refine q_iconst (v := (0 : Int32)) C dX9_isSeen_74 (by decide) ?_
        refine q_istore_n (i := 2) (lv' := [(2, .int (0 : Int32)), (0, .ref l0), (1, .int l1)]) C dX9_isSeen_75 rfl (by decide) rfl ?_
        obtain ⟨M43, e42, h⟩ := bindE h
        refine q_sub (lv' := [(0, .ref l0), (1, .int l1), (2, .int (0 : Int32))]) [1, 2, 0] rfl (w_X9_isSeen_l76 C hRO hl l0 l1 (0 : Int32) M e42 (fun r41 he => ?_))
        subst he
        show wq X 3 105 [(0, .ref l0), (1, .int l1)] [] M43
        refine q_aload_n 0 C dX9_isSeen_105 rfl ?_
        refine q_bipush (v := (43 : Int32)) C dX9_isSeen_106 (by decide) ?_
        obtain ⟨e44, h⟩ := ckOE h
        obtain ⟨M46, e45, h⟩ := bindE h
        refine q_callV (v := none) [.int (43 : Int32)] C hRO lk_RX9_336 vk_X9_dayGoes e44 rfl rfl rfl (Nat.le_of_ble_eq_true rfl) (by decide) (by decide) dX9_isSeen_108 (k_X9_dayGoes X.1.2.1 hl X.2.2.1 l0 (43 : Int32) M43 _ e45) ?_
        refine q_iinc 1 (v := (l1 + (1 : Int32))) (lv' := [(1, .int (l1 + (1 : Int32))), (0, .ref l0)]) C dX9_isSeen_111 rfl rfl (by decide) rfl ?_
        refine q_goto (tgt := 2) C dX9_isSeen_114 (by decide) ?_
        exact q_sub (lv' := [(0, .ref l0), (1, .int (l1 + (1 : Int32)))]) [1, 0] rfl (kc ((l1 + (1 : Int32)), M46) (someI h))
    · subst he
      have h := elimR h
      exact kf _ (someI h)
theorem w_X9_isSeen_l2 {X : CX} {r : (Mem) ⊕ (Int32 × Mem)} (C : CK X cX9_isSeen 3 RX9 12 257) (hRO : RO X.2.2.1 X.1.2.2.2.2.1 X.1.2.2.2.2.1.heap) (hl : X.1.2.1.stackTraces = false) (l0 : Nat) (l1 : Int32) (M : Mem) (h : loop (fun s => F_X9_isSeen_s2 l0 s.1 s.2) (l1, M) = some r) (kx : ∀ e' : Mem, r = .inl e' → wq X 3 117 [] [] e') (kf : ∀ f' : Int32 × Mem, r = .inr f' → FIN X (some .boolean) (rs_mI f') (ms_mI f')) : wq X 3 2 [(0, .ref l0), (1, .int l1)] [] M :=
  loop_ind (P := fun s => wq X 3 2 [(0, .ref l0), (1, .int s.1)] [] s.2) h (fun s y hy kc kr => w_X9_isSeen_s2 C hRO hl l0 s.1 s.2 hy kc (fun e' he => kx e' (kr _ he).symm) (fun f' he => kf f' (kr _ he).symm))
set_option maxRecDepth 100000 in
set_option maxHeartbeats 4000000 in
theorem w_X9_isSeen {X : CX} {y : Int32 × Mem} (C : CK X cX9_isSeen 3 RX9 12 257) (hRO : RO X.2.2.1 X.1.2.2.2.2.1 X.1.2.2.2.2.1.heap) (hl : X.1.2.1.stackTraces = false) (l0 : Nat) (M : Mem) (h : F_X9_isSeen l0 M = some y) (kf : FIN X (some .boolean) (rs_mI y) (ms_mI y)) : wq X 3 0 [(0, .ref l0)] [] M := by
  unfold F_X9_isSeen at h
  refine q_iconst (v := (0 : Int32)) C dX9_isSeen_0 (by decide) ?_
  refine q_istore_n (i := 1) (lv' := [(1, .int (0 : Int32)), (0, .ref l0)]) C dX9_isSeen_1 rfl (by decide) rfl ?_
  obtain ⟨r51, e52, h⟩ := bindE h
  refine q_sub (lv' := [(0, .ref l0), (1, .int (0 : Int32))]) [1, 0] rfl (w_X9_isSeen_l2 C hRO hl l0 (0 : Int32) M e52 (fun M53 he => ?_) (fun f55 he => ?_))
  · subst he
    have h := elimL h
    show wq X 3 117 [] [] M53
    refine q_iconst (v := (1 : Int32)) C dX9_isSeen_117 (by decide) ?_
    cases h
    exact q_zretE (w := (1 : Int32)) (by decide) C kf dX9_isSeen_118
  · subst he
    have h := elimR h
    cases h
    exact kf
theorem k_X9_isSeen (l : Launch) (hl : l.stackTraces = false) (G : GG) (l0 : Nat) (M : Mem) (x : Int32 × Mem) (h : F_X9_isSeen l0 M = some x) : Ct l G yX9_isSeen (.code yX9_isSeen cX9_isSeen 3 (some .boolean)) 12 257 [.ref l0] M (rs_mI x) (ms_mI x) := by
  refine Ct_of (by decide +kernel) (Nat.le_of_ble_eq_true rfl) fun X e1 e2 e3 C FN hnm => ?_
  subst e1; subst e2
  show wq X 3 0 [(0, .ref l0)] [] M
  exact w_X9_isSeen C FN.2.2.2 hl l0 M h FN
/-! X9_isGuess -/
set_option maxRecDepth 100000 in
set_option maxHeartbeats 4000000 in
theorem w_X9_isGuess {X : CX} {y : Int32 × Mem} (C : CK X cX9_isGuess 3 RX9 13 279) (hRO : RO X.2.2.1 X.1.2.2.2.2.1 X.1.2.2.2.2.1.heap) (hl : X.1.2.1.stackTraces = false) (l0 : Nat) (l1 : Int32) (M : Mem) (h : F_X9_isGuess l0 l1 M = some y) (kf : FIN X (some .boolean) (rs_mI y) (ms_mI y)) : wq X 3 0 [(0, .ref l0), (1, .int l1)] [] M := by
  unfold F_X9_isGuess at h
  refine q_iload_n 1 C dX9_isGuess_0 rfl ?_
  refine q_bipush (v := (60 : Int32)) C dX9_isGuess_1 (by decide) ?_
  refine q_idiv C (by decide) dX9_isGuess_3 ?_
  refine q_istore_n (i := 2) (lv' := [(2, .int (l1 / (60 : Int32))), (0, .ref l0), (1, .int l1)]) C dX9_isGuess_4 rfl (by decide) rfl ?_
  refine q_aload_n 1 C dX9_isGuess_5 rfl ?_
  obtain ⟨v1, e2, h⟩ := bindE h
  refine q_getP C fl_RX9_66 rfl e2 dX9_isGuess_6 ?_
  refine q_bipush (v := (27 : Int32)) C dX9_isGuess_9 (by decide) ?_
  refine q_iload_n 0 C dX9_isGuess_11 rfl ?_
  refine q_iadd C dX9_isGuess_12 ?_
  obtain ⟨v3, e4, h⟩ := bindE h
  refine q_iaload C e4 dX9_isGuess_13 ?_
  refine q_iload_n 2 C dX9_isGuess_14 rfl ?_
  refine q_bipush (v := (60 : Int32)) C dX9_isGuess_15 (by decide) ?_
  refine q_irem C (by decide) dX9_isGuess_17 ?_
  refine q_iconst (v := (1 : Int32)) C dX9_isGuess_18 (by decide) ?_
  refine q_iadd C dX9_isGuess_19 ?_
  refine q_icmp_ne (tgt := 25) C dX9_isGuess_20 (by decide) (fun c5 => ?_) (fun c5 => ?_)
  · have h := ifF c5 h
    refine q_aload_n 1 C dX9_isGuess_25 rfl ?_
    obtain ⟨e6, h⟩ := ckOE h
    obtain ⟨M8, e7, h⟩ := bindE h
    refine q_callV (v := none) [] C hRO lk_RX9_391 vk_X9_tries e6 rfl rfl rfl (Nat.le_of_ble_eq_true rfl) (by decide) (by decide) dX9_isGuess_26 (k_X9_tries X.1.2.1 hl X.2.2.1 l0 M _ e7) ?_
    refine q_aload_n 1 C dX9_isGuess_29 rfl ?_
    obtain ⟨v10, e11, h⟩ := bindE h
    refine q_getP C fl_RX9_66 rfl e11 dX9_isGuess_30 ?_
    refine q_bipush (v := (70 : Int32)) C dX9_isGuess_33 (by decide) ?_
    refine q_iload_n 0 C dX9_isGuess_35 rfl ?_
    refine q_iadd C dX9_isGuess_36 ?_
    refine q_iload_n 2 C dX9_isGuess_37 rfl ?_
    refine q_bipush (v := (60 : Int32)) C dX9_isGuess_38 (by decide) ?_
    refine q_irem C (by decide) dX9_isGuess_40 ?_
    refine q_iconst (v := (1 : Int32)) C dX9_isGuess_41 (by decide) ?_
    refine q_iadd C dX9_isGuess_42 ?_
    obtain ⟨M12, e13, h⟩ := bindE h
    refine q_iastore C e13 dX9_isGuess_43 ?_
    refine q_aload_n 1 C dX9_isGuess_44 rfl ?_
    obtain ⟨e14, h⟩ := ckOE h
    obtain ⟨v17, M16, e15, h⟩ := bd2E h
    refine q_callV (v := some (.int v17)) [] C hRO lk_RX9_424 vk_X9_isSeen e14 rfl rfl rfl (Nat.le_of_ble_eq_true rfl) (by decide) (by decide) dX9_isGuess_45 (k_X9_isSeen X.1.2.1 hl X.2.2.1 l0 M12 _ e15) ?_
    cases h
    exact q_zretE (w := (nz v17)) rfl C kf dX9_isGuess_48
  · have h := ifT c5 h
    refine q_iconst (v := (0 : Int32)) C dX9_isGuess_23 (by decide) ?_
    cases h
    exact q_zretE (w := (0 : Int32)) (by decide) C kf dX9_isGuess_24
theorem k_X9_isGuess (l : Launch) (hl : l.stackTraces = false) (G : GG) (l0 : Nat) (l1 : Int32) (M : Mem) (x : Int32 × Mem) (h : F_X9_isGuess l0 l1 M = some x) : Ct l G yX9_isGuess (.code yX9_isGuess cX9_isGuess 3 (some .boolean)) 13 279 [.ref l0, .int l1] M (rs_mI x) (ms_mI x) := by
  refine Ct_of (by decide +kernel) (Nat.le_of_ble_eq_true rfl) fun X e1 e2 e3 C FN hnm => ?_
  subst e1; subst e2
  show wq X 3 0 [(0, .ref l0), (1, .int l1)] [] M
  exact w_X9_isGuess C FN.2.2.2 hl l0 l1 M h FN
/-! X9_kept -/
set_option maxRecDepth 100000 in
set_option maxHeartbeats 4000000 in
theorem w_X9_kept_s26 {X : CX} {y : (Int32 × Int32) ⊕ (Int32)} (C : CK X cX9_kept 4 RX9 14 300) (hRO : RO X.2.2.1 X.1.2.2.2.2.1 X.1.2.2.2.2.1.heap) (hl : X.1.2.1.stackTraces = false) (l0 : Nat) (M : Mem) (l2 : Int32) (l3 : Int32) (h : F_X9_kept_s26 l0 M l2 l3 = some y) (kc : ∀ s' : Int32 × Int32, y = .inl s' → wq X 4 26 [(0, .ref l0), (2, .int (s'.1)), (3, .int (s'.2))] [] M) (kx : ∀ e' : Int32, y = (.inr e') → wq X 4 92 [(2, .int (e'))] [] M) : wq X 4 26 [(0, .ref l0), (2, .int l2), (3, .int l3)] [] M := by
  unfold F_X9_kept_s26 at h
  refine q_iload_n 2 C dX9_kept_26 rfl ?_
  refine q_aload_n 0 C dX9_kept_27 rfl ?_
  obtain ⟨v12, e13, h⟩ := bindE h
  refine q_getI C fl_RX9_275 rfl e13 dX9_kept_28 ?_
  refine q_icmp_ge (tgt := 92) C dX9_kept_31 (by decide) (fun c14 => ?_) (fun c14 => ?_)
  · have h := ifT c14 h
    exact q_sub (lv' := [(2, .int l2)]) [1] rfl (kx l2 (someI h))
  · have h := ifF c14 h
    refine q_iload_n 1 C dX9_kept_34 rfl ?_
    refine q_aload_n 0 C dX9_kept_35 rfl ?_
    obtain ⟨v15, e16, h⟩ := bindE h
    refine q_getP C fl_RX9_66 rfl e16 dX9_kept_36 ?_
    refine q_bipush (v := (19 : Int32)) C dX9_kept_39 (by decide) ?_
    refine q_iload_n 2 C dX9_kept_41 rfl ?_
    refine q_iadd C dX9_kept_42 ?_
    obtain ⟨v17, e18, h⟩ := bindE h
    refine q_iaload C e18 dX9_kept_43 ?_
    refine q_iconst (v := (-1 : Int32)) C dX9_kept_44 (by decide) ?_
    refine q_icmp_eq (tgt := 83) C dX9_kept_45 (by decide) (fun c19 => ?_) (fun c19 => ?_)
    · have h := ifT c19 h
      refine q_iconst (v := (0 : Int32)) C dX9_kept_83 (by decide) ?_
      refine q_ior C dX9_kept_84 ?_
      refine q_istore_n (i := 2) (lv' := [(2, .int (l2 ||| (0 : Int32))), (0, .ref l0), (3, .int l3)]) C dX9_kept_85 rfl (by decide) rfl ?_
      refine q_iinc 2 (v := (l3 + (1 : Int32))) (lv' := [(3, .int (l3 + (1 : Int32))), (2, .int (l2 ||| (0 : Int32))), (0, .ref l0)]) C dX9_kept_86 rfl rfl (by decide) rfl ?_
      refine q_goto (tgt := 26) C dX9_kept_89 (by decide) ?_
      exact q_sub (lv' := [(0, .ref l0), (2, .int (l2 ||| (0 : Int32))), (3, .int (l3 + (1 : Int32)))]) [2, 1, 0] rfl (kc ((l2 ||| (0 : Int32)), (l3 + (1 : Int32))) (someI h))
    · have h := ifF c19 h
      refine q_aload_n 0 C dX9_kept_48 rfl ?_
      obtain ⟨v20, e21, h⟩ := bindE h
      refine q_getP C fl_RX9_66 rfl e21 dX9_kept_49 ?_
      refine q_bipush (v := (62 : Int32)) C dX9_kept_52 (by decide) ?_
      refine q_iload_n 2 C dX9_kept_54 rfl ?_
      refine q_iadd C dX9_kept_55 ?_
      obtain ⟨v22, e23, h⟩ := bindE h
      refine q_iaload C e23 dX9_kept_56 ?_
      refine q_aload_n 0 C dX9_kept_57 rfl ?_
      obtain ⟨v24, e25, h⟩ := bindE h
      refine q_getP C fl_RX9_66 rfl e25 dX9_kept_58 ?_
      refine q_bipush (v := (19 : Int32)) C dX9_kept_61 (by decide) ?_
      refine q_iload_n 2 C dX9_kept_63 rfl ?_
      refine q_iadd C dX9_kept_64 ?_
      obtain ⟨v26, e27, h⟩ := bindE h
      refine q_iaload C e27 dX9_kept_65 ?_
      refine q_icmp_ne (tgt := 83) C dX9_kept_66 (by decide) (fun c28 => ?_) (fun c28 => ?_)
      · have h := ifF c28 h
        refine q_iconst (v := (0 : Int32)) C dX9_kept_83 (by decide) ?_
        refine q_ior C dX9_kept_84 ?_
        refine q_istore_n (i := 2) (lv' := [(2, .int (l2 ||| (0 : Int32))), (0, .ref l0), (3, .int l3)]) C dX9_kept_85 rfl (by decide) rfl ?_
        refine q_iinc 2 (v := (l3 + (1 : Int32))) (lv' := [(3, .int (l3 + (1 : Int32))), (2, .int (l2 ||| (0 : Int32))), (0, .ref l0)]) C dX9_kept_86 rfl rfl (by decide) rfl ?_
        refine q_goto (tgt := 26) C dX9_kept_89 (by decide) ?_
        exact q_sub (lv' := [(0, .ref l0), (2, .int (l2 ||| (0 : Int32))), (3, .int (l3 + (1 : Int32)))]) [2, 1, 0] rfl (kc ((l2 ||| (0 : Int32)), (l3 + (1 : Int32))) (someI h))
      · have h := ifT c28 h
        refine q_iconst (v := (1 : Int32)) C dX9_kept_69 (by decide) ?_
        refine q_aload_n 0 C dX9_kept_70 rfl ?_
        obtain ⟨v29, e30, h⟩ := bindE h
        refine q_getP C fl_RX9_66 rfl e30 dX9_kept_71 ?_
        refine q_bipush (v := (19 : Int32)) C dX9_kept_74 (by decide) ?_
        refine q_iload_n 2 C dX9_kept_76 rfl ?_
        refine q_iadd C dX9_kept_77 ?_
        obtain ⟨v31, e32, h⟩ := bindE h
        refine q_iaload C e32 dX9_kept_78 ?_
        refine q_ishl C dX9_kept_79 ?_
        refine q_goto (tgt := 84) C dX9_kept_80 (by decide) ?_
        refine q_ior C dX9_kept_84 ?_
        obtain ⟨n33, e34, h⟩ := nmE h
        refine q_topI e34 ?_
        refine q_istore_n (i := 2) (lv' := [(2, .int n33), (0, .ref l0), (3, .int l3)]) C dX9_kept_85 rfl (by decide) rfl ?_
        refine q_iinc 2 (v := (l3 + (1 : Int32))) (lv' := [(3, .int (l3 + (1 : Int32))), (2, .int n33), (0, .ref l0)]) C dX9_kept_86 rfl rfl (by decide) rfl ?_
        refine q_goto (tgt := 26) C dX9_kept_89 (by decide) ?_
        exact q_sub (lv' := [(0, .ref l0), (2, .int n33), (3, .int (l3 + (1 : Int32)))]) [2, 1, 0] rfl (kc (n33, (l3 + (1 : Int32))) (someI h))
theorem w_X9_kept_l26 {X : CX} {r : Int32} (C : CK X cX9_kept 4 RX9 14 300) (hRO : RO X.2.2.1 X.1.2.2.2.2.1 X.1.2.2.2.2.1.heap) (hl : X.1.2.1.stackTraces = false) (l0 : Nat) (M : Mem) (l2 : Int32) (l3 : Int32) (h : loop (fun s => F_X9_kept_s26 l0 M s.1 s.2) (l2, l3) = some r) (kx : ∀ e' : Int32, r = e' → wq X 4 92 [(2, .int (e'))] [] M) : wq X 4 26 [(0, .ref l0), (2, .int l2), (3, .int l3)] [] M :=
  loop_ind (P := fun s => wq X 4 26 [(0, .ref l0), (2, .int s.1), (3, .int s.2)] [] M) h (fun s y hy kc kr => w_X9_kept_s26 C hRO hl l0 M s.1 s.2 hy kc (fun e' he => kx e' (kr _ he).symm))
set_option maxRecDepth 100000 in
set_option maxHeartbeats 4000000 in
theorem w_X9_kept {X : CX} {y : Int32 × Mem} (C : CK X cX9_kept 4 RX9 14 300) (hRO : RO X.2.2.1 X.1.2.2.2.2.1 X.1.2.2.2.2.1.heap) (hl : X.1.2.1.stackTraces = false) (l0 : Nat) (l1 : Int32) (M : Mem) (h : F_X9_kept l0 l1 M = some y) (kf : FIN X (some .int) (rs_mI y) (ms_mI y)) : wq X 4 0 [(0, .ref l0), (1, .int l1)] [] M := by
  unfold F_X9_kept at h
  refine q_aload_n 0 C dX9_kept_0 rfl ?_
  refine q_iconst (v := (0 : Int32)) C dX9_kept_1 (by decide) ?_
  obtain ⟨M1, e2, h⟩ := bindE h
  refine q_putI C fp_RX9_111 rfl e2 dX9_kept_2 ?_
  refine q_aload_n 0 C dX9_kept_5 rfl ?_
  refine q_iload_n 1 C dX9_kept_6 rfl ?_
  refine q_iconst (v := (0 : Int32)) C dX9_kept_7 (by decide) ?_
  refine q_iconst (v := (1 : Int32)) C dX9_kept_8 (by decide) ?_
  obtain ⟨e3, h⟩ := ckOE h
  obtain ⟨v6, M5, e4, h⟩ := bd2E h
  refine q_callV (v := some (.int v6)) [.int l1, .int (0 : Int32), .int (1 : Int32)] C hRO lk_RX9_397 vk_X9_isDays e3 rfl rfl rfl (Nat.le_of_ble_eq_true rfl) (by decide) (by decide) dX9_kept_9 (k_X9_isDays X.1.2.1 hl X.2.2.1 l0 l1 (0 : Int32) (1 : Int32) M1 _ e4) ?_
  refine q_if_ne (tgt := 17) C dX9_kept_12 (by decide) (fun c7 => ?_) (fun c7 => ?_)
  · have h := ifF c7 h
    refine q_aload_n 0 C dX9_kept_17 rfl ?_
    refine q_iload_n 1 C dX9_kept_18 rfl ?_
    obtain ⟨e8, h⟩ := ckOE h
    obtain ⟨M10, e9, h⟩ := bindE h
    refine q_callV (v := none) [.int l1] C hRO lk_RX9_400 vk_X9_goesTo e8 rfl rfl rfl (Nat.le_of_ble_eq_true rfl) (by decide) (by decide) dX9_kept_19 (k_X9_goesTo X.1.2.1 hl X.2.2.1 l0 l1 M5 _ e9) ?_
    refine q_iconst (v := (0 : Int32)) C dX9_kept_22 (by decide) ?_
    refine q_istore_n (i := 2) (lv' := [(2, .int (0 : Int32)), (0, .ref l0), (1, .int l1)]) C dX9_kept_23 rfl (by decide) rfl ?_
    refine q_iconst (v := (0 : Int32)) C dX9_kept_24 (by decide) ?_
    refine q_istore_n (i := 3) (lv' := [(3, .int (0 : Int32)), (2, .int (0 : Int32)), (0, .ref l0), (1, .int l1)]) C dX9_kept_25 rfl (by decide) rfl ?_
    obtain ⟨x37, e36, h⟩ := bindE h
    refine q_sub (lv' := [(0, .ref l0), (2, .int (0 : Int32)), (3, .int (0 : Int32))]) [2, 1, 0] rfl (w_X9_kept_l26 C hRO hl l0 M10 (0 : Int32) (0 : Int32) e36 (fun r35 he => ?_))
    subst he
    show wq X 4 92 [(2, .int x37)] [] M10
    refine q_iload_n 0 C dX9_kept_92 rfl ?_
    cases h
    exact q_iret C kf dX9_kept_93
  · have h := ifT c7 h
    refine q_iconst (v := (0 : Int32)) C dX9_kept_15 (by decide) ?_
    cases h
    exact q_iret C kf dX9_kept_16
theorem k_X9_kept (l : Launch) (hl : l.stackTraces = false) (G : GG) (l0 : Nat) (l1 : Int32) (M : Mem) (x : Int32 × Mem) (h : F_X9_kept l0 l1 M = some x) : Ct l G yX9_kept (.code yX9_kept cX9_kept 4 (some .int)) 14 300 [.ref l0, .int l1] M (rs_mI x) (ms_mI x) := by
  refine Ct_of (by decide +kernel) (Nat.le_of_ble_eq_true rfl) fun X e1 e2 e3 C FN hnm => ?_
  subst e1; subst e2
  show wq X 4 0 [(0, .ref l0), (1, .int l1)] [] M
  exact w_X9_kept C FN.2.2.2 hl l0 l1 M h FN
/-! X9_large -/
set_option maxRecDepth 100000 in
set_option maxHeartbeats 4000000 in
theorem w_X9_large_s45 {X : CX} {y : (Int32 × Int32 × Int32 × Mem) ⊕ (Int32 × Int32 × Mem)} (C : CK X cX9_large 5 RX9 14 301) (hRO : RO X.2.2.1 X.1.2.2.2.2.1 X.1.2.2.2.2.1.heap) (hl : X.1.2.1.stackTraces = false) (l0 : Nat) (l1 : Int32) (l2 : Int32) (l3 : Int32) (l4 : Int32) (M : Mem) (h : F_X9_large_s45 l0 l2 l3 l4 M = some y) (kc : ∀ s' : Int32 × Int32 × Int32 × Mem, y = .inl s' → wq X 5 45 [(0, .ref l0), (1, .int l1), (2, .int (s'.1)), (3, .int (s'.2.1)), (4, .int (s'.2.2.1))] [] s'.2.2.2) (kx : ∀ e' : Int32 × Int32 × Mem, y = (.inr e') → wq X 5 100 [(1, .int l1), (2, .int (e'.1)), (3, .int (e'.2.1))] [] e'.2.2) : wq X 5 45 [(0, .ref l0), (1, .int l1), (2, .int l2), (3, .int l3), (4, .int l4)] [] M := by
  unfold F_X9_large_s45 at h
  refine q_iload 4 C dX9_large_45 rfl ?_
  refine q_bipush (v := (60 : Int32)) C dX9_large_47 (by decide) ?_
  refine q_aload_n 0 C dX9_large_49 rfl ?_
  obtain ⟨v9, e10, h⟩ := bindE h
  refine q_getI C fl_RX9_278 rfl e10 dX9_large_50 ?_
  refine q_imul C dX9_large_53 ?_
  refine q_icmp_ge (tgt := 100) C dX9_large_54 (by decide) (fun c11 => ?_) (fun c11 => ?_)
  · have h := ifT c11 h
    exact q_sub (lv' := [(1, .int l1), (2, .int l2), (3, .int l3)]) [1, 2, 3] rfl (kx (l2, l3, M) (someI h))
  · have h := ifF c11 h
    refine q_aload_n 0 C dX9_large_57 rfl ?_
    refine q_iload 4 C dX9_large_58 rfl ?_
    obtain ⟨e12, h⟩ := ckOE h
    obtain ⟨v15, M14, e13, h⟩ := bd2E h
    refine q_callV (v := some (.int v15)) [.int l4] C hRO lk_RX9_427 vk_X9_isGuess e12 rfl rfl rfl (Nat.le_of_ble_eq_true rfl) (by decide) (by decide) dX9_large_60 (k_X9_isGuess X.1.2.1 hl X.2.2.1 l0 l4 M _ e13) ?_
    refine q_if_ne (tgt := 69) C dX9_large_63 (by decide) (fun c16 => ?_) (fun c16 => ?_)
    · have h := ifF c16 h
      refine q_iinc 2 (v := (l2 + (1 : Int32))) (lv' := [(2, .int (l2 + (1 : Int32))), (0, .ref l0), (1, .int l1), (3, .int l3), (4, .int l4)]) C dX9_large_69 rfl rfl (by decide) rfl ?_
      refine q_iload_n 3 C dX9_large_72 rfl ?_
      refine q_iconst (v := (-1 : Int32)) C dX9_large_73 (by decide) ?_
      refine q_icmp_ne (tgt := 94) C dX9_large_74 (by decide) (fun c17 => ?_) (fun c17 => ?_)
      · have h := ifF c17 h
        refine q_iinc 4 (v := (l4 + (1 : Int32))) (lv' := [(4, .int (l4 + (1 : Int32))), (2, .int (l2 + (1 : Int32))), (0, .ref l0), (1, .int l1), (3, .int l3)]) C dX9_large_94 rfl rfl (by decide) rfl ?_
        refine q_goto (tgt := 45) C dX9_large_97 (by decide) ?_
        exact q_sub (lv' := [(0, .ref l0), (1, .int l1), (2, .int (l2 + (1 : Int32))), (3, .int l3), (4, .int (l4 + (1 : Int32)))]) [2, 3, 1, 4, 0] rfl (kc ((l2 + (1 : Int32)), l3, (l4 + (1 : Int32)), M14) (someI h))
      · have h := ifT c17 h
        refine q_iload 4 C dX9_large_77 rfl ?_
        refine q_bipush (v := (60 : Int32)) C dX9_large_79 (by decide) ?_
        refine q_idiv C (by decide) dX9_large_81 ?_
        refine q_bipush (v := (100 : Int32)) C dX9_large_82 (by decide) ?_
        refine q_imul C dX9_large_84 ?_
        refine q_iload 4 C dX9_large_85 rfl ?_
        refine q_bipush (v := (60 : Int32)) C dX9_large_87 (by decide) ?_
        refine q_irem C (by decide) dX9_large_89 ?_
        refine q_iadd C dX9_large_90 ?_
        refine q_iconst (v := (1 : Int32)) C dX9_large_91 (by decide) ?_
        refine q_iadd C dX9_large_92 ?_
        obtain ⟨n18, e19, h⟩ := nmE h
        refine q_topI e19 ?_
        refine q_istore_n (i := 3) (lv' := [(3, .int n18), (2, .int (l2 + (1 : Int32))), (0, .ref l0), (1, .int l1), (4, .int l4)]) C dX9_large_93 rfl (by decide) rfl ?_
        refine q_iinc 4 (v := (l4 + (1 : Int32))) (lv' := [(4, .int (l4 + (1 : Int32))), (3, .int n18), (2, .int (l2 + (1 : Int32))), (0, .ref l0), (1, .int l1)]) C dX9_large_94 rfl rfl (by decide) rfl ?_
        refine q_goto (tgt := 45) C dX9_large_97 (by decide) ?_
        exact q_sub (lv' := [(0, .ref l0), (1, .int l1), (2, .int (l2 + (1 : Int32))), (3, .int n18), (4, .int (l4 + (1 : Int32)))]) [3, 4, 2, 1, 0] rfl (kc ((l2 + (1 : Int32)), n18, (l4 + (1 : Int32)), M14) (someI h))
    · have h := ifT c16 h
      refine q_goto (tgt := 94) C dX9_large_66 (by decide) ?_
      refine q_iinc 4 (v := (l4 + (1 : Int32))) (lv' := [(4, .int (l4 + (1 : Int32))), (0, .ref l0), (1, .int l1), (2, .int l2), (3, .int l3)]) C dX9_large_94 rfl rfl (by decide) rfl ?_
      refine q_goto (tgt := 45) C dX9_large_97 (by decide) ?_
      exact q_sub (lv' := [(0, .ref l0), (1, .int l1), (2, .int l2), (3, .int l3), (4, .int (l4 + (1 : Int32)))]) [1, 2, 3, 4, 0] rfl (kc (l2, l3, (l4 + (1 : Int32)), M14) (someI h))
theorem w_X9_large_l45 {X : CX} {r : Int32 × Int32 × Mem} (C : CK X cX9_large 5 RX9 14 301) (hRO : RO X.2.2.1 X.1.2.2.2.2.1 X.1.2.2.2.2.1.heap) (hl : X.1.2.1.stackTraces = false) (l0 : Nat) (l1 : Int32) (l2 : Int32) (l3 : Int32) (l4 : Int32) (M : Mem) (h : loop (fun s => F_X9_large_s45 l0 s.1 s.2.1 s.2.2.1 s.2.2.2) (l2, l3, l4, M) = some r) (kx : ∀ e' : Int32 × Int32 × Mem, r = e' → wq X 5 100 [(1, .int l1), (2, .int (e'.1)), (3, .int (e'.2.1))] [] e'.2.2) : wq X 5 45 [(0, .ref l0), (1, .int l1), (2, .int l2), (3, .int l3), (4, .int l4)] [] M :=
  loop_ind (P := fun s => wq X 5 45 [(0, .ref l0), (1, .int l1), (2, .int s.1), (3, .int s.2.1), (4, .int s.2.2.1)] [] s.2.2.2) h (fun s y hy kc kr => w_X9_large_s45 C hRO hl l0 l1 s.1 s.2.1 s.2.2.1 s.2.2.2 hy kc (fun e' he => kx e' (kr _ he).symm))
set_option maxRecDepth 100000 in
set_option maxHeartbeats 4000000 in
theorem w_X9_large {X : CX} {y : Int32 × Mem} (C : CK X cX9_large 5 RX9 14 301) (hRO : RO X.2.2.1 X.1.2.2.2.2.1 X.1.2.2.2.2.1.heap) (hl : X.1.2.1.stackTraces = false) (l0 : Nat) (l1 : Int32) (M : Mem) (h : F_X9_large l0 l1 M = some y) (kf : FIN X (some .int) (rs_mI y) (ms_mI y)) : wq X 5 0 [(0, .ref l0), (1, .int l1)] [] M := by
  unfold F_X9_large at h
  refine q_aload_n 0 C dX9_large_0 rfl ?_
  refine q_iconst (v := (0 : Int32)) C dX9_large_1 (by decide) ?_
  obtain ⟨M1, e2, h⟩ := bindE h
  refine q_putI C fp_RX9_111 rfl e2 dX9_large_2 ?_
  refine q_aload_n 0 C dX9_large_5 rfl ?_
  refine q_iload_n 1 C dX9_large_6 rfl ?_
  refine q_iconst (v := (2 : Int32)) C dX9_large_7 (by decide) ?_
  obtain ⟨e3, h⟩ := ckOE h
  obtain ⟨v6, M5, e4, h⟩ := bd2E h
  refine q_callV (v := some (.int v6)) [.int l1, .int (2 : Int32)] C hRO lk_RX9_370 vk_X9_isWhat e3 rfl rfl rfl (Nat.le_of_ble_eq_true rfl) (by decide) (by decide) dX9_large_8 (k_X9_isWhat X.1.2.1 hl X.2.2.1 l0 l1 (2 : Int32) M1 _ e4) ?_
  refine q_if_ne (tgt := 16) C dX9_large_11 (by decide) (fun c7 => ?_) (fun c7 => ?_)
  · have h := ifF c7 h
    refine q_iload_n 1 C dX9_large_16 rfl ?_
    refine q_iconst (v := (2 : Int32)) C dX9_large_17 (by decide) ?_
    refine q_icmp_ne (tgt := 38) C dX9_large_18 (by decide) (fun c8 => ?_) (fun c8 => ?_)
    · have h := ifF c8 h
      refine q_iconst (v := (0 : Int32)) C dX9_large_38 (by decide) ?_
      refine q_istore_n (i := 2) (lv' := [(2, .int (0 : Int32)), (0, .ref l0), (1, .int l1)]) C dX9_large_39 rfl (by decide) rfl ?_
      refine q_iconst (v := (-1 : Int32)) C dX9_large_40 (by decide) ?_
      refine q_istore_n (i := 3) (lv' := [(3, .int (-1 : Int32)), (2, .int (0 : Int32)), (0, .ref l0), (1, .int l1)]) C dX9_large_41 rfl (by decide) rfl ?_
      refine q_iconst (v := (0 : Int32)) C dX9_large_42 (by decide) ?_
      refine q_istore (i := 4) (lv' := [(4, .int (0 : Int32)), (3, .int (-1 : Int32)), (2, .int (0 : Int32)), (0, .ref l0), (1, .int l1)]) C dX9_large_43 (by decide) rfl ?_
      obtain ⟨⟨x22, x23, M24⟩, e21, h⟩ := bindE h
      refine q_sub (lv' := [(0, .ref l0), (1, .int l1), (2, .int (0 : Int32)), (3, .int (-1 : Int32)), (4, .int (0 : Int32))]) [3, 4, 2, 1, 0] rfl (w_X9_large_l45 C hRO hl l0 l1 (0 : Int32) (-1 : Int32) (0 : Int32) M5 e21 (fun r20 he => ?_))
      subst he
      have h := u3E h
      show wq X 5 100 [(1, .int l1), (2, .int x22), (3, .int x23)] [] M24
      refine q_iload_n 0 C dX9_large_100 rfl ?_
      refine q_if_ne (tgt := 108) C dX9_large_101 (by decide) (fun c25 => ?_) (fun c25 => ?_)
      · have h := ifF c25 h
        refine q_iload_n 2 C dX9_large_108 rfl ?_
        cases h
        exact q_iret C kf dX9_large_109
      · have h := ifT c25 h
        refine q_iload_n 1 C dX9_large_104 rfl ?_
        refine q_goto (tgt := 109) C dX9_large_105 (by decide) ?_
        cases h
        exact q_iret C kf dX9_large_109
    · have h := ifT c8 h
      refine q_aload_n 0 C dX9_large_21 rfl ?_
      obtain ⟨e27, h⟩ := ckOE h
      obtain ⟨M29, e28, h⟩ := bindE h
      refine q_callV (v := none) [] C hRO lk_RX9_391 vk_X9_tries e27 rfl rfl rfl (Nat.le_of_ble_eq_true rfl) (by decide) (by decide) dX9_large_22 (k_X9_tries X.1.2.1 hl X.2.2.1 l0 M5 _ e28) ?_
      refine q_aload_n 0 C dX9_large_25 rfl ?_
      obtain ⟨e31, h⟩ := ckOE h
      obtain ⟨v34, M33, e32, h⟩ := bd2E h
      refine q_callV (v := some (.int v34)) [] C hRO lk_RX9_424 vk_X9_isSeen e31 rfl rfl rfl (Nat.le_of_ble_eq_true rfl) (by decide) (by decide) dX9_large_26 (k_X9_isSeen X.1.2.1 hl X.2.2.1 l0 M29 _ e32) ?_
      refine q_if_eq (tgt := 36) C dX9_large_29 (by decide) (fun c35 => ?_) (fun c35 => ?_)
      · have h := ifT c35 h
        refine q_iconst (v := (0 : Int32)) C dX9_large_36 (by decide) ?_
        cases h
        exact q_iret C kf dX9_large_37
      · have h := ifF c35 h
        refine q_iconst (v := (1 : Int32)) C dX9_large_32 (by decide) ?_
        refine q_goto (tgt := 37) C dX9_large_33 (by decide) ?_
        cases h
        exact q_iret C kf dX9_large_37
  · have h := ifT c7 h
    refine q_iconst (v := (0 : Int32)) C dX9_large_14 (by decide) ?_
    cases h
    exact q_iret C kf dX9_large_15
theorem k_X9_large (l : Launch) (hl : l.stackTraces = false) (G : GG) (l0 : Nat) (l1 : Int32) (M : Mem) (x : Int32 × Mem) (h : F_X9_large l0 l1 M = some x) : Ct l G yX9_large (.code yX9_large cX9_large 5 (some .int)) 14 301 [.ref l0, .int l1] M (rs_mI x) (ms_mI x) := by
  refine Ct_of (by decide +kernel) (Nat.le_of_ble_eq_true rfl) fun X e1 e2 e3 C FN hnm => ?_
  subst e1; subst e2
  show wq X 5 0 [(0, .ref l0), (1, .int l1)] [] M
  exact w_X9_large C FN.2.2.2 hl l0 l1 M h FN
/-! X9_larger -/
set_option maxRecDepth 100000 in
set_option maxHeartbeats 4000000 in
theorem w_X9_larger_s19 {X : CX} {y : (Int32 × Int32) ⊕ (Int32)} (C : CK X cX9_larger 4 RX9 9 183) (hRO : RO X.2.2.1 X.1.2.2.2.2.1 X.1.2.2.2.2.1.heap) (hl : X.1.2.1.stackTraces = false) (l0 : Nat) (l1 : Int32) (M : Mem) (l2 : Int32) (l3 : Int32) (h : F_X9_larger_s19 l0 l1 M l2 l3 = some y) (kc : ∀ s' : Int32 × Int32, y = .inl s' → wq X 4 19 [(0, .ref l0), (1, .int l1), (2, .int (s'.1)), (3, .int (s'.2))] [] M) (kx : ∀ e' : Int32, y = (.inr e') → wq X 4 62 [(2, .int (e'))] [] M) : wq X 4 19 [(0, .ref l0), (1, .int l1), (2, .int l2), (3, .int l3)] [] M := by
  unfold F_X9_larger_s19 at h
  refine q_iload_n 3 C dX9_larger_19 rfl ?_
  refine q_aload_n 0 C dX9_larger_20 rfl ?_
  obtain ⟨v8, e9, h⟩ := bindE h
  refine q_getI C fl_RX9_278 rfl e9 dX9_larger_21 ?_
  refine q_icmp_ge (tgt := 62) C dX9_larger_24 (by decide) (fun c10 => ?_) (fun c10 => ?_)
  · have h := ifT c10 h
    exact q_sub (lv' := [(2, .int l2)]) [2] rfl (kx l2 (someI h))
  · have h := ifF c10 h
    refine q_iload_n 2 C dX9_larger_27 rfl ?_
    refine q_aload_n 0 C dX9_larger_28 rfl ?_
    obtain ⟨v11, e12, h⟩ := bindE h
    refine q_getP C fl_RX9_66 rfl e12 dX9_larger_29 ?_
    refine q_bipush (v := (27 : Int32)) C dX9_larger_32 (by decide) ?_
    refine q_iload_n 3 C dX9_larger_34 rfl ?_
    refine q_iadd C dX9_larger_35 ?_
    obtain ⟨v13, e14, h⟩ := bindE h
    refine q_iaload C e14 dX9_larger_36 ?_
    refine q_aload_n 0 C dX9_larger_37 rfl ?_
    obtain ⟨v15, e16, h⟩ := bindE h
    refine q_getP C fl_RX9_66 rfl e16 dX9_larger_38 ?_
    refine q_bipush (v := (27 : Int32)) C dX9_larger_41 (by decide) ?_
    refine q_iload_n 1 C dX9_larger_43 rfl ?_
    refine q_iadd C dX9_larger_44 ?_
    obtain ⟨v17, e18, h⟩ := bindE h
    refine q_iaload C e18 dX9_larger_45 ?_
    refine q_icmp_le (tgt := 53) C dX9_larger_46 (by decide) (fun c19 => ?_) (fun c19 => ?_)
    · have h := ifT c19 h
      refine q_iconst (v := (0 : Int32)) C dX9_larger_53 (by decide) ?_
      refine q_iadd C dX9_larger_54 ?_
      refine q_istore_n (i := 2) (lv' := [(2, .int (l2 + (0 : Int32))), (0, .ref l0), (1, .int l1), (3, .int l3)]) C dX9_larger_55 rfl (by decide) rfl ?_
      refine q_iinc 3 (v := (l3 + (1 : Int32))) (lv' := [(3, .int (l3 + (1 : Int32))), (2, .int (l2 + (0 : Int32))), (0, .ref l0), (1, .int l1)]) C dX9_larger_56 rfl rfl (by decide) rfl ?_
      refine q_goto (tgt := 19) C dX9_larger_59 (by decide) ?_
      exact q_sub (lv' := [(0, .ref l0), (1, .int l1), (2, .int (l2 + (0 : Int32))), (3, .int (l3 + (1 : Int32)))]) [2, 3, 1, 0] rfl (kc ((l2 + (0 : Int32)), (l3 + (1 : Int32))) (someI h))
    · have h := ifF c19 h
      refine q_iconst (v := (1 : Int32)) C dX9_larger_49 (by decide) ?_
      refine q_goto (tgt := 54) C dX9_larger_50 (by decide) ?_
      refine q_iadd C dX9_larger_54 ?_
      refine q_istore_n (i := 2) (lv' := [(2, .int (l2 + (1 : Int32))), (0, .ref l0), (1, .int l1), (3, .int l3)]) C dX9_larger_55 rfl (by decide) rfl ?_
      refine q_iinc 3 (v := (l3 + (1 : Int32))) (lv' := [(3, .int (l3 + (1 : Int32))), (2, .int (l2 + (1 : Int32))), (0, .ref l0), (1, .int l1)]) C dX9_larger_56 rfl rfl (by decide) rfl ?_
      refine q_goto (tgt := 19) C dX9_larger_59 (by decide) ?_
      exact q_sub (lv' := [(0, .ref l0), (1, .int l1), (2, .int (l2 + (1 : Int32))), (3, .int (l3 + (1 : Int32)))]) [2, 3, 1, 0] rfl (kc ((l2 + (1 : Int32)), (l3 + (1 : Int32))) (someI h))
theorem w_X9_larger_l19 {X : CX} {r : Int32} (C : CK X cX9_larger 4 RX9 9 183) (hRO : RO X.2.2.1 X.1.2.2.2.2.1 X.1.2.2.2.2.1.heap) (hl : X.1.2.1.stackTraces = false) (l0 : Nat) (l1 : Int32) (M : Mem) (l2 : Int32) (l3 : Int32) (h : loop (fun s => F_X9_larger_s19 l0 l1 M s.1 s.2) (l2, l3) = some r) (kx : ∀ e' : Int32, r = e' → wq X 4 62 [(2, .int (e'))] [] M) : wq X 4 19 [(0, .ref l0), (1, .int l1), (2, .int l2), (3, .int l3)] [] M :=
  loop_ind (P := fun s => wq X 4 19 [(0, .ref l0), (1, .int l1), (2, .int s.1), (3, .int s.2)] [] M) h (fun s y hy kc kr => w_X9_larger_s19 C hRO hl l0 l1 M s.1 s.2 hy kc (fun e' he => kx e' (kr _ he).symm))
set_option maxRecDepth 100000 in
set_option maxHeartbeats 4000000 in
theorem w_X9_larger {X : CX} {y : Int32 × Mem} (C : CK X cX9_larger 4 RX9 9 183) (hRO : RO X.2.2.1 X.1.2.2.2.2.1 X.1.2.2.2.2.1.heap) (hl : X.1.2.1.stackTraces = false) (l0 : Nat) (l1 : Int32) (M : Mem) (h : F_X9_larger l0 l1 M = some y) (kf : FIN X (some .int) (rs_mI y) (ms_mI y)) : wq X 4 0 [(0, .ref l0), (1, .int l1)] [] M := by
  unfold F_X9_larger at h
  refine q_aload_n 0 C dX9_larger_0 rfl ?_
  refine q_iconst (v := (0 : Int32)) C dX9_larger_1 (by decide) ?_
  obtain ⟨M1, e2, h⟩ := bindE h
  refine q_putI C fp_RX9_111 rfl e2 dX9_larger_2 ?_
  refine q_aload_n 0 C dX9_larger_5 rfl ?_
  refine q_iload_n 1 C dX9_larger_6 rfl ?_
  obtain ⟨e3, h⟩ := ckOE h
  obtain ⟨v6, M5, e4, h⟩ := bd2E h
  refine q_callV (v := some (.int v6)) [.int l1] C hRO lk_RX9_379 vk_X9_isPerson e3 rfl rfl rfl (Nat.le_of_ble_eq_true rfl) (by decide) (by decide) dX9_larger_7 (k_X9_isPerson X.1.2.1 hl X.2.2.1 l0 l1 M1 _ e4) ?_
  refine q_if_ne (tgt := 15) C dX9_larger_10 (by decide) (fun c7 => ?_) (fun c7 => ?_)
  · have h := ifF c7 h
    refine q_iconst (v := (0 : Int32)) C dX9_larger_15 (by decide) ?_
    refine q_istore_n (i := 2) (lv' := [(2, .int (0 : Int32)), (0, .ref l0), (1, .int l1)]) C dX9_larger_16 rfl (by decide) rfl ?_
    refine q_iconst (v := (0 : Int32)) C dX9_larger_17 (by decide) ?_
    refine q_istore_n (i := 3) (lv' := [(3, .int (0 : Int32)), (2, .int (0 : Int32)), (0, .ref l0), (1, .int l1)]) C dX9_larger_18 rfl (by decide) rfl ?_
    obtain ⟨x22, e21, h⟩ := bindE h
    refine q_sub (lv' := [(0, .ref l0), (1, .int l1), (2, .int (0 : Int32)), (3, .int (0 : Int32))]) [2, 3, 1, 0] rfl (w_X9_larger_l19 C hRO hl l0 l1 M5 (0 : Int32) (0 : Int32) e21 (fun r20 he => ?_))
    subst he
    show wq X 4 62 [(2, .int x22)] [] M5
    refine q_iload_n 0 C dX9_larger_62 rfl ?_
    cases h
    exact q_iret C kf dX9_larger_63
  · have h := ifT c7 h
    refine q_iconst (v := (0 : Int32)) C dX9_larger_13 (by decide) ?_
    cases h
    exact q_iret C kf dX9_larger_14
theorem k_X9_larger (l : Launch) (hl : l.stackTraces = false) (G : GG) (l0 : Nat) (l1 : Int32) (M : Mem) (x : Int32 × Mem) (h : F_X9_larger l0 l1 M = some x) : Ct l G yX9_larger (.code yX9_larger cX9_larger 4 (some .int)) 9 183 [.ref l0, .int l1] M (rs_mI x) (ms_mI x) := by
  refine Ct_of (by decide +kernel) (Nat.le_of_ble_eq_true rfl) fun X e1 e2 e3 C FN hnm => ?_
  subst e1; subst e2
  show wq X 4 0 [(0, .ref l0), (1, .int l1)] [] M
  exact w_X9_larger C FN.2.2.2 hl l0 l1 M h FN
/-! X9_last -/
set_option maxRecDepth 100000 in
set_option maxHeartbeats 4000000 in
theorem w_X9_last_s23 {X : CX} {y : (Int32 × Int32 × Int32 × Mem) ⊕ (Int32 × Int32 × Mem)} (C : CK X cX9_last 6 RX9 13 279) (hRO : RO X.2.2.1 X.1.2.2.2.2.1 X.1.2.2.2.2.1.heap) (hl : X.1.2.1.stackTraces = false) (l0 : Nat) (l1 : Int32) (l2 : Int32) (l3 : Int32) (l4 : Int32) (M : Mem) (h : F_X9_last_s23 l0 l2 l3 l4 M = some y) (kc : ∀ s' : Int32 × Int32 × Int32 × Mem, y = .inl s' → wq X 6 23 [(0, .ref l0), (1, .int l1), (2, .int (s'.1)), (3, .int (s'.2.1)), (4, .int (s'.2.2.1))] [] s'.2.2.2) (kx : ∀ e' : Int32 × Int32 × Mem, y = (.inr e') → wq X 6 78 [(1, .int l1), (2, .int (e'.1)), (3, .int (e'.2.1))] [] e'.2.2) : wq X 6 23 [(0, .ref l0), (1, .int l1), (2, .int l2), (3, .int l3), (4, .int l4)] [] M := by
  unfold F_X9_last_s23 at h
  refine q_iload 4 C dX9_last_23 rfl ?_
  refine q_aload_n 0 C dX9_last_25 rfl ?_
  obtain ⟨v8, e9, h⟩ := bindE h
  refine q_getI C fl_RX9_275 rfl e9 dX9_last_26 ?_
  refine q_icmp_ge (tgt := 78) C dX9_last_29 (by decide) (fun c10 => ?_) (fun c10 => ?_)
  · have h := ifT c10 h
    exact q_sub (lv' := [(1, .int l1), (2, .int l2), (3, .int l3)]) [1, 2, 3] rfl (kx (l2, l3, M) (someI h))
  · have h := ifF c10 h
    refine q_aload_n 0 C dX9_last_32 rfl ?_
    obtain ⟨v11, e12, h⟩ := bindE h
    refine q_getP C fl_RX9_66 rfl e12 dX9_last_33 ?_
    refine q_bipush (v := (19 : Int32)) C dX9_last_36 (by decide) ?_
    refine q_iload 4 C dX9_last_38 rfl ?_
    refine q_iadd C dX9_last_40 ?_
    obtain ⟨v13, e14, h⟩ := bindE h
    refine q_iaload C e14 dX9_last_41 ?_
    refine q_iconst (v := (-1 : Int32)) C dX9_last_42 (by decide) ?_
    refine q_icmp_ne (tgt := 49) C dX9_last_43 (by decide) (fun c15 => ?_) (fun c15 => ?_)
    · have h := ifF c15 h
      refine q_aload_n 0 C dX9_last_49 rfl ?_
      refine q_iload 4 C dX9_last_50 rfl ?_
      obtain ⟨e16, h⟩ := ckOE h
      obtain ⟨v19, M18, e17, h⟩ := bd2E h
      refine q_callV (v := some (.int v19)) [.int l4] C hRO lk_RX9_403 vk_X9_burstsIn e16 rfl rfl rfl (Nat.le_of_ble_eq_true rfl) (by decide) (by decide) dX9_last_52 (k_X9_burstsIn X.1.2.1 hl X.2.2.1 l0 l4 M _ e17) ?_
      refine q_istore (i := 5) (lv' := [(5, .int v19), (0, .ref l0), (1, .int l1), (2, .int l2), (3, .int l3), (4, .int l4)]) C dX9_last_55 (by decide) rfl ?_
      refine q_iload 0 C dX9_last_57 rfl ?_
      refine q_iload_n 4 C dX9_last_59 rfl ?_
      refine q_icmp_gt (tgt := 66) C dX9_last_60 (by decide) (fun c20 => ?_) (fun c20 => ?_)
      · have h := ifT c20 h
        refine q_iload 5 C dX9_last_66 rfl ?_
        refine q_istore_n (i := 2) (lv' := [(2, .int l4), (5, .int v19), (0, .ref l0), (1, .int l1), (3, .int l3), (4, .int l4)]) C dX9_last_68 rfl (by decide) rfl ?_
        refine q_iload 1 C dX9_last_69 rfl ?_
        refine q_istore_n (i := 3) (lv' := [(3, .int v19), (2, .int l4), (5, .int v19), (0, .ref l0), (1, .int l1), (4, .int l4)]) C dX9_last_71 rfl (by decide) rfl ?_
        refine q_iinc 5 (v := (l4 + (1 : Int32))) (lv' := [(4, .int (l4 + (1 : Int32))), (3, .int v19), (2, .int l4), (5, .int v19), (0, .ref l0), (1, .int l1)]) C dX9_last_72 rfl rfl (by decide) rfl ?_
        refine q_goto (tgt := 23) C dX9_last_75 (by decide) ?_
        exact q_sub (lv' := [(0, .ref l0), (1, .int l1), (2, .int l4), (3, .int v19), (4, .int (l4 + (1 : Int32)))]) [4, 5, 2, 1, 0] rfl (kc (l4, v19, (l4 + (1 : Int32)), M18) (someI h))
      · have h := ifF c20 h
        refine q_goto (tgt := 72) C dX9_last_63 (by decide) ?_
        refine q_iinc 5 (v := (l4 + (1 : Int32))) (lv' := [(4, .int (l4 + (1 : Int32))), (5, .int v19), (0, .ref l0), (1, .int l1), (2, .int l2), (3, .int l3)]) C dX9_last_72 rfl rfl (by decide) rfl ?_
        refine q_goto (tgt := 23) C dX9_last_75 (by decide) ?_
        exact q_sub (lv' := [(0, .ref l0), (1, .int l1), (2, .int l2), (3, .int l3), (4, .int (l4 + (1 : Int32)))]) [2, 3, 4, 5, 0] rfl (kc (l2, l3, (l4 + (1 : Int32)), M18) (someI h))
    · have h := ifT c15 h
      refine q_goto (tgt := 72) C dX9_last_46 (by decide) ?_
      refine q_iinc 4 (v := (l4 + (1 : Int32))) (lv' := [(4, .int (l4 + (1 : Int32))), (0, .ref l0), (1, .int l1), (2, .int l2), (3, .int l3)]) C dX9_last_72 rfl rfl (by decide) rfl ?_
      refine q_goto (tgt := 23) C dX9_last_75 (by decide) ?_
      exact q_sub (lv' := [(0, .ref l0), (1, .int l1), (2, .int l2), (3, .int l3), (4, .int (l4 + (1 : Int32)))]) [1, 2, 3, 4, 0] rfl (kc (l2, l3, (l4 + (1 : Int32)), M) (someI h))
theorem w_X9_last_l23 {X : CX} {r : Int32 × Int32 × Mem} (C : CK X cX9_last 6 RX9 13 279) (hRO : RO X.2.2.1 X.1.2.2.2.2.1 X.1.2.2.2.2.1.heap) (hl : X.1.2.1.stackTraces = false) (l0 : Nat) (l1 : Int32) (l2 : Int32) (l3 : Int32) (l4 : Int32) (M : Mem) (h : loop (fun s => F_X9_last_s23 l0 s.1 s.2.1 s.2.2.1 s.2.2.2) (l2, l3, l4, M) = some r) (kx : ∀ e' : Int32 × Int32 × Mem, r = e' → wq X 6 78 [(1, .int l1), (2, .int (e'.1)), (3, .int (e'.2.1))] [] e'.2.2) : wq X 6 23 [(0, .ref l0), (1, .int l1), (2, .int l2), (3, .int l3), (4, .int l4)] [] M :=
  loop_ind (P := fun s => wq X 6 23 [(0, .ref l0), (1, .int l1), (2, .int s.1), (3, .int s.2.1), (4, .int s.2.2.1)] [] s.2.2.2) h (fun s y hy kc kr => w_X9_last_s23 C hRO hl l0 l1 s.1 s.2.1 s.2.2.1 s.2.2.2 hy kc (fun e' he => kx e' (kr _ he).symm))
set_option maxRecDepth 100000 in
set_option maxHeartbeats 4000000 in
theorem w_X9_last {X : CX} {y : Int32 × Mem} (C : CK X cX9_last 6 RX9 13 279) (hRO : RO X.2.2.1 X.1.2.2.2.2.1 X.1.2.2.2.2.1.heap) (hl : X.1.2.1.stackTraces = false) (l0 : Nat) (l1 : Int32) (M : Mem) (h : F_X9_last l0 l1 M = some y) (kf : FIN X (some .int) (rs_mI y) (ms_mI y)) : wq X 6 0 [(0, .ref l0), (1, .int l1)] [] M := by
  unfold F_X9_last at h
  refine q_aload_n 0 C dX9_last_0 rfl ?_
  refine q_iconst (v := (0 : Int32)) C dX9_last_1 (by decide) ?_
  obtain ⟨M1, e2, h⟩ := bindE h
  refine q_putI C fp_RX9_111 rfl e2 dX9_last_2 ?_
  refine q_aload_n 0 C dX9_last_5 rfl ?_
  refine q_iload_n 1 C dX9_last_6 rfl ?_
  refine q_iconst (v := (1 : Int32)) C dX9_last_7 (by decide) ?_
  obtain ⟨e3, h⟩ := ckOE h
  obtain ⟨v6, M5, e4, h⟩ := bd2E h
  refine q_callV (v := some (.int v6)) [.int l1, .int (1 : Int32)] C hRO lk_RX9_370 vk_X9_isWhat e3 rfl rfl rfl (Nat.le_of_ble_eq_true rfl) (by decide) (by decide) dX9_last_8 (k_X9_isWhat X.1.2.1 hl X.2.2.1 l0 l1 (1 : Int32) M1 _ e4) ?_
  refine q_if_ne (tgt := 16) C dX9_last_11 (by decide) (fun c7 => ?_) (fun c7 => ?_)
  · have h := ifF c7 h
    refine q_iconst (v := (-1 : Int32)) C dX9_last_16 (by decide) ?_
    refine q_istore_n (i := 2) (lv' := [(2, .int (-1 : Int32)), (0, .ref l0), (1, .int l1)]) C dX9_last_17 rfl (by decide) rfl ?_
    refine q_iconst (v := (-1 : Int32)) C dX9_last_18 (by decide) ?_
    refine q_istore_n (i := 3) (lv' := [(3, .int (-1 : Int32)), (2, .int (-1 : Int32)), (0, .ref l0), (1, .int l1)]) C dX9_last_19 rfl (by decide) rfl ?_
    refine q_iconst (v := (0 : Int32)) C dX9_last_20 (by decide) ?_
    refine q_istore (i := 4) (lv' := [(4, .int (0 : Int32)), (3, .int (-1 : Int32)), (2, .int (-1 : Int32)), (0, .ref l0), (1, .int l1)]) C dX9_last_21 (by decide) rfl ?_
    obtain ⟨⟨x23, x24, M25⟩, e22, h⟩ := bindE h
    refine q_sub (lv' := [(0, .ref l0), (1, .int l1), (2, .int (-1 : Int32)), (3, .int (-1 : Int32)), (4, .int (0 : Int32))]) [3, 4, 2, 1, 0] rfl (w_X9_last_l23 C hRO hl l0 l1 (-1 : Int32) (-1 : Int32) (0 : Int32) M5 e22 (fun r21 he => ?_))
    subst he
    have h := u3E h
    show wq X 6 78 [(1, .int l1), (2, .int x23), (3, .int x24)] [] M25
    refine q_iload_n 0 C dX9_last_78 rfl ?_
    refine q_if_ne (tgt := 86) C dX9_last_79 (by decide) (fun c26 => ?_) (fun c26 => ?_)
    · have h := ifF c26 h
      refine q_iload_n 2 C dX9_last_86 rfl ?_
      refine q_ldcw (v := (99999 : Int32)) C cn_RX9_305 dX9_last_87 ?_
      refine q_icmp_ne (tgt := 97) C dX9_last_90 (by decide) (fun c27 => ?_) (fun c27 => ?_)
      · have h := ifF c27 h
        refine q_iload_n 2 C dX9_last_97 rfl ?_
        cases h
        exact q_iret C kf dX9_last_98
      · have h := ifT c27 h
        refine q_iconst (v := (-1 : Int32)) C dX9_last_93 (by decide) ?_
        refine q_goto (tgt := 98) C dX9_last_94 (by decide) ?_
        cases h
        exact q_iret C kf dX9_last_98
    · have h := ifT c26 h
      refine q_iload_n 1 C dX9_last_82 rfl ?_
      refine q_goto (tgt := 98) C dX9_last_83 (by decide) ?_
      cases h
      exact q_iret C kf dX9_last_98
  · have h := ifT c7 h
    refine q_iconst (v := (0 : Int32)) C dX9_last_14 (by decide) ?_
    cases h
    exact q_iret C kf dX9_last_15
theorem k_X9_last (l : Launch) (hl : l.stackTraces = false) (G : GG) (l0 : Nat) (l1 : Int32) (M : Mem) (x : Int32 × Mem) (h : F_X9_last l0 l1 M = some x) : Ct l G yX9_last (.code yX9_last cX9_last 6 (some .int)) 13 279 [.ref l0, .int l1] M (rs_mI x) (ms_mI x) := by
  refine Ct_of (by decide +kernel) (Nat.le_of_ble_eq_true rfl) fun X e1 e2 e3 C FN hnm => ?_
  subst e1; subst e2
  show wq X 6 0 [(0, .ref l0), (1, .int l1)] [] M
  exact w_X9_last C FN.2.2.2 hl l0 l1 M h FN
/-! X9_letIn -/
set_option maxRecDepth 100000 in
set_option maxHeartbeats 4000000 in
theorem w_X9_letIn {X : CX} {y : Int32 × Mem} (C : CK X cX9_letIn 2 RX9 9 182) (hRO : RO X.2.2.1 X.1.2.2.2.2.1 X.1.2.2.2.2.1.heap) (hl : X.1.2.1.stackTraces = false) (l0 : Nat) (M : Mem) (h : F_X9_letIn l0 M = some y) (kf : FIN X (some .int) (rs_mI y) (ms_mI y)) : wq X 2 0 [(0, .ref l0)] [] M := by
  unfold F_X9_letIn at h
  refine q_aload_n 0 C dX9_letIn_0 rfl ?_
  refine q_iconst (v := (0 : Int32)) C dX9_letIn_1 (by decide) ?_
  obtain ⟨M1, e2, h⟩ := bindE h
  refine q_putI C fp_RX9_111 rfl e2 dX9_letIn_2 ?_
  refine q_aload_n 0 C dX9_letIn_5 rfl ?_
  obtain ⟨v3, e4, h⟩ := bindE h
  refine q_getP C fl_RX9_66 rfl e4 dX9_letIn_6 ?_
  refine q_iconst (v := (2 : Int32)) C dX9_letIn_9 (by decide) ?_
  obtain ⟨v5, e6, h⟩ := bindE h
  refine q_iaload C e6 dX9_letIn_10 ?_
  refine q_iconst (v := (1 : Int32)) C dX9_letIn_11 (by decide) ?_
  refine q_icmp_ne (tgt := 21) C dX9_letIn_12 (by decide) (fun c7 => ?_) (fun c7 => ?_)
  · have h := ifF c7 h
    refine q_aload_n 0 C dX9_letIn_21 rfl ?_
    refine q_iconst (v := (0 : Int32)) C dX9_letIn_22 (by decide) ?_
    obtain ⟨e8, h⟩ := ckOE h
    obtain ⟨v10, e9, h⟩ := bindE h
    refine q_callV (v := some (.int v10)) [.int (0 : Int32)] C hRO lk_RX9_309 vk_X9_dampIn e8 rfl rfl rfl (Nat.le_of_ble_eq_true rfl) (by decide) (by decide) dX9_letIn_23 (k_X9_dampIn X.1.2.1 hl X.2.2.1 l0 (0 : Int32) M1 _ e9) ?_
    refine q_istore_n (i := 1) (lv' := [(1, .int v10), (0, .ref l0)]) C dX9_letIn_26 rfl (by decide) rfl ?_
    refine q_aload_n 1 C dX9_letIn_27 rfl ?_
    obtain ⟨e11, h⟩ := ckOE h
    obtain ⟨M13, e12, h⟩ := bindE h
    refine q_callV (v := none) [] C hRO lk_RX9_385 vk_X9_keeps e11 rfl rfl rfl (Nat.le_of_ble_eq_true rfl) (by decide) (by decide) dX9_letIn_28 (k_X9_keeps X.1.2.1 hl X.2.2.1 l0 M1 _ e12) ?_
    refine q_aload_n 1 C dX9_letIn_31 rfl ?_
    obtain ⟨v15, e16, h⟩ := bindE h
    refine q_getP C fl_RX9_66 rfl e16 dX9_letIn_32 ?_
    refine q_iconst (v := (2 : Int32)) C dX9_letIn_35 (by decide) ?_
    refine q_iconst (v := (1 : Int32)) C dX9_letIn_36 (by decide) ?_
    obtain ⟨M17, e18, h⟩ := bindE h
    refine q_iastore C e18 dX9_letIn_37 ?_
    refine q_iload_n 0 C dX9_letIn_38 rfl ?_
    cases h
    exact q_iret C kf dX9_letIn_39
  · have h := ifT c7 h
    refine q_aload_n 0 C dX9_letIn_15 rfl ?_
    refine q_iconst (v := (1 : Int32)) C dX9_letIn_16 (by decide) ?_
    obtain ⟨e19, h⟩ := ckOE h
    obtain ⟨v22, M21, e20, h⟩ := bd2E h
    refine q_callV (v := some (.int v22)) [.int (1 : Int32)] C hRO lk_RX9_382 vk_X9_refuses e19 rfl rfl rfl (Nat.le_of_ble_eq_true rfl) (by decide) (by decide) dX9_letIn_17 (k_X9_refuses X.1.2.1 hl X.2.2.1 l0 (1 : Int32) M1 _ e20) ?_
    cases h
    exact q_iret C kf dX9_letIn_20
theorem k_X9_letIn (l : Launch) (hl : l.stackTraces = false) (G : GG) (l0 : Nat) (M : Mem) (x : Int32 × Mem) (h : F_X9_letIn l0 M = some x) : Ct l G yX9_letIn (.code yX9_letIn cX9_letIn 2 (some .int)) 9 182 [.ref l0] M (rs_mI x) (ms_mI x) := by
  refine Ct_of (by decide +kernel) (Nat.le_of_ble_eq_true rfl) fun X e1 e2 e3 C FN hnm => ?_
  subst e1; subst e2
  show wq X 2 0 [(0, .ref l0)] [] M
  exact w_X9_letIn C FN.2.2.2 hl l0 M h FN
/-! X9_need -/
set_option maxRecDepth 100000 in
set_option maxHeartbeats 4000000 in
theorem w_X9_need {X : CX} {y : Mem} (C : CK X cX9_need 2 RX9 9 182) (hRO : RO X.2.2.1 X.1.2.2.2.2.1 X.1.2.2.2.2.1.heap) (hl : X.1.2.1.stackTraces = false) (l0 : Nat) (l1 : Int32) (M : Mem) (h : F_X9_need l0 l1 M = some y) (kf : FIN X none (rs_mV y) (ms_mV y)) : wq X 2 0 [(0, .ref l0), (1, .int l1)] [] M := by
  unfold F_X9_need at h
  refine q_aload_n 0 C dX9_need_0 rfl ?_
  obtain ⟨e1, h⟩ := ckOE h
  obtain ⟨v3, e2, h⟩ := bindE h
  refine q_callV (v := some (.int v3)) [] C hRO lk_RX9_170 vk_X9_isGood e1 rfl rfl rfl (Nat.le_of_ble_eq_true rfl) (by decide) (by decide) dX9_need_1 (k_X9_isGood X.1.2.1 hl X.2.2.1 l0 M _ e2) ?_
  refine q_if_ne (tgt := 8) C dX9_need_4 (by decide) (fun c4 => ?_) (fun c4 => ?_)
  · have h := ifF c4 h
    refine q_iload_n 1 C dX9_need_8 rfl ?_
    refine q_if_eq (tgt := 19) C dX9_need_9 (by decide) (fun c5 => ?_) (fun c5 => ?_)
    · have h := ifT c5 h
      refine q_aload_n 0 C dX9_need_19 rfl ?_
      refine q_iconst (v := (1 : Int32)) C dX9_need_20 (by decide) ?_
      obtain ⟨e6, h⟩ := ckOE h
      obtain ⟨M8, e7, h⟩ := bindE h
      refine q_callV (v := none) [.int (1 : Int32)] C hRO lk_RX9_177 vk_X9_wrong e6 rfl rfl rfl (Nat.le_of_ble_eq_true rfl) (by decide) (by decide) dX9_need_21 (k_X9_wrong X.1.2.1 hl X.2.2.1 l0 (1 : Int32) M _ e7) ?_
      cases h
      exact q_vret C kf dX9_need_24
    · have h := ifF c5 h
      refine q_aload_n 0 C dX9_need_12 rfl ?_
      obtain ⟨e10, h⟩ := ckOE h
      obtain ⟨M12, e11, h⟩ := bindE h
      refine q_callV (v := none) [] C hRO lk_RX9_174 vk_X9_takes e10 rfl rfl rfl (Nat.le_of_ble_eq_true rfl) (by decide) (by decide) dX9_need_13 (k_X9_takes X.1.2.1 hl X.2.2.1 l0 M _ e11) ?_
      refine q_goto (tgt := 24) C dX9_need_16 (by decide) ?_
      cases h
      exact q_vret C kf dX9_need_24
  · have h := ifT c4 h
    cases h
    exact q_vret C kf dX9_need_7
theorem k_X9_need (l : Launch) (hl : l.stackTraces = false) (G : GG) (l0 : Nat) (l1 : Int32) (M : Mem) (x : Mem) (h : F_X9_need l0 l1 M = some x) : Ct l G yX9_need (.code yX9_need cX9_need 2 none) 9 182 [.ref l0, .int l1] M (rs_mV x) (ms_mV x) := by
  refine Ct_of (by decide +kernel) (Nat.le_of_ble_eq_true rfl) fun X e1 e2 e3 C FN hnm => ?_
  subst e1; subst e2
  show wq X 2 0 [(0, .ref l0), (1, .int l1)] [] M
  exact w_X9_need C FN.2.2.2 hl l0 l1 M h FN
/-! X9_number -/
set_option maxRecDepth 100000 in
set_option maxHeartbeats 4000000 in
theorem w_X9_number_j54 {X : CX} {y : Int32 × Mem} (C : CK X cX9_number 4 RX9 9 182) (hRO : RO X.2.2.1 X.1.2.2.2.2.1 X.1.2.2.2.2.1.heap) (hl : X.1.2.1.stackTraces = false) (l0 : Nat) (M : Mem) (h : F_X9_number_j54 l0 M = some y) (kf : FIN X (some .int) (rs_mI y) (ms_mI y)) : wq X 4 54 [(0, .ref l0)] [] M := by
  unfold F_X9_number_j54 at h
  refine q_aload_n 0 C dX9_number_54 rfl ?_
  obtain ⟨v15, e16, h⟩ := bindE h
  refine q_getI C fl_RX9_138 rfl e16 dX9_number_55 ?_
  refine q_istore_n (i := 3) (lv' := [(3, .int v15), (0, .ref l0)]) C dX9_number_58 rfl (by decide) rfl ?_
  refine q_aload_n 1 C dX9_number_59 rfl ?_
  obtain ⟨e17, h⟩ := ckOE h
  obtain ⟨v19, e18, h⟩ := bindE h
  refine q_callV (v := some (.int v19)) [] C hRO lk_RX9_170 vk_X9_isGood e17 rfl rfl rfl (Nat.le_of_ble_eq_true rfl) (by decide) (by decide) dX9_number_60 (k_X9_isGood X.1.2.1 hl X.2.2.1 l0 M _ e18) ?_
  refine q_if_eq (tgt := 70) C dX9_number_63 (by decide) (fun c20 => ?_) (fun c20 => ?_)
  · have h := ifT c20 h
    refine q_iload_n 0 C dX9_number_70 rfl ?_
    cases h
    exact q_iret C kf dX9_number_71
  · have h := ifF c20 h
    refine q_aload_n 1 C dX9_number_66 rfl ?_
    obtain ⟨e21, h⟩ := ckOE h
    obtain ⟨M23, e22, h⟩ := bindE h
    refine q_callV (v := none) [] C hRO lk_RX9_174 vk_X9_takes e21 rfl rfl rfl (Nat.le_of_ble_eq_true rfl) (by decide) (by decide) dX9_number_67 (k_X9_takes X.1.2.1 hl X.2.2.1 l0 M _ e22) ?_
    refine q_iload_n 0 C dX9_number_70 rfl ?_
    cases h
    exact q_iret C kf dX9_number_71
set_option maxRecDepth 100000 in
set_option maxHeartbeats 4000000 in
theorem w_X9_number_j49 {X : CX} {y : Int32 × Mem} (C : CK X cX9_number 4 RX9 9 182) (hRO : RO X.2.2.1 X.1.2.2.2.2.1 X.1.2.2.2.2.1.heap) (hl : X.1.2.1.stackTraces = false) (l0 : Nat) (M : Mem) (h : F_X9_number_j49 l0 M = some y) (kf : FIN X (some .int) (rs_mI y) (ms_mI y)) : wq X 4 49 [(0, .ref l0)] [] M := by
  unfold F_X9_number_j49 at h
  refine q_aload_n 0 C dX9_number_49 rfl ?_
  refine q_iconst (v := (2 : Int32)) C dX9_number_50 (by decide) ?_
  obtain ⟨e11, h⟩ := ckOE h
  obtain ⟨M13, e12, h⟩ := bindE h
  refine q_callV (v := none) [.int (2 : Int32)] C hRO lk_RX9_177 vk_X9_wrong e11 rfl rfl rfl (Nat.le_of_ble_eq_true rfl) (by decide) (by decide) dX9_number_51 (k_X9_wrong X.1.2.1 hl X.2.2.1 l0 (2 : Int32) M _ e12) ?_
  exact q_sub (lv' := [(0, .ref l0)]) [0] rfl (w_X9_number_j54 C hRO hl l0 M13 h kf)
set_option maxRecDepth 100000 in
set_option maxHeartbeats 4000000 in
theorem w_X9_number {X : CX} {y : Int32 × Mem} (C : CK X cX9_number 4 RX9 9 182) (hRO : RO X.2.2.1 X.1.2.2.2.2.1 X.1.2.2.2.2.1.heap) (hl : X.1.2.1.stackTraces = false) (l0 : Nat) (l1 : Int32) (l2 : Int32) (M : Mem) (h : F_X9_number l0 l1 l2 M = some y) (kf : FIN X (some .int) (rs_mI y) (ms_mI y)) : wq X 4 0 [(0, .ref l0), (1, .int l1), (2, .int l2)] [] M := by
  unfold F_X9_number at h
  refine q_aload_n 0 C dX9_number_0 rfl ?_
  obtain ⟨e1, h⟩ := ckOE h
  obtain ⟨v3, e2, h⟩ := bindE h
  refine q_callV (v := some (.int v3)) [] C hRO lk_RX9_170 vk_X9_isGood e1 rfl rfl rfl (Nat.le_of_ble_eq_true rfl) (by decide) (by decide) dX9_number_1 (k_X9_isGood X.1.2.1 hl X.2.2.1 l0 M _ e2) ?_
  refine q_if_ne (tgt := 9) C dX9_number_4 (by decide) (fun c4 => ?_) (fun c4 => ?_)
  · have h := ifF c4 h
    refine q_aload_n 0 C dX9_number_9 rfl ?_
    obtain ⟨v5, e6, h⟩ := bindE h
    refine q_getI C fl_RX9_144 rfl e6 dX9_number_10 ?_
    refine q_iconst (v := (2 : Int32)) C dX9_number_13 (by decide) ?_
    refine q_icmp_eq (tgt := 25) C dX9_number_14 (by decide) (fun c7 => ?_) (fun c7 => ?_)
    · have h := ifT c7 h
      refine q_aload_n 0 C dX9_number_25 rfl ?_
      obtain ⟨v8, e9, h⟩ := bindE h
      refine q_getI C fl_RX9_154 rfl e9 dX9_number_26 ?_
      refine q_iconst (v := (4 : Int32)) C dX9_number_29 (by decide) ?_
      refine q_icmp_gt (tgt := 49) C dX9_number_30 (by decide) (fun c10 => ?_) (fun c10 => ?_)
      · have h := ifT c10 h
        exact q_sub (lv' := [(0, .ref l0)]) [0] rfl (w_X9_number_j49 C hRO hl l0 M h kf)
      · have h := ifF c10 h
        refine q_aload_n 0 C dX9_number_33 rfl ?_
        obtain ⟨v25, e26, h⟩ := bindE h
        refine q_getI C fl_RX9_138 rfl e26 dX9_number_34 ?_
        refine q_iload_n 1 C dX9_number_37 rfl ?_
        refine q_icmp_lt (tgt := 49) C dX9_number_38 (by decide) (fun c27 => ?_) (fun c27 => ?_)
        · have h := ifT c27 h
          exact q_sub (lv' := [(0, .ref l0)]) [0] rfl (w_X9_number_j49 C hRO hl l0 M h kf)
        · have h := ifF c27 h
          refine q_aload_n 0 C dX9_number_41 rfl ?_
          obtain ⟨v28, e29, h⟩ := bindE h
          refine q_getI C fl_RX9_138 rfl e29 dX9_number_42 ?_
          refine q_iload_n 2 C dX9_number_45 rfl ?_
          refine q_icmp_le (tgt := 54) C dX9_number_46 (by decide) (fun c30 => ?_) (fun c30 => ?_)
          · have h := ifT c30 h
            exact q_sub (lv' := [(0, .ref l0)]) [0] rfl (w_X9_number_j54 C hRO hl l0 M h kf)
          · have h := ifF c30 h
            exact q_sub (lv' := [(0, .ref l0)]) [0] rfl (w_X9_number_j49 C hRO hl l0 M h kf)
    · have h := ifF c7 h
      refine q_aload_n 0 C dX9_number_17 rfl ?_
      refine q_iconst (v := (1 : Int32)) C dX9_number_18 (by decide) ?_
      obtain ⟨e31, h⟩ := ckOE h
      obtain ⟨M33, e32, h⟩ := bindE h
      refine q_callV (v := none) [.int (1 : Int32)] C hRO lk_RX9_177 vk_X9_wrong e31 rfl rfl rfl (Nat.le_of_ble_eq_true rfl) (by decide) (by decide) dX9_number_19 (k_X9_wrong X.1.2.1 hl X.2.2.1 l0 (1 : Int32) M _ e32) ?_
      refine q_goto (tgt := 54) C dX9_number_22 (by decide) ?_
      exact q_sub (lv' := [(0, .ref l0)]) [0] rfl (w_X9_number_j54 C hRO hl l0 M33 h kf)
  · have h := ifT c4 h
    refine q_iconst (v := (0 : Int32)) C dX9_number_7 (by decide) ?_
    cases h
    exact q_iret C kf dX9_number_8
theorem k_X9_number (l : Launch) (hl : l.stackTraces = false) (G : GG) (l0 : Nat) (l1 : Int32) (l2 : Int32) (M : Mem) (x : Int32 × Mem) (h : F_X9_number l0 l1 l2 M = some x) : Ct l G yX9_number (.code yX9_number cX9_number 4 (some .int)) 9 182 [.ref l0, .int l1, .int l2] M (rs_mI x) (ms_mI x) := by
  refine Ct_of (by decide +kernel) (Nat.le_of_ble_eq_true rfl) fun X e1 e2 e3 C FN hnm => ?_
  subst e1; subst e2
  show wq X 4 0 [(0, .ref l0), (1, .int l1), (2, .int l2)] [] M
  exact w_X9_number C FN.2.2.2 hl l0 l1 l2 M h FN
/-! X9_readsDamp -/
set_option maxRecDepth 100000 in
set_option maxHeartbeats 4000000 in
theorem w_X9_readsDamp_j35_2 {X : CX} {y : (Int32 × Mem) ⊕ ((Mem) ⊕ (Mem))} (C : CK X cX9_readsDamp 3 RX9 10 205) (hRO : RO X.2.2.1 X.1.2.2.2.2.1 X.1.2.2.2.2.1.heap) (hl : X.1.2.1.stackTraces = false) (l0 : Nat) (M : Mem) (h : F_X9_readsDamp_j35_2 l0 M = some y) (kc : ∀ s' : Int32 × Mem, y = .inl s' → wq X 3 2 [(0, .ref l0), (1, .int (s'.1))] [] s'.2) (kx : ∀ e' : Mem, y = (.inr (.inl e')) → wq X 3 88 [] [] e') (kf : ∀ f' : Mem, y = (.inr (.inr f')) → FIN X none (rs_mV f') (ms_mV f')) : wq X 3 35 [(0, .ref l0)] [] M := by
  unfold F_X9_readsDamp_j35_2 at h
  refine q_aload_n 0 C dX9_readsDamp_35 rfl ?_
  refine q_iconst (v := (0 : Int32)) C dX9_readsDamp_36 (by decide) ?_
  refine q_bipush (v := (9 : Int32)) C dX9_readsDamp_37 (by decide) ?_
  obtain ⟨e9, h⟩ := ckOE h
  obtain ⟨v12, M11, e10, h⟩ := bd2E h
  refine q_callV (v := some (.int v12)) [.int (0 : Int32), .int (9 : Int32)] C hRO lk_RX9_233 vk_X9_number e9 rfl rfl rfl (Nat.le_of_ble_eq_true rfl) (by decide) (by decide) dX9_readsDamp_39 (k_X9_number X.1.2.1 hl X.2.2.1 l0 (0 : Int32) (9 : Int32) M _ e10) ?_
  refine q_istore_n (i := 2) (lv' := [(2, .int v12), (0, .ref l0)]) C dX9_readsDamp_42 rfl (by decide) rfl ?_
  refine q_aload_n 1 C dX9_readsDamp_43 rfl ?_
  obtain ⟨e13, h⟩ := ckOE h
  obtain ⟨v15, e14, h⟩ := bindE h
  refine q_callV (v := some (.int v15)) [] C hRO lk_RX9_170 vk_X9_isGood e13 rfl rfl rfl (Nat.le_of_ble_eq_true rfl) (by decide) (by decide) dX9_readsDamp_44 (k_X9_isGood X.1.2.1 hl X.2.2.1 l0 M11 _ e14) ?_
  refine q_if_ne (tgt := 51) C dX9_readsDamp_47 (by decide) (fun c16 => ?_) (fun c16 => ?_)
  · have h := ifF c16 h
    refine q_aload_n 1 C dX9_readsDamp_51 rfl ?_
    obtain ⟨v17, e18, h⟩ := bindE h
    refine q_getP C fl_RX9_50 rfl e18 dX9_readsDamp_52 ?_
    refine q_aload_n 1 C dX9_readsDamp_55 rfl ?_
    obtain ⟨v19, e20, h⟩ := bindE h
    refine q_getI C fl_RX9_240 rfl e20 dX9_readsDamp_56 ?_
    refine q_iload_n 0 C dX9_readsDamp_59 rfl ?_
    obtain ⟨M21, e22, h⟩ := bindE h
    refine q_iastore C e22 dX9_readsDamp_60 ?_
    refine q_aload_n 1 C dX9_readsDamp_61 rfl ?_
    refine q_dup C dX9_readsDamp_62 rfl ?_
    obtain ⟨v23, e24, h⟩ := bindE h
    refine q_getI C fl_RX9_240 rfl e24 dX9_readsDamp_63 ?_
    refine q_iconst (v := (1 : Int32)) C dX9_readsDamp_66 (by decide) ?_
    refine q_iadd C dX9_readsDamp_67 ?_
    obtain ⟨M25, e26, h⟩ := bindE h
    refine q_putI C fp_RX9_240 rfl e26 dX9_readsDamp_68 ?_
    refine q_aload_n 1 C dX9_readsDamp_71 rfl ?_
    obtain ⟨v27, e28, h⟩ := bindE h
    refine q_getI C fl_RX9_144 rfl e28 dX9_readsDamp_72 ?_
    refine q_iconst (v := (2 : Int32)) C dX9_readsDamp_75 (by decide) ?_
    refine q_icmp_ne (tgt := 83) C dX9_readsDamp_76 (by decide) (fun c29 => ?_) (fun c29 => ?_)
    · have h := ifF c29 h
      refine q_iconst (v := (0 : Int32)) C dX9_readsDamp_83 (by decide) ?_
      refine q_istore_n (i := 1) (lv' := [(1, .int (0 : Int32)), (2, .int v12), (0, .ref l0)]) C dX9_readsDamp_84 rfl (by decide) rfl ?_
      refine q_goto (tgt := 2) C dX9_readsDamp_85 (by decide) ?_
      exact q_sub (lv' := [(0, .ref l0), (1, .int (0 : Int32))]) [2, 0] rfl (kc ((0 : Int32), M25) (someI h))
    · have h := ifT c29 h
      refine q_iconst (v := (1 : Int32)) C dX9_readsDamp_79 (by decide) ?_
      refine q_goto (tgt := 84) C dX9_readsDamp_80 (by decide) ?_
      refine q_istore_n (i := 1) (lv' := [(1, .int (1 : Int32)), (2, .int v12), (0, .ref l0)]) C dX9_readsDamp_84 rfl (by decide) rfl ?_
      refine q_goto (tgt := 2) C dX9_readsDamp_85 (by decide) ?_
      exact q_sub (lv' := [(0, .ref l0), (1, .int (1 : Int32))]) [2, 0] rfl (kc ((1 : Int32), M25) (someI h))
  · have h := ifT c16 h
    exact q_vret C (kf _ (someI h)) dX9_readsDamp_50
set_option maxRecDepth 100000 in
set_option maxHeartbeats 4000000 in
theorem w_X9_readsDamp_s2 {X : CX} {y : (Int32 × Mem) ⊕ ((Mem) ⊕ (Mem))} (C : CK X cX9_readsDamp 3 RX9 10 205) (hRO : RO X.2.2.1 X.1.2.2.2.2.1 X.1.2.2.2.2.1.heap) (hl : X.1.2.1.stackTraces = false) (l0 : Nat) (l1 : Int32) (M : Mem) (h : F_X9_readsDamp_s2 l0 l1 M = some y) (kc : ∀ s' : Int32 × Mem, y = .inl s' → wq X 3 2 [(0, .ref l0), (1, .int (s'.1))] [] s'.2) (kx : ∀ e' : Mem, y = (.inr (.inl e')) → wq X 3 88 [] [] e') (kf : ∀ f' : Mem, y = (.inr (.inr f')) → FIN X none (rs_mV f') (ms_mV f')) : wq X 3 2 [(0, .ref l0), (1, .int l1)] [] M := by
  unfold F_X9_readsDamp_s2 at h
  refine q_iload_n 1 C dX9_readsDamp_2 rfl ?_
  refine q_if_eq (tgt := 88) C dX9_readsDamp_3 (by decide) (fun c1 => ?_) (fun c1 => ?_)
  · have h := ifT c1 h
    exact q_sub (lv' := []) [] rfl (kx M (someI h))
  · have h := ifF c1 h
    refine q_aload_n 0 C dX9_readsDamp_6 rfl ?_
    obtain ⟨e2, h⟩ := ckOE h
    obtain ⟨v4, e3, h⟩ := bindE h
    refine q_callV (v := some (.int v4)) [] C hRO lk_RX9_170 vk_X9_isGood e2 rfl rfl rfl (Nat.le_of_ble_eq_true rfl) (by decide) (by decide) dX9_readsDamp_7 (k_X9_isGood X.1.2.1 hl X.2.2.1 l0 M _ e3) ?_
    refine q_if_eq (tgt := 88) C dX9_readsDamp_10 (by decide) (fun c5 => ?_) (fun c5 => ?_)
    · have h := ifT c5 h
      exact q_sub (lv' := []) [] rfl (kx M (someI h))
    · have h := ifF c5 h
      refine q_aload_n 0 C dX9_readsDamp_13 rfl ?_
      obtain ⟨v6, e7, h⟩ := bindE h
      refine q_getI C fl_RX9_240 rfl e7 dX9_readsDamp_14 ?_
      refine q_bipush (v := (8 : Int32)) C dX9_readsDamp_17 (by decide) ?_
      refine q_icmp_ne (tgt := 35) C dX9_readsDamp_19 (by decide) (fun c8 => ?_) (fun c8 => ?_)
      · have h := ifF c8 h
        exact q_sub (lv' := [(0, .ref l0)]) [0] rfl (w_X9_readsDamp_j35_2 C hRO hl l0 M h kc kx kf)
      · have h := ifT c8 h
        refine q_aload_n 0 C dX9_readsDamp_22 rfl ?_
        obtain ⟨v30, e31, h⟩ := bindE h
        refine q_getI C fl_RX9_144 rfl e31 dX9_readsDamp_23 ?_
        refine q_iconst (v := (2 : Int32)) C dX9_readsDamp_26 (by decide) ?_
        refine q_icmp_ne (tgt := 35) C dX9_readsDamp_27 (by decide) (fun c32 => ?_) (fun c32 => ?_)
        · have h := ifF c32 h
          exact q_sub (lv' := [(0, .ref l0)]) [0] rfl (w_X9_readsDamp_j35_2 C hRO hl l0 M h kc kx kf)
        · have h := ifT c32 h
          refine q_aload_n 0 C dX9_readsDamp_30 rfl ?_
          refine q_iconst (v := (2 : Int32)) C dX9_readsDamp_31 (by decide) ?_
          obtain ⟨e33, h⟩ := ckOE h
          obtain ⟨M35, e34, h⟩ := bindE h
          refine q_callV (v := none) [.int (2 : Int32)] C hRO lk_RX9_177 vk_X9_wrong e33 rfl rfl rfl (Nat.le_of_ble_eq_true rfl) (by decide) (by decide) dX9_readsDamp_32 (k_X9_wrong X.1.2.1 hl X.2.2.1 l0 (2 : Int32) M _ e34) ?_
          exact q_sub (lv' := [(0, .ref l0)]) [0] rfl (w_X9_readsDamp_j35_2 C hRO hl l0 M35 h kc kx kf)
theorem w_X9_readsDamp_l2 {X : CX} {r : (Mem) ⊕ (Mem)} (C : CK X cX9_readsDamp 3 RX9 10 205) (hRO : RO X.2.2.1 X.1.2.2.2.2.1 X.1.2.2.2.2.1.heap) (hl : X.1.2.1.stackTraces = false) (l0 : Nat) (l1 : Int32) (M : Mem) (h : loop (fun s => F_X9_readsDamp_s2 l0 s.1 s.2) (l1, M) = some r) (kx : ∀ e' : Mem, r = .inl e' → wq X 3 88 [] [] e') (kf : ∀ f' : Mem, r = .inr f' → FIN X none (rs_mV f') (ms_mV f')) : wq X 3 2 [(0, .ref l0), (1, .int l1)] [] M :=
  loop_ind (P := fun s => wq X 3 2 [(0, .ref l0), (1, .int s.1)] [] s.2) h (fun s y hy kc kr => w_X9_readsDamp_s2 C hRO hl l0 s.1 s.2 hy kc (fun e' he => kx e' (kr _ he).symm) (fun f' he => kf f' (kr _ he).symm))
set_option maxRecDepth 100000 in
set_option maxHeartbeats 4000000 in
theorem w_X9_readsDamp {X : CX} {y : Mem} (C : CK X cX9_readsDamp 3 RX9 10 205) (hRO : RO X.2.2.1 X.1.2.2.2.2.1 X.1.2.2.2.2.1.heap) (hl : X.1.2.1.stackTraces = false) (l0 : Nat) (M : Mem) (h : F_X9_readsDamp l0 M = some y) (kf : FIN X none (rs_mV y) (ms_mV y)) : wq X 3 0 [(0, .ref l0)] [] M := by
  unfold F_X9_readsDamp at h
  refine q_iconst (v := (1 : Int32)) C dX9_readsDamp_0 (by decide) ?_
  refine q_istore_n (i := 1) (lv' := [(1, .int (1 : Int32)), (0, .ref l0)]) C dX9_readsDamp_1 rfl (by decide) rfl ?_
  obtain ⟨r37, e38, h⟩ := bindE h
  refine q_sub (lv' := [(0, .ref l0), (1, .int (1 : Int32))]) [1, 0] rfl (w_X9_readsDamp_l2 C hRO hl l0 (1 : Int32) M e38 (fun M39 he => ?_) (fun f41 he => ?_))
  · subst he
    have h := elimL h
    show wq X 3 88 [] [] M39
    cases h
    exact q_vret C kf dX9_readsDamp_88
  · subst he
    have h := elimR h
    cases h
    exact kf
theorem k_X9_readsDamp (l : Launch) (hl : l.stackTraces = false) (G : GG) (l0 : Nat) (M : Mem) (x : Mem) (h : F_X9_readsDamp l0 M = some x) : Ct l G yX9_readsDamp (.code yX9_readsDamp cX9_readsDamp 3 none) 10 205 [.ref l0] M (rs_mV x) (ms_mV x) := by
  refine Ct_of (by decide +kernel) (Nat.le_of_ble_eq_true rfl) fun X e1 e2 e3 C FN hnm => ?_
  subst e1; subst e2
  show wq X 3 0 [(0, .ref l0)] [] M
  exact w_X9_readsDamp C FN.2.2.2 hl l0 M h FN
/-! X9_readsHouse -/
set_option maxRecDepth 100000 in
set_option maxHeartbeats 4000000 in
theorem w_X9_readsHouse {X : CX} {y : Mem} (C : CK X cX9_readsHouse 2 RX9 10 205) (hRO : RO X.2.2.1 X.1.2.2.2.2.1 X.1.2.2.2.2.1.heap) (hl : X.1.2.1.stackTraces = false) (l0 : Nat) (M : Mem) (h : F_X9_readsHouse l0 M = some y) (kf : FIN X none (rs_mV y) (ms_mV y)) : wq X 2 0 [(0, .ref l0)] [] M := by
  unfold F_X9_readsHouse at h
  refine q_aload_n 0 C dX9_readsHouse_0 rfl ?_
  obtain ⟨v1, e2, h⟩ := bindE h
  refine q_getI C fl_RX9_230 rfl e2 dX9_readsHouse_1 ?_
  refine q_istore_n (i := 1) (lv' := [(1, .int v1), (0, .ref l0)]) C dX9_readsHouse_4 rfl (by decide) rfl ?_
  refine q_aload_n 1 C dX9_readsHouse_5 rfl ?_
  obtain ⟨v3, e4, h⟩ := bindE h
  refine q_getP C fl_RX9_53 rfl e4 dX9_readsHouse_6 ?_
  refine q_iconst (v := (3 : Int32)) C dX9_readsHouse_9 (by decide) ?_
  refine q_iload_n 0 C dX9_readsHouse_10 rfl ?_
  refine q_iadd C dX9_readsHouse_11 ?_
  refine q_aload_n 1 C dX9_readsHouse_12 rfl ?_
  refine q_iconst (v := (1 : Int32)) C dX9_readsHouse_13 (by decide) ?_
  refine q_bipush (v := (60 : Int32)) C dX9_readsHouse_14 (by decide) ?_
  obtain ⟨e5, h⟩ := ckOE h
  obtain ⟨v8, M7, e6, h⟩ := bd2E h
  refine q_callV (v := some (.int v8)) [.int (1 : Int32), .int (60 : Int32)] C hRO lk_RX9_233 vk_X9_number e5 rfl rfl rfl (Nat.le_of_ble_eq_true rfl) (by decide) (by decide) dX9_readsHouse_16 (k_X9_number X.1.2.1 hl X.2.2.1 l0 (1 : Int32) (60 : Int32) M _ e6) ?_
  obtain ⟨M9, e10, h⟩ := bindE h
  refine q_iastore C e10 dX9_readsHouse_19 ?_
  refine q_aload_n 1 C dX9_readsHouse_20 rfl ?_
  obtain ⟨v11, e12, h⟩ := bindE h
  refine q_getP C fl_RX9_41 rfl e12 dX9_readsHouse_21 ?_
  refine q_iload_n 0 C dX9_readsHouse_24 rfl ?_
  refine q_aload_n 1 C dX9_readsHouse_25 rfl ?_
  refine q_iconst (v := (0 : Int32)) C dX9_readsHouse_26 (by decide) ?_
  refine q_bipush (v := (9 : Int32)) C dX9_readsHouse_27 (by decide) ?_
  obtain ⟨e13, h⟩ := ckOE h
  obtain ⟨v16, M15, e14, h⟩ := bd2E h
  refine q_callV (v := some (.int v16)) [.int (0 : Int32), .int (9 : Int32)] C hRO lk_RX9_233 vk_X9_number e13 rfl rfl rfl (Nat.le_of_ble_eq_true rfl) (by decide) (by decide) dX9_readsHouse_29 (k_X9_number X.1.2.1 hl X.2.2.1 l0 (0 : Int32) (9 : Int32) M9 _ e14) ?_
  obtain ⟨M17, e18, h⟩ := bindE h
  refine q_iastore C e18 dX9_readsHouse_32 ?_
  refine q_aload_n 1 C dX9_readsHouse_33 rfl ?_
  obtain ⟨v19, e20, h⟩ := bindE h
  refine q_getP C fl_RX9_44 rfl e20 dX9_readsHouse_34 ?_
  refine q_iload_n 0 C dX9_readsHouse_37 rfl ?_
  refine q_aload_n 1 C dX9_readsHouse_38 rfl ?_
  refine q_iconst (v := (0 : Int32)) C dX9_readsHouse_39 (by decide) ?_
  refine q_bipush (v := (30 : Int32)) C dX9_readsHouse_40 (by decide) ?_
  obtain ⟨e21, h⟩ := ckOE h
  obtain ⟨v24, M23, e22, h⟩ := bd2E h
  refine q_callV (v := some (.int v24)) [.int (0 : Int32), .int (30 : Int32)] C hRO lk_RX9_233 vk_X9_number e21 rfl rfl rfl (Nat.le_of_ble_eq_true rfl) (by decide) (by decide) dX9_readsHouse_42 (k_X9_number X.1.2.1 hl X.2.2.1 l0 (0 : Int32) (30 : Int32) M17 _ e22) ?_
  obtain ⟨M25, e26, h⟩ := bindE h
  refine q_iastore C e26 dX9_readsHouse_45 ?_
  refine q_aload_n 1 C dX9_readsHouse_46 rfl ?_
  obtain ⟨v27, e28, h⟩ := bindE h
  refine q_getP C fl_RX9_53 rfl e28 dX9_readsHouse_47 ?_
  refine q_bipush (v := (11 : Int32)) C dX9_readsHouse_50 (by decide) ?_
  refine q_iload_n 0 C dX9_readsHouse_52 rfl ?_
  refine q_iadd C dX9_readsHouse_53 ?_
  refine q_iconst (v := (0 : Int32)) C dX9_readsHouse_54 (by decide) ?_
  obtain ⟨M29, e30, h⟩ := bindE h
  refine q_iastore C e30 dX9_readsHouse_55 ?_
  refine q_aload_n 1 C dX9_readsHouse_56 rfl ?_
  obtain ⟨v31, e32, h⟩ := bindE h
  refine q_getP C fl_RX9_53 rfl e32 dX9_readsHouse_57 ?_
  refine q_bipush (v := (19 : Int32)) C dX9_readsHouse_60 (by decide) ?_
  refine q_iload_n 0 C dX9_readsHouse_62 rfl ?_
  refine q_iadd C dX9_readsHouse_63 ?_
  refine q_iconst (v := (-1 : Int32)) C dX9_readsHouse_64 (by decide) ?_
  obtain ⟨M33, e34, h⟩ := bindE h
  refine q_iastore C e34 dX9_readsHouse_65 ?_
  refine q_aload_n 1 C dX9_readsHouse_66 rfl ?_
  obtain ⟨e35, h⟩ := ckOE h
  obtain ⟨v37, e36, h⟩ := bindE h
  refine q_callV (v := some (.int v37)) [] C hRO lk_RX9_170 vk_X9_isGood e35 rfl rfl rfl (Nat.le_of_ble_eq_true rfl) (by decide) (by decide) dX9_readsHouse_67 (k_X9_isGood X.1.2.1 hl X.2.2.1 l0 M33 _ e36) ?_
  refine q_if_eq (tgt := 83) C dX9_readsHouse_70 (by decide) (fun c38 => ?_) (fun c38 => ?_)
  · have h := ifT c38 h
    cases h
    exact q_vret C kf dX9_readsHouse_83
  · have h := ifF c38 h
    refine q_aload_n 1 C dX9_readsHouse_73 rfl ?_
    refine q_dup C dX9_readsHouse_74 rfl ?_
    obtain ⟨v39, e40, h⟩ := bindE h
    refine q_getI C fl_RX9_230 rfl e40 dX9_readsHouse_75 ?_
    refine q_iconst (v := (1 : Int32)) C dX9_readsHouse_78 (by decide) ?_
    refine q_iadd C dX9_readsHouse_79 ?_
    obtain ⟨M41, e42, h⟩ := bindE h
    refine q_putI C fp_RX9_230 rfl e42 dX9_readsHouse_80 ?_
    cases h
    exact q_vret C kf dX9_readsHouse_83
theorem k_X9_readsHouse (l : Launch) (hl : l.stackTraces = false) (G : GG) (l0 : Nat) (M : Mem) (x : Mem) (h : F_X9_readsHouse l0 M = some x) : Ct l G yX9_readsHouse (.code yX9_readsHouse cX9_readsHouse 2 none) 10 205 [.ref l0] M (rs_mV x) (ms_mV x) := by
  refine Ct_of (by decide +kernel) (Nat.le_of_ble_eq_true rfl) fun X e1 e2 e3 C FN hnm => ?_
  subst e1; subst e2
  show wq X 2 0 [(0, .ref l0)] [] M
  exact w_X9_readsHouse C FN.2.2.2 hl l0 M h FN
/-! X9_readsPerson -/
set_option maxRecDepth 100000 in
set_option maxHeartbeats 4000000 in
theorem w_X9_readsPerson_j161 {X : CX} {y : Mem} (C : CK X cX9_readsPerson 2 RX9 10 208) (hRO : RO X.2.2.1 X.1.2.2.2.2.1 X.1.2.2.2.2.1.heap) (hl : X.1.2.1.stackTraces = false) (l0 : Nat) (M : Mem) (h : F_X9_readsPerson_j161 l0 M = some y) (kf : FIN X none (rs_mV y) (ms_mV y)) : wq X 2 161 [(0, .ref l0)] [] M := by
  unfold F_X9_readsPerson_j161 at h
  refine q_aload_n 0 C dX9_readsPerson_161 rfl ?_
  obtain ⟨e27, h⟩ := ckOE h
  obtain ⟨v29, e28, h⟩ := bindE h
  refine q_callV (v := some (.int v29)) [] C hRO lk_RX9_170 vk_X9_isGood e27 rfl rfl rfl (Nat.le_of_ble_eq_true rfl) (by decide) (by decide) dX9_readsPerson_162 (k_X9_isGood X.1.2.1 hl X.2.2.1 l0 M _ e28) ?_
  refine q_if_eq (tgt := 178) C dX9_readsPerson_165 (by decide) (fun c30 => ?_) (fun c30 => ?_)
  · have h := ifT c30 h
    cases h
    exact q_vret C kf dX9_readsPerson_178
  · have h := ifF c30 h
    refine q_aload_n 0 C dX9_readsPerson_168 rfl ?_
    refine q_dup C dX9_readsPerson_169 rfl ?_
    obtain ⟨v31, e32, h⟩ := bindE h
    refine q_getI C fl_RX9_237 rfl e32 dX9_readsPerson_170 ?_
    refine q_iconst (v := (1 : Int32)) C dX9_readsPerson_173 (by decide) ?_
    refine q_iadd C dX9_readsPerson_174 ?_
    obtain ⟨M33, e34, h⟩ := bindE h
    refine q_putI C fp_RX9_237 rfl e34 dX9_readsPerson_175 ?_
    cases h
    exact q_vret C kf dX9_readsPerson_178
set_option maxRecDepth 100000 in
set_option maxHeartbeats 4000000 in
theorem w_X9_readsPerson_j136 {X : CX} {y : Mem} (C : CK X cX9_readsPerson 2 RX9 10 208) (hRO : RO X.2.2.1 X.1.2.2.2.2.1 X.1.2.2.2.2.1.heap) (hl : X.1.2.1.stackTraces = false) (l0 : Nat) (l1 : Int32) (M : Mem) (h : F_X9_readsPerson_j136 l0 l1 M = some y) (kf : FIN X none (rs_mV y) (ms_mV y)) : wq X 2 136 [(0, .ref l0), (1, .int l1)] [] M := by
  unfold F_X9_readsPerson_j136 at h
  refine q_aload_n 0 C dX9_readsPerson_136 rfl ?_
  obtain ⟨e61, h⟩ := ckOE h
  obtain ⟨v63, e62, h⟩ := bindE h
  refine q_callV (v := some (.int v63)) [] C hRO lk_RX9_170 vk_X9_isGood e61 rfl rfl rfl (Nat.le_of_ble_eq_true rfl) (by decide) (by decide) dX9_readsPerson_137 (k_X9_isGood X.1.2.1 hl X.2.2.1 l0 M _ e62) ?_
  refine q_if_ne (tgt := 144) C dX9_readsPerson_140 (by decide) (fun c64 => ?_) (fun c64 => ?_)
  · have h := ifF c64 h
    refine q_aload_n 0 C dX9_readsPerson_144 rfl ?_
    obtain ⟨v65, e66, h⟩ := bindE h
    refine q_getP C fl_RX9_53 rfl e66 dX9_readsPerson_145 ?_
    refine q_bipush (v := (19 : Int32)) C dX9_readsPerson_148 (by decide) ?_
    refine q_aload_n 0 C dX9_readsPerson_150 rfl ?_
    obtain ⟨v67, e68, h⟩ := bindE h
    refine q_getI C fl_RX9_138 rfl e68 dX9_readsPerson_151 ?_
    refine q_iadd C dX9_readsPerson_154 ?_
    refine q_iload_n 1 C dX9_readsPerson_155 rfl ?_
    obtain ⟨M69, e70, h⟩ := bindE h
    refine q_iastore C e70 dX9_readsPerson_156 ?_
    refine q_aload_n 0 C dX9_readsPerson_157 rfl ?_
    obtain ⟨e71, h⟩ := ckOE h
    obtain ⟨M73, e72, h⟩ := bindE h
    refine q_callV (v := none) [] C hRO lk_RX9_174 vk_X9_takes e71 rfl rfl rfl (Nat.le_of_ble_eq_true rfl) (by decide) (by decide) dX9_readsPerson_158 (k_X9_takes X.1.2.1 hl X.2.2.1 l0 M69 _ e72) ?_
    exact q_sub (lv' := [(0, .ref l0)]) [0] rfl (w_X9_readsPerson_j161 C hRO hl l0 M73 h kf)
  · have h := ifT c64 h
    cases h
    exact q_vret C kf dX9_readsPerson_143
set_option maxRecDepth 100000 in
set_option maxHeartbeats 4000000 in
theorem w_X9_readsPerson {X : CX} {y : Mem} (C : CK X cX9_readsPerson 2 RX9 10 208) (hRO : RO X.2.2.1 X.1.2.2.2.2.1 X.1.2.2.2.2.1.heap) (hl : X.1.2.1.stackTraces = false) (l0 : Nat) (M : Mem) (h : F_X9_readsPerson l0 M = some y) (kf : FIN X none (rs_mV y) (ms_mV y)) : wq X 2 0 [(0, .ref l0)] [] M := by
  unfold F_X9_readsPerson at h
  refine q_aload_n 0 C dX9_readsPerson_0 rfl ?_
  obtain ⟨v1, e2, h⟩ := bindE h
  refine q_getI C fl_RX9_237 rfl e2 dX9_readsPerson_1 ?_
  refine q_istore_n (i := 1) (lv' := [(1, .int v1), (0, .ref l0)]) C dX9_readsPerson_4 rfl (by decide) rfl ?_
  refine q_aload_n 1 C dX9_readsPerson_5 rfl ?_
  obtain ⟨v3, e4, h⟩ := bindE h
  refine q_getP C fl_RX9_53 rfl e4 dX9_readsPerson_6 ?_
  refine q_bipush (v := (27 : Int32)) C dX9_readsPerson_9 (by decide) ?_
  refine q_iload_n 0 C dX9_readsPerson_11 rfl ?_
  refine q_iadd C dX9_readsPerson_12 ?_
  refine q_aload_n 1 C dX9_readsPerson_13 rfl ?_
  refine q_iconst (v := (1 : Int32)) C dX9_readsPerson_14 (by decide) ?_
  refine q_bipush (v := (60 : Int32)) C dX9_readsPerson_15 (by decide) ?_
  obtain ⟨e5, h⟩ := ckOE h
  obtain ⟨v8, M7, e6, h⟩ := bd2E h
  refine q_callV (v := some (.int v8)) [.int (1 : Int32), .int (60 : Int32)] C hRO lk_RX9_233 vk_X9_number e5 rfl rfl rfl (Nat.le_of_ble_eq_true rfl) (by decide) (by decide) dX9_readsPerson_17 (k_X9_number X.1.2.1 hl X.2.2.1 l0 (1 : Int32) (60 : Int32) M _ e6) ?_
  obtain ⟨M9, e10, h⟩ := bindE h
  refine q_iastore C e10 dX9_readsPerson_20 ?_
  refine q_aload_n 1 C dX9_readsPerson_21 rfl ?_
  obtain ⟨v11, e12, h⟩ := bindE h
  refine q_getP C fl_RX9_47 rfl e12 dX9_readsPerson_22 ?_
  refine q_iload_n 0 C dX9_readsPerson_25 rfl ?_
  refine q_aload_n 1 C dX9_readsPerson_26 rfl ?_
  refine q_iconst (v := (0 : Int32)) C dX9_readsPerson_27 (by decide) ?_
  refine q_bipush (v := (9 : Int32)) C dX9_readsPerson_28 (by decide) ?_
  obtain ⟨e13, h⟩ := ckOE h
  obtain ⟨v16, M15, e14, h⟩ := bd2E h
  refine q_callV (v := some (.int v16)) [.int (0 : Int32), .int (9 : Int32)] C hRO lk_RX9_233 vk_X9_number e13 rfl rfl rfl (Nat.le_of_ble_eq_true rfl) (by decide) (by decide) dX9_readsPerson_30 (k_X9_number X.1.2.1 hl X.2.2.1 l0 (0 : Int32) (9 : Int32) M9 _ e14) ?_
  obtain ⟨M17, e18, h⟩ := bindE h
  refine q_iastore C e18 dX9_readsPerson_33 ?_
  refine q_aload_n 1 C dX9_readsPerson_34 rfl ?_
  obtain ⟨v19, e20, h⟩ := bindE h
  refine q_getP C fl_RX9_53 rfl e20 dX9_readsPerson_35 ?_
  refine q_bipush (v := (35 : Int32)) C dX9_readsPerson_38 (by decide) ?_
  refine q_iload_n 0 C dX9_readsPerson_40 rfl ?_
  refine q_iadd C dX9_readsPerson_41 ?_
  refine q_iconst (v := (0 : Int32)) C dX9_readsPerson_42 (by decide) ?_
  obtain ⟨M21, e22, h⟩ := bindE h
  refine q_iastore C e22 dX9_readsPerson_43 ?_
  refine q_aload_n 1 C dX9_readsPerson_44 rfl ?_
  obtain ⟨e23, h⟩ := ckOE h
  obtain ⟨v25, e24, h⟩ := bindE h
  refine q_callV (v := some (.int v25)) [] C hRO lk_RX9_170 vk_X9_isGood e23 rfl rfl rfl (Nat.le_of_ble_eq_true rfl) (by decide) (by decide) dX9_readsPerson_45 (k_X9_isGood X.1.2.1 hl X.2.2.1 l0 M21 _ e24) ?_
  refine q_if_eq (tgt := 161) C dX9_readsPerson_48 (by decide) (fun c26 => ?_) (fun c26 => ?_)
  · have h := ifT c26 h
    exact q_sub (lv' := [(0, .ref l0)]) [1] rfl (w_X9_readsPerson_j161 C hRO hl l0 M21 h kf)
  · have h := ifF c26 h
    refine q_aload_n 1 C dX9_readsPerson_51 rfl ?_
    obtain ⟨e35, h⟩ := ckOE h
    obtain ⟨v37, e36, h⟩ := bindE h
    refine q_callV (v := some (.int v37)) [] C hRO lk_RX9_195 vk_X9_knownWord e35 rfl rfl rfl (Nat.le_of_ble_eq_true rfl) (by decide) (by decide) dX9_readsPerson_52 (k_X9_knownWord X.1.2.1 hl X.2.2.1 l0 M21 _ e36) ?_
    refine q_bipush (v := (9 : Int32)) C dX9_readsPerson_55 (by decide) ?_
    refine q_icmp_ne (tgt := 161) C dX9_readsPerson_57 (by decide) (fun c38 => ?_) (fun c38 => ?_)
    · have h := ifF c38 h
      exact q_sub (lv' := [(0, .ref l0)]) [1] rfl (w_X9_readsPerson_j161 C hRO hl l0 M21 h kf)
    · have h := ifT c38 h
      refine q_aload_n 1 C dX9_readsPerson_60 rfl ?_
      obtain ⟨e39, h⟩ := ckOE h
      obtain ⟨M41, e40, h⟩ := bindE h
      refine q_callV (v := none) [] C hRO lk_RX9_174 vk_X9_takes e39 rfl rfl rfl (Nat.le_of_ble_eq_true rfl) (by decide) (by decide) dX9_readsPerson_61 (k_X9_takes X.1.2.1 hl X.2.2.1 l0 M21 _ e40) ?_
      refine q_aload_n 1 C dX9_readsPerson_64 rfl ?_
      obtain ⟨v43, e44, h⟩ := bindE h
      refine q_getI C fl_RX9_144 rfl e44 dX9_readsPerson_65 ?_
      refine q_iconst (v := (2 : Int32)) C dX9_readsPerson_68 (by decide) ?_
      refine q_icmp_eq (tgt := 80) C dX9_readsPerson_69 (by decide) (fun c45 => ?_) (fun c45 => ?_)
      · have h := ifT c45 h
        refine q_aload_n 1 C dX9_readsPerson_80 rfl ?_
        obtain ⟨v46, e47, h⟩ := bindE h
        refine q_getI C fl_RX9_154 rfl e47 dX9_readsPerson_81 ?_
        refine q_iconst (v := (4 : Int32)) C dX9_readsPerson_84 (by decide) ?_
        refine q_icmp_le (tgt := 96) C dX9_readsPerson_85 (by decide) (fun c48 => ?_) (fun c48 => ?_)
        · have h := ifT c48 h
          refine q_aload_n 1 C dX9_readsPerson_96 rfl ?_
          obtain ⟨v49, e50, h⟩ := bindE h
          refine q_getI C fl_RX9_138 rfl e50 dX9_readsPerson_97 ?_
          refine q_aload_n 1 C dX9_readsPerson_100 rfl ?_
          obtain ⟨v51, e52, h⟩ := bindE h
          refine q_getI C fl_RX9_230 rfl e52 dX9_readsPerson_101 ?_
          refine q_icmp_lt (tgt := 115) C dX9_readsPerson_104 (by decide) (fun c53 => ?_) (fun c53 => ?_)
          · have h := ifT c53 h
            refine q_aload_n 1 C dX9_readsPerson_115 rfl ?_
            obtain ⟨v54, e55, h⟩ := bindE h
            refine q_getP C fl_RX9_53 rfl e55 dX9_readsPerson_116 ?_
            refine q_bipush (v := (19 : Int32)) C dX9_readsPerson_119 (by decide) ?_
            refine q_aload_n 1 C dX9_readsPerson_121 rfl ?_
            obtain ⟨v56, e57, h⟩ := bindE h
            refine q_getI C fl_RX9_138 rfl e57 dX9_readsPerson_122 ?_
            refine q_iadd C dX9_readsPerson_125 ?_
            obtain ⟨v58, e59, h⟩ := bindE h
            refine q_iaload C e59 dX9_readsPerson_126 ?_
            refine q_iconst (v := (-1 : Int32)) C dX9_readsPerson_127 (by decide) ?_
            refine q_icmp_eq (tgt := 136) C dX9_readsPerson_128 (by decide) (fun c60 => ?_) (fun c60 => ?_)
            · have h := ifT c60 h
              exact q_sub (lv' := [(0, .ref l0), (1, .int v1)]) [1, 0] rfl (w_X9_readsPerson_j136 C hRO hl l0 v1 M41 h kf)
            · have h := ifF c60 h
              refine q_aload_n 1 C dX9_readsPerson_131 rfl ?_
              refine q_iconst (v := (4 : Int32)) C dX9_readsPerson_132 (by decide) ?_
              obtain ⟨e75, h⟩ := ckOE h
              obtain ⟨M77, e76, h⟩ := bindE h
              refine q_callV (v := none) [.int (4 : Int32)] C hRO lk_RX9_177 vk_X9_wrong e75 rfl rfl rfl (Nat.le_of_ble_eq_true rfl) (by decide) (by decide) dX9_readsPerson_133 (k_X9_wrong X.1.2.1 hl X.2.2.1 l0 (4 : Int32) M41 _ e76) ?_
              exact q_sub (lv' := [(0, .ref l0), (1, .int v1)]) [1, 0] rfl (w_X9_readsPerson_j136 C hRO hl l0 v1 M77 h kf)
          · have h := ifF c53 h
            refine q_aload_n 1 C dX9_readsPerson_107 rfl ?_
            refine q_iconst (v := (3 : Int32)) C dX9_readsPerson_108 (by decide) ?_
            obtain ⟨e79, h⟩ := ckOE h
            obtain ⟨M81, e80, h⟩ := bindE h
            refine q_callV (v := none) [.int (3 : Int32)] C hRO lk_RX9_177 vk_X9_wrong e79 rfl rfl rfl (Nat.le_of_ble_eq_true rfl) (by decide) (by decide) dX9_readsPerson_109 (k_X9_wrong X.1.2.1 hl X.2.2.1 l0 (3 : Int32) M41 _ e80) ?_
            refine q_goto (tgt := 136) C dX9_readsPerson_112 (by decide) ?_
            exact q_sub (lv' := [(0, .ref l0), (1, .int v1)]) [1, 0] rfl (w_X9_readsPerson_j136 C hRO hl l0 v1 M81 h kf)
        · have h := ifF c48 h
          refine q_aload_n 1 C dX9_readsPerson_88 rfl ?_
          refine q_iconst (v := (2 : Int32)) C dX9_readsPerson_89 (by decide) ?_
          obtain ⟨e83, h⟩ := ckOE h
          obtain ⟨M85, e84, h⟩ := bindE h
          refine q_callV (v := none) [.int (2 : Int32)] C hRO lk_RX9_177 vk_X9_wrong e83 rfl rfl rfl (Nat.le_of_ble_eq_true rfl) (by decide) (by decide) dX9_readsPerson_90 (k_X9_wrong X.1.2.1 hl X.2.2.1 l0 (2 : Int32) M41 _ e84) ?_
          refine q_goto (tgt := 136) C dX9_readsPerson_93 (by decide) ?_
          exact q_sub (lv' := [(0, .ref l0), (1, .int v1)]) [1, 0] rfl (w_X9_readsPerson_j136 C hRO hl l0 v1 M85 h kf)
      · have h := ifF c45 h
        refine q_aload_n 1 C dX9_readsPerson_72 rfl ?_
        refine q_iconst (v := (1 : Int32)) C dX9_readsPerson_73 (by decide) ?_
        obtain ⟨e87, h⟩ := ckOE h
        obtain ⟨M89, e88, h⟩ := bindE h
        refine q_callV (v := none) [.int (1 : Int32)] C hRO lk_RX9_177 vk_X9_wrong e87 rfl rfl rfl (Nat.le_of_ble_eq_true rfl) (by decide) (by decide) dX9_readsPerson_74 (k_X9_wrong X.1.2.1 hl X.2.2.1 l0 (1 : Int32) M41 _ e88) ?_
        refine q_goto (tgt := 136) C dX9_readsPerson_77 (by decide) ?_
        exact q_sub (lv' := [(0, .ref l0), (1, .int v1)]) [1, 0] rfl (w_X9_readsPerson_j136 C hRO hl l0 v1 M89 h kf)
theorem k_X9_readsPerson (l : Launch) (hl : l.stackTraces = false) (G : GG) (l0 : Nat) (M : Mem) (x : Mem) (h : F_X9_readsPerson l0 M = some x) : Ct l G yX9_readsPerson (.code yX9_readsPerson cX9_readsPerson 2 none) 10 208 [.ref l0] M (rs_mV x) (ms_mV x) := by
  refine Ct_of (by decide +kernel) (Nat.le_of_ble_eq_true rfl) fun X e1 e2 e3 C FN hnm => ?_
  subst e1; subst e2
  show wq X 2 0 [(0, .ref l0)] [] M
  exact w_X9_readsPerson C FN.2.2.2 hl l0 M h FN
/-! X9_line -/
set_option maxRecDepth 100000 in
set_option maxHeartbeats 4000000 in
theorem w_X9_line_j199 {X : CX} {y : Mem} (C : CK X cX9_line 2 RX9 13 276) (hRO : RO X.2.2.1 X.1.2.2.2.2.1 X.1.2.2.2.2.1.heap) (hl : X.1.2.1.stackTraces = false) (l0 : Nat) (M : Mem) (h : F_X9_line_j199 l0 M = some y) (kf : FIN X none (rs_mV y) (ms_mV y)) : wq X 2 199 [(0, .ref l0)] [] M := by
  unfold F_X9_line_j199 at h
  refine q_aload_n 0 C dX9_line_199 rfl ?_
  refine q_aload_n 0 C dX9_line_200 rfl ?_
  refine q_bipush (v := (59 : Int32)) C dX9_line_201 (by decide) ?_
  obtain ⟨e13, h⟩ := ckOE h
  obtain ⟨v15, e14, h⟩ := bindE h
  refine q_callV (v := some (.int v15)) [.int (59 : Int32)] C hRO lk_RX9_205 vk_X9_isSign e13 rfl rfl rfl (Nat.le_of_ble_eq_true rfl) (by decide) (by decide) dX9_line_203 (k_X9_isSign X.1.2.1 hl X.2.2.1 l0 (59 : Int32) M _ e14) ?_
  obtain ⟨e16, h⟩ := ckOE h
  obtain ⟨M18, e17, h⟩ := bindE h
  refine q_callV (v := none) [.int v15] C hRO lk_RX9_265 vk_X9_need e16 rfl rfl rfl (Nat.le_of_ble_eq_true rfl) (by decide) (by decide) dX9_line_206 (k_X9_need X.1.2.1 hl X.2.2.1 l0 v15 M _ e17) ?_
  cases h
  exact q_vret C kf dX9_line_209
set_option maxRecDepth 100000 in
set_option maxHeartbeats 4000000 in
theorem w_X9_line_j171 {X : CX} {y : Mem} (C : CK X cX9_line 2 RX9 13 276) (hRO : RO X.2.2.1 X.1.2.2.2.2.1 X.1.2.2.2.2.1.heap) (hl : X.1.2.1.stackTraces = false) (l0 : Nat) (t0 : Int32) (t1 : Int32) (t2 : Nat) (M : Mem) (h : F_X9_line_j171 l0 t0 t1 t2 M = some y) (kf : FIN X none (rs_mV y) (ms_mV y)) : wq X 2 171 [(0, .ref l0)] [.int t0, .int t1, .ref t2] M := by
  unfold F_X9_line_j171 at h
  obtain ⟨e23, h⟩ := ckOE h
  obtain ⟨v26, M25, e24, h⟩ := bd2E h
  refine q_callV (v := some (.int v26)) [.int t1, .int t0] C hRO lk_RX9_243 vk_X9_begins e23 rfl rfl rfl (Nat.le_of_ble_eq_true rfl) (by decide) (by decide) dX9_line_171 (k_X9_begins X.1.2.1 hl X.2.2.1 t2 t1 t0 M _ e24) ?_
  refine q_if_eq (tgt := 199) C dX9_line_174 (by decide) (fun c27 => ?_) (fun c27 => ?_)
  · have h := ifT c27 h
    exact q_sub (lv' := [(0, .ref l0)]) [0] rfl (w_X9_line_j199 C hRO hl l0 M25 h kf)
  · have h := ifF c27 h
    refine q_aload_n 0 C dX9_line_177 rfl ?_
    refine q_aload_n 0 C dX9_line_178 rfl ?_
    obtain ⟨v28, e29, h⟩ := bindE h
    refine q_getI C fl_RX9_180 rfl e29 dX9_line_179 ?_
    obtain ⟨M30, e31, h⟩ := bindE h
    refine q_putI C fp_RX9_262 rfl e31 dX9_line_182 ?_
    refine q_aload_n 0 C dX9_line_185 rfl ?_
    refine q_bipush (v := (6 : Int32)) C dX9_line_186 (by decide) ?_
    obtain ⟨e32, h⟩ := ckOE h
    obtain ⟨M34, e33, h⟩ := bindE h
    refine q_callV (v := none) [.int (6 : Int32)] C hRO lk_RX9_259 vk_X9_expression e32 rfl rfl rfl (Nat.le_of_ble_eq_true rfl) (by decide) (by decide) dX9_line_188 (k_X9_expression X.1.2.1 hl X.2.2.1 l0 (6 : Int32) M30 _ e33) ?_
    refine q_goto (tgt := 199) C dX9_line_191 (by decide) ?_
    exact q_sub (lv' := [(0, .ref l0)]) [0] rfl (w_X9_line_j199 C hRO hl l0 M34 h kf)
set_option maxRecDepth 100000 in
set_option maxHeartbeats 4000000 in
theorem w_X9_line_j128 {X : CX} {y : Mem} (C : CK X cX9_line 2 RX9 13 276) (hRO : RO X.2.2.1 X.1.2.2.2.2.1 X.1.2.2.2.2.1.heap) (hl : X.1.2.1.stackTraces = false) (l0 : Nat) (t0 : Int32) (t1 : Int32) (t2 : Nat) (M : Mem) (h : F_X9_line_j128 l0 t0 t1 t2 M = some y) (kf : FIN X none (rs_mV y) (ms_mV y)) : wq X 2 128 [(0, .ref l0)] [.int t0, .int t1, .ref t2] M := by
  unfold F_X9_line_j128 at h
  obtain ⟨e39, h⟩ := ckOE h
  obtain ⟨v42, M41, e40, h⟩ := bd2E h
  refine q_callV (v := some (.int v42)) [.int t1, .int t0] C hRO lk_RX9_243 vk_X9_begins e39 rfl rfl rfl (Nat.le_of_ble_eq_true rfl) (by decide) (by decide) dX9_line_128 (k_X9_begins X.1.2.1 hl X.2.2.1 t2 t1 t0 M _ e40) ?_
  refine q_if_eq (tgt := 199) C dX9_line_131 (by decide) (fun c43 => ?_) (fun c43 => ?_)
  · have h := ifT c43 h
    exact q_sub (lv' := [(0, .ref l0)]) [0] rfl (w_X9_line_j199 C hRO hl l0 M41 h kf)
  · have h := ifF c43 h
    refine q_aload_n 0 C dX9_line_134 rfl ?_
    refine q_aload_n 0 C dX9_line_135 rfl ?_
    obtain ⟨v44, e45, h⟩ := bindE h
    refine q_getI C fl_RX9_180 rfl e45 dX9_line_136 ?_
    obtain ⟨M46, e47, h⟩ := bindE h
    refine q_putI C fp_RX9_256 rfl e47 dX9_line_139 ?_
    refine q_aload_n 0 C dX9_line_142 rfl ?_
    refine q_iconst (v := (5 : Int32)) C dX9_line_143 (by decide) ?_
    obtain ⟨e48, h⟩ := ckOE h
    obtain ⟨M50, e49, h⟩ := bindE h
    refine q_callV (v := none) [.int (5 : Int32)] C hRO lk_RX9_259 vk_X9_expression e48 rfl rfl rfl (Nat.le_of_ble_eq_true rfl) (by decide) (by decide) dX9_line_144 (k_X9_expression X.1.2.1 hl X.2.2.1 l0 (5 : Int32) M46 _ e49) ?_
    refine q_goto (tgt := 199) C dX9_line_147 (by decide) ?_
    exact q_sub (lv' := [(0, .ref l0)]) [0] rfl (w_X9_line_j199 C hRO hl l0 M50 h kf)
set_option maxRecDepth 100000 in
set_option maxHeartbeats 4000000 in
theorem w_X9_line_j94 {X : CX} {y : Mem} (C : CK X cX9_line 2 RX9 13 276) (hRO : RO X.2.2.1 X.1.2.2.2.2.1 X.1.2.2.2.2.1.heap) (hl : X.1.2.1.stackTraces = false) (l0 : Nat) (t0 : Int32) (t1 : Int32) (t2 : Nat) (M : Mem) (h : F_X9_line_j94 l0 t0 t1 t2 M = some y) (kf : FIN X none (rs_mV y) (ms_mV y)) : wq X 2 94 [(0, .ref l0)] [.int t0, .int t1, .ref t2] M := by
  unfold F_X9_line_j94 at h
  obtain ⟨e55, h⟩ := ckOE h
  obtain ⟨v58, M57, e56, h⟩ := bd2E h
  refine q_callV (v := some (.int v58)) [.int t1, .int t0] C hRO lk_RX9_243 vk_X9_begins e55 rfl rfl rfl (Nat.le_of_ble_eq_true rfl) (by decide) (by decide) dX9_line_94 (k_X9_begins X.1.2.1 hl X.2.2.1 t2 t1 t0 M _ e56) ?_
  refine q_if_eq (tgt := 199) C dX9_line_97 (by decide) (fun c59 => ?_) (fun c59 => ?_)
  · have h := ifT c59 h
    exact q_sub (lv' := [(0, .ref l0)]) [0] rfl (w_X9_line_j199 C hRO hl l0 M57 h kf)
  · have h := ifF c59 h
    refine q_aload_n 0 C dX9_line_100 rfl ?_
    obtain ⟨e60, h⟩ := ckOE h
    obtain ⟨M62, e61, h⟩ := bindE h
    refine q_callV (v := none) [] C hRO lk_RX9_253 vk_X9_readsDamp e60 rfl rfl rfl (Nat.le_of_ble_eq_true rfl) (by decide) (by decide) dX9_line_101 (k_X9_readsDamp X.1.2.1 hl X.2.2.1 l0 M57 _ e61) ?_
    refine q_goto (tgt := 199) C dX9_line_104 (by decide) ?_
    exact q_sub (lv' := [(0, .ref l0)]) [0] rfl (w_X9_line_j199 C hRO hl l0 M62 h kf)
set_option maxRecDepth 100000 in
set_option maxHeartbeats 4000000 in
theorem w_X9_line_j61 {X : CX} {y : Mem} (C : CK X cX9_line 2 RX9 13 276) (hRO : RO X.2.2.1 X.1.2.2.2.2.1 X.1.2.2.2.2.1.heap) (hl : X.1.2.1.stackTraces = false) (l0 : Nat) (t0 : Int32) (t1 : Nat) (M : Mem) (h : F_X9_line_j61 l0 t0 t1 M = some y) (kf : FIN X none (rs_mV y) (ms_mV y)) : wq X 2 61 [(0, .ref l0)] [.int t0, .ref t1] M := by
  unfold F_X9_line_j61 at h
  refine q_iconst (v := (0 : Int32)) C dX9_line_61 (by decide) ?_
  obtain ⟨e67, h⟩ := ckOE h
  obtain ⟨v70, M69, e68, h⟩ := bd2E h
  refine q_callV (v := some (.int v70)) [.int t0, .int (0 : Int32)] C hRO lk_RX9_243 vk_X9_begins e67 rfl rfl rfl (Nat.le_of_ble_eq_true rfl) (by decide) (by decide) dX9_line_62 (k_X9_begins X.1.2.1 hl X.2.2.1 t1 t0 (0 : Int32) M _ e68) ?_
  refine q_if_eq (tgt := 199) C dX9_line_65 (by decide) (fun c71 => ?_) (fun c71 => ?_)
  · have h := ifT c71 h
    exact q_sub (lv' := [(0, .ref l0)]) [0] rfl (w_X9_line_j199 C hRO hl l0 M69 h kf)
  · have h := ifF c71 h
    refine q_aload_n 0 C dX9_line_68 rfl ?_
    obtain ⟨e72, h⟩ := ckOE h
    obtain ⟨M74, e73, h⟩ := bindE h
    refine q_callV (v := none) [] C hRO lk_RX9_250 vk_X9_readsPerson e72 rfl rfl rfl (Nat.le_of_ble_eq_true rfl) (by decide) (by decide) dX9_line_69 (k_X9_readsPerson X.1.2.1 hl X.2.2.1 l0 M69 _ e73) ?_
    refine q_goto (tgt := 199) C dX9_line_72 (by decide) ?_
    exact q_sub (lv' := [(0, .ref l0)]) [0] rfl (w_X9_line_j199 C hRO hl l0 M74 h kf)
set_option maxRecDepth 100000 in
set_option maxHeartbeats 4000000 in
theorem w_X9_line_j26 {X : CX} {y : Mem} (C : CK X cX9_line 2 RX9 13 276) (hRO : RO X.2.2.1 X.1.2.2.2.2.1 X.1.2.2.2.2.1.heap) (hl : X.1.2.1.stackTraces = false) (l0 : Nat) (t0 : Int32) (t1 : Nat) (M : Mem) (h : F_X9_line_j26 l0 t0 t1 M = some y) (kf : FIN X none (rs_mV y) (ms_mV y)) : wq X 2 26 [(0, .ref l0)] [.int t0, .ref t1] M := by
  unfold F_X9_line_j26 at h
  refine q_iconst (v := (0 : Int32)) C dX9_line_26 (by decide) ?_
  obtain ⟨e79, h⟩ := ckOE h
  obtain ⟨v82, M81, e80, h⟩ := bd2E h
  refine q_callV (v := some (.int v82)) [.int t0, .int (0 : Int32)] C hRO lk_RX9_243 vk_X9_begins e79 rfl rfl rfl (Nat.le_of_ble_eq_true rfl) (by decide) (by decide) dX9_line_27 (k_X9_begins X.1.2.1 hl X.2.2.1 t1 t0 (0 : Int32) M _ e80) ?_
  refine q_if_eq (tgt := 199) C dX9_line_30 (by decide) (fun c83 => ?_) (fun c83 => ?_)
  · have h := ifT c83 h
    exact q_sub (lv' := [(0, .ref l0)]) [0] rfl (w_X9_line_j199 C hRO hl l0 M81 h kf)
  · have h := ifF c83 h
    refine q_aload_n 0 C dX9_line_33 rfl ?_
    obtain ⟨e84, h⟩ := ckOE h
    obtain ⟨M86, e85, h⟩ := bindE h
    refine q_callV (v := none) [] C hRO lk_RX9_247 vk_X9_readsHouse e84 rfl rfl rfl (Nat.le_of_ble_eq_true rfl) (by decide) (by decide) dX9_line_34 (k_X9_readsHouse X.1.2.1 hl X.2.2.1 l0 M81 _ e85) ?_
    refine q_goto (tgt := 199) C dX9_line_37 (by decide) ?_
    exact q_sub (lv' := [(0, .ref l0)]) [0] rfl (w_X9_line_j199 C hRO hl l0 M86 h kf)
set_option maxRecDepth 100000 in
set_option maxHeartbeats 4000000 in
theorem w_X9_line {X : CX} {y : Mem} (C : CK X cX9_line 2 RX9 13 276) (hRO : RO X.2.2.1 X.1.2.2.2.2.1 X.1.2.2.2.2.1.heap) (hl : X.1.2.1.stackTraces = false) (l0 : Nat) (M : Mem) (h : F_X9_line l0 M = some y) (kf : FIN X none (rs_mV y) (ms_mV y)) : wq X 2 0 [(0, .ref l0)] [] M := by
  unfold F_X9_line at h
  refine q_aload_n 0 C dX9_line_0 rfl ?_
  obtain ⟨e1, h⟩ := ckOE h
  obtain ⟨v3, e2, h⟩ := bindE h
  refine q_callV (v := some (.int v3)) [] C hRO lk_RX9_195 vk_X9_knownWord e1 rfl rfl rfl (Nat.le_of_ble_eq_true rfl) (by decide) (by decide) dX9_line_1 (k_X9_knownWord X.1.2.1 hl X.2.2.1 l0 M _ e2) ?_
  refine q_istore_n (i := 1) (lv' := [(1, .int v3), (0, .ref l0)]) C dX9_line_4 rfl (by decide) rfl ?_
  refine q_iload_n 0 C dX9_line_5 rfl ?_
  refine q_bipush (v := (7 : Int32)) C dX9_line_6 (by decide) ?_
  refine q_icmp_ne (tgt := 40) C dX9_line_8 (by decide) (fun c4 => ?_) (fun c4 => ?_)
  · have h := ifF c4 h
    refine q_iload_n 0 C dX9_line_40 rfl ?_
    refine q_bipush (v := (8 : Int32)) C dX9_line_41 (by decide) ?_
    refine q_icmp_ne (tgt := 75) C dX9_line_43 (by decide) (fun c5 => ?_) (fun c5 => ?_)
    · have h := ifF c5 h
      refine q_iload_n 0 C dX9_line_75 rfl ?_
      refine q_iconst (v := (4 : Int32)) C dX9_line_76 (by decide) ?_
      refine q_icmp_ne (tgt := 107) C dX9_line_77 (by decide) (fun c6 => ?_) (fun c6 => ?_)
      · have h := ifF c6 h
        refine q_iload_n 0 C dX9_line_107 rfl ?_
        refine q_bipush (v := (10 : Int32)) C dX9_line_108 (by decide) ?_
        refine q_icmp_ne (tgt := 150) C dX9_line_110 (by decide) (fun c7 => ?_) (fun c7 => ?_)
        · have h := ifF c7 h
          refine q_iload_n 0 C dX9_line_150 rfl ?_
          refine q_bipush (v := (11 : Int32)) C dX9_line_151 (by decide) ?_
          refine q_icmp_ne (tgt := 194) C dX9_line_153 (by decide) (fun c8 => ?_) (fun c8 => ?_)
          · have h := ifF c8 h
            refine q_aload_n 1 C dX9_line_194 rfl ?_
            refine q_iconst (v := (1 : Int32)) C dX9_line_195 (by decide) ?_
            obtain ⟨e9, h⟩ := ckOE h
            obtain ⟨M11, e10, h⟩ := bindE h
            refine q_callV (v := none) [.int (1 : Int32)] C hRO lk_RX9_177 vk_X9_wrong e9 rfl rfl rfl (Nat.le_of_ble_eq_true rfl) (by decide) (by decide) dX9_line_196 (k_X9_wrong X.1.2.1 hl X.2.2.1 l0 (1 : Int32) M _ e10) ?_
            exact q_sub (lv' := [(0, .ref l0)]) [1] rfl (w_X9_line_j199 C hRO hl l0 M11 h kf)
          · have h := ifT c8 h
            refine q_aload_n 1 C dX9_line_156 rfl ?_
            refine q_iconst (v := (0 : Int32)) C dX9_line_157 (by decide) ?_
            refine q_aload_n 1 C dX9_line_158 rfl ?_
            obtain ⟨v20, e21, h⟩ := bindE h
            refine q_getI C fl_RX9_262 rfl e21 dX9_line_159 ?_
            refine q_iconst (v := (-1 : Int32)) C dX9_line_162 (by decide) ?_
            refine q_icmp_eq (tgt := 170) C dX9_line_163 (by decide) (fun c22 => ?_) (fun c22 => ?_)
            · have h := ifT c22 h
              refine q_iconst (v := (0 : Int32)) C dX9_line_170 (by decide) ?_
              exact q_sub (lv' := [(0, .ref l0)]) [1] rfl (w_X9_line_j171 C hRO hl l0 (0 : Int32) (0 : Int32) l0 M h kf)
            · have h := ifF c22 h
              refine q_iconst (v := (1 : Int32)) C dX9_line_166 (by decide) ?_
              refine q_goto (tgt := 171) C dX9_line_167 (by decide) ?_
              exact q_sub (lv' := [(0, .ref l0)]) [1] rfl (w_X9_line_j171 C hRO hl l0 (1 : Int32) (0 : Int32) l0 M h kf)
        · have h := ifT c7 h
          refine q_aload_n 1 C dX9_line_113 rfl ?_
          refine q_iconst (v := (0 : Int32)) C dX9_line_114 (by decide) ?_
          refine q_aload_n 1 C dX9_line_115 rfl ?_
          obtain ⟨v36, e37, h⟩ := bindE h
          refine q_getI C fl_RX9_256 rfl e37 dX9_line_116 ?_
          refine q_iconst (v := (-1 : Int32)) C dX9_line_119 (by decide) ?_
          refine q_icmp_eq (tgt := 127) C dX9_line_120 (by decide) (fun c38 => ?_) (fun c38 => ?_)
          · have h := ifT c38 h
            refine q_iconst (v := (0 : Int32)) C dX9_line_127 (by decide) ?_
            exact q_sub (lv' := [(0, .ref l0)]) [1] rfl (w_X9_line_j128 C hRO hl l0 (0 : Int32) (0 : Int32) l0 M h kf)
          · have h := ifF c38 h
            refine q_iconst (v := (1 : Int32)) C dX9_line_123 (by decide) ?_
            refine q_goto (tgt := 128) C dX9_line_124 (by decide) ?_
            exact q_sub (lv' := [(0, .ref l0)]) [1] rfl (w_X9_line_j128 C hRO hl l0 (1 : Int32) (0 : Int32) l0 M h kf)
      · have h := ifT c6 h
        refine q_aload_n 1 C dX9_line_80 rfl ?_
        refine q_iconst (v := (0 : Int32)) C dX9_line_81 (by decide) ?_
        refine q_aload_n 1 C dX9_line_82 rfl ?_
        obtain ⟨v52, e53, h⟩ := bindE h
        refine q_getI C fl_RX9_240 rfl e53 dX9_line_83 ?_
        refine q_if_le (tgt := 93) C dX9_line_86 (by decide) (fun c54 => ?_) (fun c54 => ?_)
        · have h := ifT c54 h
          refine q_iconst (v := (0 : Int32)) C dX9_line_93 (by decide) ?_
          exact q_sub (lv' := [(0, .ref l0)]) [1] rfl (w_X9_line_j94 C hRO hl l0 (0 : Int32) (0 : Int32) l0 M h kf)
        · have h := ifF c54 h
          refine q_iconst (v := (1 : Int32)) C dX9_line_89 (by decide) ?_
          refine q_goto (tgt := 94) C dX9_line_90 (by decide) ?_
          exact q_sub (lv' := [(0, .ref l0)]) [1] rfl (w_X9_line_j94 C hRO hl l0 (1 : Int32) (0 : Int32) l0 M h kf)
    · have h := ifT c5 h
      refine q_aload_n 1 C dX9_line_46 rfl ?_
      refine q_aload_n 1 C dX9_line_47 rfl ?_
      obtain ⟨v64, e65, h⟩ := bindE h
      refine q_getI C fl_RX9_237 rfl e65 dX9_line_48 ?_
      refine q_bipush (v := (8 : Int32)) C dX9_line_51 (by decide) ?_
      refine q_icmp_ne (tgt := 60) C dX9_line_53 (by decide) (fun c66 => ?_) (fun c66 => ?_)
      · have h := ifF c66 h
        refine q_iconst (v := (0 : Int32)) C dX9_line_60 (by decide) ?_
        exact q_sub (lv' := [(0, .ref l0)]) [1] rfl (w_X9_line_j61 C hRO hl l0 (0 : Int32) l0 M h kf)
      · have h := ifT c66 h
        refine q_iconst (v := (1 : Int32)) C dX9_line_56 (by decide) ?_
        refine q_goto (tgt := 61) C dX9_line_57 (by decide) ?_
        exact q_sub (lv' := [(0, .ref l0)]) [1] rfl (w_X9_line_j61 C hRO hl l0 (1 : Int32) l0 M h kf)
  · have h := ifT c4 h
    refine q_aload_n 1 C dX9_line_11 rfl ?_
    refine q_aload_n 1 C dX9_line_12 rfl ?_
    obtain ⟨v76, e77, h⟩ := bindE h
    refine q_getI C fl_RX9_230 rfl e77 dX9_line_13 ?_
    refine q_bipush (v := (8 : Int32)) C dX9_line_16 (by decide) ?_
    refine q_icmp_ne (tgt := 25) C dX9_line_18 (by decide) (fun c78 => ?_) (fun c78 => ?_)
    · have h := ifF c78 h
      refine q_iconst (v := (0 : Int32)) C dX9_line_25 (by decide) ?_
      exact q_sub (lv' := [(0, .ref l0)]) [1] rfl (w_X9_line_j26 C hRO hl l0 (0 : Int32) l0 M h kf)
    · have h := ifT c78 h
      refine q_iconst (v := (1 : Int32)) C dX9_line_21 (by decide) ?_
      refine q_goto (tgt := 26) C dX9_line_22 (by decide) ?_
      exact q_sub (lv' := [(0, .ref l0)]) [1] rfl (w_X9_line_j26 C hRO hl l0 (1 : Int32) l0 M h kf)
theorem k_X9_line (l : Launch) (hl : l.stackTraces = false) (G : GG) (l0 : Nat) (M : Mem) (x : Mem) (h : F_X9_line l0 M = some x) : Ct l G yX9_line (.code yX9_line cX9_line 2 none) 13 276 [.ref l0] M (rs_mV x) (ms_mV x) := by
  refine Ct_of (by decide +kernel) (Nat.le_of_ble_eq_true rfl) fun X e1 e2 e3 C FN hnm => ?_
  subst e1; subst e2
  show wq X 2 0 [(0, .ref l0)] [] M
  exact w_X9_line C FN.2.2.2 hl l0 M h FN
/-! X9_match -/
set_option maxRecDepth 100000 in
set_option maxHeartbeats 4000000 in
theorem w_X9_match {X : CX} {y : Int32 × Mem} (C : CK X cX9_match 3 RX9 13 280) (hRO : RO X.2.2.1 X.1.2.2.2.2.1 X.1.2.2.2.2.1.heap) (hl : X.1.2.1.stackTraces = false) (l0 : Nat) (l1 : Int32) (M : Mem) (h : F_X9_match l0 l1 M = some y) (kf : FIN X (some .int) (rs_mI y) (ms_mI y)) : wq X 3 0 [(0, .ref l0), (1, .int l1)] [] M := by
  unfold F_X9_match at h
  refine q_aload_n 0 C dX9_match_0 rfl ?_
  refine q_iconst (v := (0 : Int32)) C dX9_match_1 (by decide) ?_
  obtain ⟨M1, e2, h⟩ := bindE h
  refine q_putI C fp_RX9_111 rfl e2 dX9_match_2 ?_
  refine q_aload_n 0 C dX9_match_5 rfl ?_
  refine q_iload_n 1 C dX9_match_6 rfl ?_
  refine q_iconst (v := (1 : Int32)) C dX9_match_7 (by decide) ?_
  obtain ⟨e3, h⟩ := ckOE h
  obtain ⟨v6, M5, e4, h⟩ := bd2E h
  refine q_callV (v := some (.int v6)) [.int l1, .int (1 : Int32)] C hRO lk_RX9_370 vk_X9_isWhat e3 rfl rfl rfl (Nat.le_of_ble_eq_true rfl) (by decide) (by decide) dX9_match_8 (k_X9_isWhat X.1.2.1 hl X.2.2.1 l0 l1 (1 : Int32) M1 _ e4) ?_
  refine q_if_ne (tgt := 16) C dX9_match_11 (by decide) (fun c7 => ?_) (fun c7 => ?_)
  · have h := ifF c7 h
    refine q_aload_n 0 C dX9_match_16 rfl ?_
    obtain ⟨e8, h⟩ := ckOE h
    obtain ⟨M10, e9, h⟩ := bindE h
    refine q_callV (v := none) [] C hRO lk_RX9_412 vk_X9_laysMatch e8 rfl rfl rfl (Nat.le_of_ble_eq_true rfl) (by decide) (by decide) dX9_match_17 (k_X9_laysMatch X.1.2.1 hl X.2.2.1 l0 M5 _ e9) ?_
    refine q_aload_n 0 C dX9_match_20 rfl ?_
    refine q_iconst (v := (0 : Int32)) C dX9_match_21 (by decide) ?_
    refine q_iconst (v := (0 : Int32)) C dX9_match_22 (by decide) ?_
    obtain ⟨e12, h⟩ := ckOE h
    obtain ⟨v14, e13, h⟩ := bindE h
    refine q_callV (v := some (.int v14)) [.int (0 : Int32), .int (0 : Int32)] C hRO lk_RX9_406 vk_X9_leastOf e12 rfl rfl rfl (Nat.le_of_ble_eq_true rfl) (by decide) (by decide) dX9_match_23 (k_X9_leastOf X.1.2.1 hl X.2.2.1 l0 (0 : Int32) (0 : Int32) M10 _ e13) ?_
    refine q_istore_n (i := 2) (lv' := [(2, .int v14), (0, .ref l0), (1, .int l1)]) C dX9_match_26 rfl (by decide) rfl ?_
    refine q_iload_n 2 C dX9_match_27 rfl ?_
    refine q_if_ne (tgt := 39) C dX9_match_28 (by decide) (fun c15 => ?_) (fun c15 => ?_)
    · have h := ifF c15 h
      refine q_iload_n 0 C dX9_match_39 rfl ?_
      refine q_sipush (v := (10000 : Int32)) C dX9_match_40 (by decide) ?_
      refine q_irem C (by decide) dX9_match_43 ?_
      cases h
      exact q_iret C kf dX9_match_44
    · have h := ifT c15 h
      refine q_iload_n 0 C dX9_match_31 rfl ?_
      refine q_sipush (v := (10000 : Int32)) C dX9_match_32 (by decide) ?_
      refine q_idiv C (by decide) dX9_match_35 ?_
      refine q_goto (tgt := 44) C dX9_match_36 (by decide) ?_
      cases h
      exact q_iret C kf dX9_match_44
  · have h := ifT c7 h
    refine q_iconst (v := (0 : Int32)) C dX9_match_14 (by decide) ?_
    cases h
    exact q_iret C kf dX9_match_15
theorem k_X9_match (l : Launch) (hl : l.stackTraces = false) (G : GG) (l0 : Nat) (l1 : Int32) (M : Mem) (x : Int32 × Mem) (h : F_X9_match l0 l1 M = some x) : Ct l G yX9_match (.code yX9_match cX9_match 3 (some .int)) 13 280 [.ref l0, .int l1] M (rs_mI x) (ms_mI x) := by
  refine Ct_of (by decide +kernel) (Nat.le_of_ble_eq_true rfl) fun X e1 e2 e3 C FN hnm => ?_
  subst e1; subst e2
  show wq X 3 0 [(0, .ref l0), (1, .int l1)] [] M
  exact w_X9_match C FN.2.2.2 hl l0 l1 M h FN
/-! X9_matched -/
set_option maxRecDepth 100000 in
set_option maxHeartbeats 4000000 in
theorem w_X9_matched_s42 {X : CX} {y : (Int32 × Int32 × Mem) ⊕ (Int32 × Mem)} (C : CK X cX9_matched 6 RX9 13 280) (hRO : RO X.2.2.1 X.1.2.2.2.2.1 X.1.2.2.2.2.1.heap) (hl : X.1.2.1.stackTraces = false) (l0 : Nat) (l1 : Int32) (l2 : Int32) (l4 : Int32) (l3 : Int32) (l5 : Int32) (M : Mem) (h : F_X9_matched_s42 l0 l2 l4 l3 l5 M = some y) (kc : ∀ s' : Int32 × Int32 × Mem, y = .inl s' → wq X 6 42 [(0, .ref l0), (1, .int l1), (2, .int l2), (3, .int (s'.1)), (4, .int l4), (5, .int (s'.2.1))] [] s'.2.2) (kx : ∀ e' : Int32 × Mem, y = (.inr e') → wq X 6 96 [(0, .ref l0), (1, .int l1), (2, .int l2), (3, .int (e'.1)), (4, .int l4)] [] e'.2) : wq X 6 42 [(0, .ref l0), (1, .int l1), (2, .int l2), (3, .int l3), (4, .int l4), (5, .int l5)] [] M := by
  unfold F_X9_matched_s42 at h
  refine q_iload 5 C dX9_matched_42 rfl ?_
  refine q_if_lt (tgt := 96) C dX9_matched_44 (by decide) (fun c15 => ?_) (fun c15 => ?_)
  · have h := ifT c15 h
    exact q_sub (lv' := [(0, .ref l0), (1, .int l1), (2, .int l2), (3, .int l3), (4, .int l4)]) [0, 1, 2, 3, 4] rfl (kx (l3, M) (someI h))
  · have h := ifF c15 h
    refine q_iload_n 2 C dX9_matched_47 rfl ?_
    refine q_iload 5 C dX9_matched_48 rfl ?_
    refine q_ishr C dX9_matched_50 ?_
    refine q_iconst (v := (1 : Int32)) C dX9_matched_51 (by decide) ?_
    refine q_iand C dX9_matched_52 ?_
    refine q_if_ne (tgt := 90) C dX9_matched_53 (by decide) (fun c16 => ?_) (fun c16 => ?_)
    · have h := ifF c16 h
      refine q_iinc 5 (v := (l5 + (-1 : Int32))) (lv' := [(5, .int (l5 + (-1 : Int32))), (0, .ref l0), (1, .int l1), (2, .int l2), (3, .int l3), (4, .int l4)]) C dX9_matched_90 rfl rfl (by decide) rfl ?_
      refine q_goto (tgt := 42) C dX9_matched_93 (by decide) ?_
      exact q_sub (lv' := [(0, .ref l0), (1, .int l1), (2, .int l2), (3, .int l3), (4, .int l4), (5, .int (l5 + (-1 : Int32)))]) [1, 2, 3, 4, 5, 0] rfl (kc (l3, (l5 + (-1 : Int32)), M) (someI h))
    · have h := ifT c16 h
      refine q_aload_n 0 C dX9_matched_56 rfl ?_
      refine q_iconst (v := (0 : Int32)) C dX9_matched_57 (by decide) ?_
      refine q_iload 4 C dX9_matched_58 rfl ?_
      refine q_iload 5 C dX9_matched_60 rfl ?_
      obtain ⟨e17, h⟩ := ckOE h
      obtain ⟨v20, M19, e18, h⟩ := bd2E h
      refine q_callV (v := some (.int v20)) [.int (0 : Int32), .int l4, .int l5] C hRO lk_RX9_388 vk_X9_wouldGo e17 rfl rfl rfl (Nat.le_of_ble_eq_true rfl) (by decide) (by decide) dX9_matched_62 (k_X9_wouldGo X.1.2.1 hl X.2.2.1 l0 (0 : Int32) l4 l5 M _ e18) ?_
      refine q_if_eq (tgt := 90) C dX9_matched_65 (by decide) (fun c21 => ?_) (fun c21 => ?_)
      · have h := ifT c21 h
        refine q_iinc 5 (v := (l5 + (-1 : Int32))) (lv' := [(5, .int (l5 + (-1 : Int32))), (0, .ref l0), (1, .int l1), (2, .int l2), (3, .int l3), (4, .int l4)]) C dX9_matched_90 rfl rfl (by decide) rfl ?_
        refine q_goto (tgt := 42) C dX9_matched_93 (by decide) ?_
        exact q_sub (lv' := [(0, .ref l0), (1, .int l1), (2, .int l2), (3, .int l3), (4, .int l4), (5, .int (l5 + (-1 : Int32)))]) [1, 2, 3, 4, 5, 0] rfl (kc (l3, (l5 + (-1 : Int32)), M19) (someI h))
      · have h := ifF c21 h
        refine q_aload_n 0 C dX9_matched_68 rfl ?_
        refine q_iload 4 C dX9_matched_69 rfl ?_
        refine q_iload 5 C dX9_matched_71 rfl ?_
        refine q_iload_n 2 C dX9_matched_73 rfl ?_
        obtain ⟨e22, h⟩ := ckOE h
        obtain ⟨v24, e23, h⟩ := bindE h
        refine q_callV (v := some (.int v24)) [.int l4, .int l5, .int l2] C hRO lk_RX9_409 vk_X9_byHouse e22 rfl rfl rfl (Nat.le_of_ble_eq_true rfl) (by decide) (by decide) dX9_matched_74 (k_X9_byHouse X.1.2.1 hl X.2.2.1 l0 l4 l5 l2 M19 _ e23) ?_
        refine q_aload_n 0 C dX9_matched_77 rfl ?_
        refine q_iload 4 C dX9_matched_78 rfl ?_
        refine q_iload_n 2 C dX9_matched_80 rfl ?_
        obtain ⟨e25, h⟩ := ckOE h
        obtain ⟨v27, e26, h⟩ := bindE h
        refine q_callV (v := some (.int v27)) [.int l4, .int l2] C hRO lk_RX9_406 vk_X9_leastOf e25 rfl rfl rfl (Nat.le_of_ble_eq_true rfl) (by decide) (by decide) dX9_matched_81 (k_X9_leastOf X.1.2.1 hl X.2.2.1 l0 l4 l2 M19 _ e26) ?_
        refine q_icmp_ne (tgt := 90) C dX9_matched_84 (by decide) (fun c28 => ?_) (fun c28 => ?_)
        · have h := ifF c28 h
          refine q_iinc 5 (v := (l5 + (-1 : Int32))) (lv' := [(5, .int (l5 + (-1 : Int32))), (0, .ref l0), (1, .int l1), (2, .int l2), (3, .int l3), (4, .int l4)]) C dX9_matched_90 rfl rfl (by decide) rfl ?_
          refine q_goto (tgt := 42) C dX9_matched_93 (by decide) ?_
          exact q_sub (lv' := [(0, .ref l0), (1, .int l1), (2, .int l2), (3, .int l3), (4, .int l4), (5, .int (l5 + (-1 : Int32)))]) [1, 2, 3, 4, 5, 0] rfl (kc (l3, (l5 + (-1 : Int32)), M19) (someI h))
        · have h := ifT c28 h
          refine q_iload 5 C dX9_matched_87 rfl ?_
          refine q_istore_n (i := 3) (lv' := [(3, .int l5), (0, .ref l0), (1, .int l1), (2, .int l2), (4, .int l4), (5, .int l5)]) C dX9_matched_89 rfl (by decide) rfl ?_
          refine q_iinc 5 (v := (l5 + (-1 : Int32))) (lv' := [(5, .int (l5 + (-1 : Int32))), (3, .int l5), (0, .ref l0), (1, .int l1), (2, .int l2), (4, .int l4)]) C dX9_matched_90 rfl rfl (by decide) rfl ?_
          refine q_goto (tgt := 42) C dX9_matched_93 (by decide) ?_
          exact q_sub (lv' := [(0, .ref l0), (1, .int l1), (2, .int l2), (3, .int l5), (4, .int l4), (5, .int (l5 + (-1 : Int32)))]) [2, 3, 4, 1, 5, 0] rfl (kc (l5, (l5 + (-1 : Int32)), M19) (someI h))
theorem w_X9_matched_l42 {X : CX} {r : Int32 × Mem} (C : CK X cX9_matched 6 RX9 13 280) (hRO : RO X.2.2.1 X.1.2.2.2.2.1 X.1.2.2.2.2.1.heap) (hl : X.1.2.1.stackTraces = false) (l0 : Nat) (l1 : Int32) (l2 : Int32) (l4 : Int32) (l3 : Int32) (l5 : Int32) (M : Mem) (h : loop (fun s => F_X9_matched_s42 l0 l2 l4 s.1 s.2.1 s.2.2) (l3, l5, M) = some r) (kx : ∀ e' : Int32 × Mem, r = e' → wq X 6 96 [(0, .ref l0), (1, .int l1), (2, .int l2), (3, .int (e'.1)), (4, .int l4)] [] e'.2) : wq X 6 42 [(0, .ref l0), (1, .int l1), (2, .int l2), (3, .int l3), (4, .int l4), (5, .int l5)] [] M :=
  loop_ind (P := fun s => wq X 6 42 [(0, .ref l0), (1, .int l1), (2, .int l2), (3, .int s.1), (4, .int l4), (5, .int s.2.1)] [] s.2.2) h (fun s y hy kc kr => w_X9_matched_s42 C hRO hl l0 l1 l2 l4 s.1 s.2.1 s.2.2 hy kc (fun e' he => kx e' (kr _ he).symm))
set_option maxRecDepth 100000 in
set_option maxHeartbeats 4000000 in
theorem w_X9_matched_s26 {X : CX} {y : (Int32 × Int32 × Int32 × Mem) ⊕ (Int32 × Mem)} (C : CK X cX9_matched 6 RX9 13 280) (hRO : RO X.2.2.1 X.1.2.2.2.2.1 X.1.2.2.2.2.1.heap) (hl : X.1.2.1.stackTraces = false) (l0 : Nat) (l1 : Int32) (l2 : Int32) (l3 : Int32) (l4 : Int32) (M : Mem) (h : F_X9_matched_s26 l0 l1 l2 l3 l4 M = some y) (kc : ∀ s' : Int32 × Int32 × Int32 × Mem, y = .inl s' → wq X 6 26 [(0, .ref l0), (1, .int l1), (2, .int (s'.1)), (3, .int (s'.2.1)), (4, .int (s'.2.2.1))] [] s'.2.2.2) (kx : ∀ e' : Int32 × Mem, y = (.inr e') → wq X 6 113 [(3, .int (e'.1))] [] e'.2) : wq X 6 26 [(0, .ref l0), (1, .int l1), (2, .int l2), (3, .int l3), (4, .int l4)] [] M := by
  unfold F_X9_matched_s26 at h
  refine q_iload 4 C dX9_matched_26 rfl ?_
  refine q_iload_n 1 C dX9_matched_28 rfl ?_
  refine q_icmp_gt (tgt := 113) C dX9_matched_29 (by decide) (fun c12 => ?_) (fun c12 => ?_)
  · have h := ifT c12 h
    exact q_sub (lv' := [(3, .int l3)]) [3] rfl (kx (l3, M) (someI h))
  · have h := ifF c12 h
    refine q_iconst (v := (-1 : Int32)) C dX9_matched_32 (by decide) ?_
    refine q_istore_n (i := 3) (lv' := [(3, .int (-1 : Int32)), (0, .ref l0), (1, .int l1), (2, .int l2), (4, .int l4)]) C dX9_matched_33 rfl (by decide) rfl ?_
    refine q_aload_n 1 C dX9_matched_34 rfl ?_
    obtain ⟨v13, e14, h⟩ := bindE h
    refine q_getI C fl_RX9_275 rfl e14 dX9_matched_35 ?_
    refine q_iconst (v := (1 : Int32)) C dX9_matched_38 (by decide) ?_
    refine q_isub C dX9_matched_39 ?_
    refine q_istore (i := 5) (lv' := [(5, .int (v13 - (1 : Int32))), (3, .int (-1 : Int32)), (0, .ref l0), (1, .int l1), (2, .int l2), (4, .int l4)]) C dX9_matched_40 (by decide) rfl ?_
    obtain ⟨⟨x31, M32⟩, e30, h⟩ := bindE h
    refine q_sub (lv' := [(0, .ref l0), (1, .int l1), (2, .int l2), (3, .int (-1 : Int32)), (4, .int l4), (5, .int (v13 - (1 : Int32)))]) [2, 3, 4, 1, 5, 0] rfl (w_X9_matched_l42 C hRO hl l0 l1 l2 l4 (-1 : Int32) (v13 - (1 : Int32)) M e30 (fun r29 he => ?_))
    subst he
    have h := u2E h
    show wq X 6 96 [(0, .ref l0), (1, .int l1), (2, .int l2), (3, .int x31), (4, .int l4)] [] M32
    refine q_iload_n 3 C dX9_matched_96 rfl ?_
    refine q_iconst (v := (-1 : Int32)) C dX9_matched_97 (by decide) ?_
    refine q_icmp_eq (tgt := 107) C dX9_matched_98 (by decide) (fun c33 => ?_) (fun c33 => ?_)
    · have h := ifT c33 h
      refine q_iinc 4 (v := (l4 + (1 : Int32))) (lv' := [(4, .int (l4 + (1 : Int32))), (0, .ref l0), (1, .int l1), (2, .int l2), (3, .int x31)]) C dX9_matched_107 rfl rfl (by decide) rfl ?_
      refine q_goto (tgt := 26) C dX9_matched_110 (by decide) ?_
      exact q_sub (lv' := [(0, .ref l0), (1, .int l1), (2, .int l2), (3, .int x31), (4, .int (l4 + (1 : Int32)))]) [1, 2, 3, 4, 0] rfl (kc (l2, x31, (l4 + (1 : Int32)), M32) (someI h))
    · have h := ifF c33 h
      refine q_iload_n 2 C dX9_matched_101 rfl ?_
      refine q_iconst (v := (1 : Int32)) C dX9_matched_102 (by decide) ?_
      refine q_iload_n 3 C dX9_matched_103 rfl ?_
      refine q_ishl C dX9_matched_104 ?_
      refine q_ior C dX9_matched_105 ?_
      obtain ⟨n34, e35, h⟩ := nmE h
      refine q_topI e35 ?_
      refine q_istore_n (i := 2) (lv' := [(2, .int n34), (0, .ref l0), (1, .int l1), (3, .int x31), (4, .int l4)]) C dX9_matched_106 rfl (by decide) rfl ?_
      refine q_iinc 4 (v := (l4 + (1 : Int32))) (lv' := [(4, .int (l4 + (1 : Int32))), (2, .int n34), (0, .ref l0), (1, .int l1), (3, .int x31)]) C dX9_matched_107 rfl rfl (by decide) rfl ?_
      refine q_goto (tgt := 26) C dX9_matched_110 (by decide) ?_
      exact q_sub (lv' := [(0, .ref l0), (1, .int l1), (2, .int n34), (3, .int x31), (4, .int (l4 + (1 : Int32)))]) [2, 3, 1, 4, 0] rfl (kc (n34, x31, (l4 + (1 : Int32)), M32) (someI h))
theorem w_X9_matched_l26 {X : CX} {r : Int32 × Mem} (C : CK X cX9_matched 6 RX9 13 280) (hRO : RO X.2.2.1 X.1.2.2.2.2.1 X.1.2.2.2.2.1.heap) (hl : X.1.2.1.stackTraces = false) (l0 : Nat) (l1 : Int32) (l2 : Int32) (l3 : Int32) (l4 : Int32) (M : Mem) (h : loop (fun s => F_X9_matched_s26 l0 l1 s.1 s.2.1 s.2.2.1 s.2.2.2) (l2, l3, l4, M) = some r) (kx : ∀ e' : Int32 × Mem, r = e' → wq X 6 113 [(3, .int (e'.1))] [] e'.2) : wq X 6 26 [(0, .ref l0), (1, .int l1), (2, .int l2), (3, .int l3), (4, .int l4)] [] M :=
  loop_ind (P := fun s => wq X 6 26 [(0, .ref l0), (1, .int l1), (2, .int s.1), (3, .int s.2.1), (4, .int s.2.2.1)] [] s.2.2.2) h (fun s y hy kc kr => w_X9_matched_s26 C hRO hl l0 l1 s.1 s.2.1 s.2.2.1 s.2.2.2 hy kc (fun e' he => kx e' (kr _ he).symm))
set_option maxRecDepth 100000 in
set_option maxHeartbeats 4000000 in
theorem w_X9_matched {X : CX} {y : Int32 × Mem} (C : CK X cX9_matched 6 RX9 13 280) (hRO : RO X.2.2.1 X.1.2.2.2.2.1 X.1.2.2.2.2.1.heap) (hl : X.1.2.1.stackTraces = false) (l0 : Nat) (l1 : Int32) (M : Mem) (h : F_X9_matched l0 l1 M = some y) (kf : FIN X (some .int) (rs_mI y) (ms_mI y)) : wq X 6 0 [(0, .ref l0), (1, .int l1)] [] M := by
  unfold F_X9_matched at h
  refine q_aload_n 0 C dX9_matched_0 rfl ?_
  refine q_iconst (v := (0 : Int32)) C dX9_matched_1 (by decide) ?_
  obtain ⟨M1, e2, h⟩ := bindE h
  refine q_putI C fp_RX9_111 rfl e2 dX9_matched_2 ?_
  refine q_aload_n 0 C dX9_matched_5 rfl ?_
  refine q_iload_n 1 C dX9_matched_6 rfl ?_
  obtain ⟨e3, h⟩ := ckOE h
  obtain ⟨v6, M5, e4, h⟩ := bd2E h
  refine q_callV (v := some (.int v6)) [.int l1] C hRO lk_RX9_379 vk_X9_isPerson e3 rfl rfl rfl (Nat.le_of_ble_eq_true rfl) (by decide) (by decide) dX9_matched_7 (k_X9_isPerson X.1.2.1 hl X.2.2.1 l0 l1 M1 _ e4) ?_
  refine q_if_ne (tgt := 15) C dX9_matched_10 (by decide) (fun c7 => ?_) (fun c7 => ?_)
  · have h := ifF c7 h
    refine q_aload_n 0 C dX9_matched_15 rfl ?_
    obtain ⟨e8, h⟩ := ckOE h
    obtain ⟨M10, e9, h⟩ := bindE h
    refine q_callV (v := none) [] C hRO lk_RX9_412 vk_X9_laysMatch e8 rfl rfl rfl (Nat.le_of_ble_eq_true rfl) (by decide) (by decide) dX9_matched_16 (k_X9_laysMatch X.1.2.1 hl X.2.2.1 l0 M5 _ e9) ?_
    refine q_iconst (v := (0 : Int32)) C dX9_matched_19 (by decide) ?_
    refine q_istore_n (i := 2) (lv' := [(2, .int (0 : Int32)), (0, .ref l0), (1, .int l1)]) C dX9_matched_20 rfl (by decide) rfl ?_
    refine q_iconst (v := (-1 : Int32)) C dX9_matched_21 (by decide) ?_
    refine q_istore_n (i := 3) (lv' := [(3, .int (-1 : Int32)), (2, .int (0 : Int32)), (0, .ref l0), (1, .int l1)]) C dX9_matched_22 rfl (by decide) rfl ?_
    refine q_iconst (v := (0 : Int32)) C dX9_matched_23 (by decide) ?_
    refine q_istore (i := 4) (lv' := [(4, .int (0 : Int32)), (3, .int (-1 : Int32)), (2, .int (0 : Int32)), (0, .ref l0), (1, .int l1)]) C dX9_matched_24 (by decide) rfl ?_
    obtain ⟨⟨x39, M40⟩, e38, h⟩ := bindE h
    refine q_sub (lv' := [(0, .ref l0), (1, .int l1), (2, .int (0 : Int32)), (3, .int (-1 : Int32)), (4, .int (0 : Int32))]) [3, 4, 2, 1, 0] rfl (w_X9_matched_l26 C hRO hl l0 l1 (0 : Int32) (-1 : Int32) (0 : Int32) M10 e38 (fun r37 he => ?_))
    subst he
    have h := u2E h
    show wq X 6 113 [(3, .int x39)] [] M40
    refine q_iload_n 0 C dX9_matched_113 rfl ?_
    cases h
    exact q_iret C kf dX9_matched_114
  · have h := ifT c7 h
    refine q_iconst (v := (0 : Int32)) C dX9_matched_13 (by decide) ?_
    cases h
    exact q_iret C kf dX9_matched_14
theorem k_X9_matched (l : Launch) (hl : l.stackTraces = false) (G : GG) (l0 : Nat) (l1 : Int32) (M : Mem) (x : Int32 × Mem) (h : F_X9_matched l0 l1 M = some x) : Ct l G yX9_matched (.code yX9_matched cX9_matched 6 (some .int)) 13 280 [.ref l0, .int l1] M (rs_mI x) (ms_mI x) := by
  refine Ct_of (by decide +kernel) (Nat.le_of_ble_eq_true rfl) fun X e1 e2 e3 C FN hnm => ?_
  subst e1; subst e2
  show wq X 6 0 [(0, .ref l0), (1, .int l1)] [] M
  exact w_X9_matched C FN.2.2.2 hl l0 l1 M h FN
/-! X9_next -/
set_option maxRecDepth 100000 in
set_option maxHeartbeats 4000000 in
theorem w_X9_next_s45 {X : CX} {y : (Int32 × Mem) ⊕ (Mem)} (C : CK X cX9_next 10 RX9 14 301) (hRO : RO X.2.2.1 X.1.2.2.2.2.1 X.1.2.2.2.2.1.heap) (hl : X.1.2.1.stackTraces = false) (l0 : Nat) (l1 : Int32) (l2 : Int32) (l3 : Int32) (l4 : Int32) (M : Mem) (h : F_X9_next_s45 l0 l2 l4 M = some y) (kc : ∀ s' : Int32 × Mem, y = .inl s' → wq X 10 45 [(0, .ref l0), (1, .int l1), (2, .int l2), (3, .int l3), (4, .int (s'.1))] [] s'.2) (kx : ∀ e' : Mem, y = (.inr e') → wq X 10 79 [(0, .ref l0), (1, .int l1), (2, .int l2), (3, .int l3)] [] e') : wq X 10 45 [(0, .ref l0), (1, .int l1), (2, .int l2), (3, .int l3), (4, .int l4)] [] M := by
  unfold F_X9_next_s45 at h
  refine q_iload 4 C dX9_next_45 rfl ?_
  refine q_aload_n 0 C dX9_next_47 rfl ?_
  obtain ⟨v16, e17, h⟩ := bindE h
  refine q_getI C fl_RX9_275 rfl e17 dX9_next_48 ?_
  refine q_icmp_ge (tgt := 79) C dX9_next_51 (by decide) (fun c18 => ?_) (fun c18 => ?_)
  · have h := ifT c18 h
    exact q_sub (lv' := [(0, .ref l0), (1, .int l1), (2, .int l2), (3, .int l3)]) [0, 1, 2, 3] rfl (kx M (someI h))
  · have h := ifF c18 h
    refine q_aload_n 0 C dX9_next_54 rfl ?_
    obtain ⟨v19, e20, h⟩ := bindE h
    refine q_getP C fl_RX9_99 rfl e20 dX9_next_55 ?_
    refine q_bipush (v := (8 : Int32)) C dX9_next_58 (by decide) ?_
    refine q_iload_n 2 C dX9_next_60 rfl ?_
    refine q_imul C dX9_next_61 ?_
    refine q_iload 4 C dX9_next_62 rfl ?_
    refine q_iadd C dX9_next_64 ?_
    refine q_aload_n 0 C dX9_next_65 rfl ?_
    obtain ⟨v21, e22, h⟩ := bindE h
    refine q_getP C fl_RX9_96 rfl e22 dX9_next_66 ?_
    refine q_iload 4 C dX9_next_69 rfl ?_
    obtain ⟨v23, e24, h⟩ := bindE h
    refine q_iaload C e24 dX9_next_71 ?_
    obtain ⟨M25, e26, h⟩ := bindE h
    refine q_iastore C e26 dX9_next_72 ?_
    refine q_iinc 4 (v := (l4 + (1 : Int32))) (lv' := [(4, .int (l4 + (1 : Int32))), (0, .ref l0), (1, .int l1), (2, .int l2), (3, .int l3)]) C dX9_next_73 rfl rfl (by decide) rfl ?_
    refine q_goto (tgt := 45) C dX9_next_76 (by decide) ?_
    exact q_sub (lv' := [(0, .ref l0), (1, .int l1), (2, .int l2), (3, .int l3), (4, .int (l4 + (1 : Int32)))]) [1, 2, 3, 4, 0] rfl (kc ((l4 + (1 : Int32)), M25) (someI h))
theorem w_X9_next_l45 {X : CX} {r : Mem} (C : CK X cX9_next 10 RX9 14 301) (hRO : RO X.2.2.1 X.1.2.2.2.2.1 X.1.2.2.2.2.1.heap) (hl : X.1.2.1.stackTraces = false) (l0 : Nat) (l1 : Int32) (l2 : Int32) (l3 : Int32) (l4 : Int32) (M : Mem) (h : loop (fun s => F_X9_next_s45 l0 l2 s.1 s.2) (l4, M) = some r) (kx : ∀ e' : Mem, r = e' → wq X 10 79 [(0, .ref l0), (1, .int l1), (2, .int l2), (3, .int l3)] [] e') : wq X 10 45 [(0, .ref l0), (1, .int l1), (2, .int l2), (3, .int l3), (4, .int l4)] [] M :=
  loop_ind (P := fun s => wq X 10 45 [(0, .ref l0), (1, .int l1), (2, .int l2), (3, .int l3), (4, .int s.1)] [] s.2) h (fun s y hy kc kr => w_X9_next_s45 C hRO hl l0 l1 l2 l3 s.1 s.2 hy kc (fun e' he => kx e' (kr _ he).symm))
set_option maxRecDepth 100000 in
set_option maxHeartbeats 4000000 in
theorem w_X9_next_s20 {X : CX} {y : (Int32 × Int32 × Mem) ⊕ (Int32 × Mem)} (C : CK X cX9_next 10 RX9 14 301) (hRO : RO X.2.2.1 X.1.2.2.2.2.1 X.1.2.2.2.2.1.heap) (hl : X.1.2.1.stackTraces = false) (l0 : Nat) (l1 : Int32) (l2 : Int32) (l3 : Int32) (M : Mem) (h : F_X9_next_s20 l0 l2 l3 M = some y) (kc : ∀ s' : Int32 × Int32 × Mem, y = .inl s' → wq X 10 20 [(0, .ref l0), (1, .int l1), (2, .int (s'.1)), (3, .int (s'.2.1))] [] s'.2.2) (kx : ∀ e' : Int32 × Mem, y = (.inr e') → wq X 10 88 [(0, .ref l0), (1, .int l1), (2, .int (e'.1))] [] e'.2) : wq X 10 20 [(0, .ref l0), (1, .int l1), (2, .int l2), (3, .int l3)] [] M := by
  unfold F_X9_next_s20 at h
  refine q_iload_n 3 C dX9_next_20 rfl ?_
  refine q_bipush (v := (60 : Int32)) C dX9_next_21 (by decide) ?_
  refine q_aload_n 0 C dX9_next_23 rfl ?_
  obtain ⟨v8, e9, h⟩ := bindE h
  refine q_getI C fl_RX9_278 rfl e9 dX9_next_24 ?_
  refine q_imul C dX9_next_27 ?_
  refine q_icmp_ge (tgt := 88) C dX9_next_28 (by decide) (fun c10 => ?_) (fun c10 => ?_)
  · have h := ifT c10 h
    exact q_sub (lv' := [(0, .ref l0), (1, .int l1), (2, .int l2)]) [0, 1, 2] rfl (kx (l2, M) (someI h))
  · have h := ifF c10 h
    refine q_aload_n 0 C dX9_next_31 rfl ?_
    refine q_iload_n 3 C dX9_next_32 rfl ?_
    obtain ⟨e11, h⟩ := ckOE h
    obtain ⟨v14, M13, e12, h⟩ := bd2E h
    refine q_callV (v := some (.int v14)) [.int l3] C hRO lk_RX9_427 vk_X9_isGuess e11 rfl rfl rfl (Nat.le_of_ble_eq_true rfl) (by decide) (by decide) dX9_next_33 (k_X9_isGuess X.1.2.1 hl X.2.2.1 l0 l3 M _ e12) ?_
    refine q_if_ne (tgt := 42) C dX9_next_36 (by decide) (fun c15 => ?_) (fun c15 => ?_)
    · have h := ifF c15 h
      refine q_iconst (v := (0 : Int32)) C dX9_next_42 (by decide) ?_
      refine q_istore (i := 4) (lv' := [(4, .int (0 : Int32)), (0, .ref l0), (1, .int l1), (2, .int l2), (3, .int l3)]) C dX9_next_43 (by decide) rfl ?_
      obtain ⟨M29, e28, h⟩ := bindE h
      refine q_sub (lv' := [(0, .ref l0), (1, .int l1), (2, .int l2), (3, .int l3), (4, .int (0 : Int32))]) [1, 2, 3, 4, 0] rfl (w_X9_next_l45 C hRO hl l0 l1 l2 l3 (0 : Int32) M13 e28 (fun r27 he => ?_))
      subst he
      show wq X 10 79 [(0, .ref l0), (1, .int l1), (2, .int l2), (3, .int l3)] [] M29
      refine q_iinc 2 (v := (l2 + (1 : Int32))) (lv' := [(2, .int (l2 + (1 : Int32))), (0, .ref l0), (1, .int l1), (3, .int l3)]) C dX9_next_79 rfl rfl (by decide) rfl ?_
      refine q_iinc 3 (v := (l3 + (1 : Int32))) (lv' := [(3, .int (l3 + (1 : Int32))), (2, .int (l2 + (1 : Int32))), (0, .ref l0), (1, .int l1)]) C dX9_next_82 rfl rfl (by decide) rfl ?_
      refine q_goto (tgt := 20) C dX9_next_85 (by decide) ?_
      exact q_sub (lv' := [(0, .ref l0), (1, .int l1), (2, .int (l2 + (1 : Int32))), (3, .int (l3 + (1 : Int32)))]) [2, 3, 1, 0] rfl (kc ((l2 + (1 : Int32)), (l3 + (1 : Int32)), M29) (someI h))
    · have h := ifT c15 h
      refine q_goto (tgt := 82) C dX9_next_39 (by decide) ?_
      refine q_iinc 3 (v := (l3 + (1 : Int32))) (lv' := [(3, .int (l3 + (1 : Int32))), (0, .ref l0), (1, .int l1), (2, .int l2)]) C dX9_next_82 rfl rfl (by decide) rfl ?_
      refine q_goto (tgt := 20) C dX9_next_85 (by decide) ?_
      exact q_sub (lv' := [(0, .ref l0), (1, .int l1), (2, .int l2), (3, .int (l3 + (1 : Int32)))]) [1, 2, 3, 0] rfl (kc (l2, (l3 + (1 : Int32)), M13) (someI h))
theorem w_X9_next_l20 {X : CX} {r : Int32 × Mem} (C : CK X cX9_next 10 RX9 14 301) (hRO : RO X.2.2.1 X.1.2.2.2.2.1 X.1.2.2.2.2.1.heap) (hl : X.1.2.1.stackTraces = false) (l0 : Nat) (l1 : Int32) (l2 : Int32) (l3 : Int32) (M : Mem) (h : loop (fun s => F_X9_next_s20 l0 s.1 s.2.1 s.2.2) (l2, l3, M) = some r) (kx : ∀ e' : Int32 × Mem, r = e' → wq X 10 88 [(0, .ref l0), (1, .int l1), (2, .int (e'.1))] [] e'.2) : wq X 10 20 [(0, .ref l0), (1, .int l1), (2, .int l2), (3, .int l3)] [] M :=
  loop_ind (P := fun s => wq X 10 20 [(0, .ref l0), (1, .int l1), (2, .int s.1), (3, .int s.2.1)] [] s.2.2) h (fun s y hy kc kr => w_X9_next_s20 C hRO hl l0 l1 s.1 s.2.1 s.2.2 hy kc (fun e' he => kx e' (kr _ he).symm))
set_option maxRecDepth 100000 in
set_option maxHeartbeats 4000000 in
theorem w_X9_next_s123 {X : CX} {y : (Int32 × Int32) ⊕ (Int32)} (C : CK X cX9_next 10 RX9 14 301) (hRO : RO X.2.2.1 X.1.2.2.2.2.1 X.1.2.2.2.2.1.heap) (hl : X.1.2.1.stackTraces = false) (l0 : Nat) (l1 : Int32) (l2 : Int32) (l3 : Int32) (l4 : Int32) (l5 : Int32) (l6 : Int32) (l7 : Int32) (M : Mem) (l8 : Int32) (l9 : Int32) (h : F_X9_next_s123 l0 l5 l7 M l8 l9 = some y) (kc : ∀ s' : Int32 × Int32, y = .inl s' → wq X 10 123 [(0, .ref l0), (1, .int l1), (2, .int l2), (3, .int l3), (4, .int l4), (5, .int l5), (6, .int l6), (7, .int l7), (8, .int (s'.1)), (9, .int (s'.2))] [] M) (kx : ∀ e' : Int32, y = (.inr e') → wq X 10 177 [(0, .ref l0), (1, .int l1), (2, .int l2), (3, .int l3), (4, .int l4), (5, .int l5), (6, .int l6), (7, .int l7), (8, .int (e'))] [] M) : wq X 10 123 [(0, .ref l0), (1, .int l1), (2, .int l2), (3, .int l3), (4, .int l4), (5, .int l5), (6, .int l6), (7, .int l7), (8, .int l8), (9, .int l9)] [] M := by
  unfold F_X9_next_s123 at h
  refine q_iload 9 C dX9_next_123 rfl ?_
  refine q_iload 7 C dX9_next_125 rfl ?_
  refine q_icmp_ge (tgt := 177) C dX9_next_127 (by decide) (fun c39 => ?_) (fun c39 => ?_)
  · have h := ifT c39 h
    exact q_sub (lv' := [(0, .ref l0), (1, .int l1), (2, .int l2), (3, .int l3), (4, .int l4), (5, .int l5), (6, .int l6), (7, .int l7), (8, .int l8)]) [0, 1, 2, 3, 4, 5, 6, 7, 8] rfl (kx l8 (someI h))
  · have h := ifF c39 h
    refine q_iload 8 C dX9_next_130 rfl ?_
    refine q_if_eq (tgt := 177) C dX9_next_132 (by decide) (fun c40 => ?_) (fun c40 => ?_)
    · have h := ifT c40 h
      exact q_sub (lv' := [(0, .ref l0), (1, .int l1), (2, .int l2), (3, .int l3), (4, .int l4), (5, .int l5), (6, .int l6), (7, .int l7), (8, .int l8)]) [0, 1, 2, 3, 4, 5, 6, 7, 8] rfl (kx l8 (someI h))
    · have h := ifF c40 h
      refine q_aload_n 0 C dX9_next_135 rfl ?_
      obtain ⟨v41, e42, h⟩ := bindE h
      refine q_getP C fl_RX9_99 rfl e42 dX9_next_136 ?_
      refine q_bipush (v := (8 : Int32)) C dX9_next_139 (by decide) ?_
      refine q_iload 7 C dX9_next_141 rfl ?_
      refine q_imul C dX9_next_143 ?_
      refine q_iload 5 C dX9_next_144 rfl ?_
      refine q_iadd C dX9_next_146 ?_
      obtain ⟨v43, e44, h⟩ := bindE h
      refine q_iaload C e44 dX9_next_147 ?_
      refine q_aload_n 0 C dX9_next_148 rfl ?_
      obtain ⟨v45, e46, h⟩ := bindE h
      refine q_getP C fl_RX9_99 rfl e46 dX9_next_149 ?_
      refine q_bipush (v := (8 : Int32)) C dX9_next_152 (by decide) ?_
      refine q_iload 9 C dX9_next_154 rfl ?_
      refine q_imul C dX9_next_156 ?_
      refine q_iload 5 C dX9_next_157 rfl ?_
      refine q_iadd C dX9_next_159 ?_
      obtain ⟨v47, e48, h⟩ := bindE h
      refine q_iaload C e48 dX9_next_160 ?_
      refine q_icmp_eq (tgt := 168) C dX9_next_161 (by decide) (fun c49 => ?_) (fun c49 => ?_)
      · have h := ifT c49 h
        refine q_iconst (v := (0 : Int32)) C dX9_next_168 (by decide) ?_
        refine q_istore (i := 8) (lv' := [(8, .int (0 : Int32)), (0, .ref l0), (1, .int l1), (2, .int l2), (3, .int l3), (4, .int l4), (5, .int l5), (6, .int l6), (7, .int l7), (9, .int l9)]) C dX9_next_169 (by decide) rfl ?_
        refine q_iinc 9 (v := (l9 + (1 : Int32))) (lv' := [(9, .int (l9 + (1 : Int32))), (8, .int (0 : Int32)), (0, .ref l0), (1, .int l1), (2, .int l2), (3, .int l3), (4, .int l4), (5, .int l5), (6, .int l6), (7, .int l7)]) C dX9_next_171 rfl rfl (by decide) rfl ?_
        refine q_goto (tgt := 123) C dX9_next_174 (by decide) ?_
        exact q_sub (lv' := [(0, .ref l0), (1, .int l1), (2, .int l2), (3, .int l3), (4, .int l4), (5, .int l5), (6, .int l6), (7, .int l7), (8, .int (0 : Int32)), (9, .int (l9 + (1 : Int32)))]) [2, 3, 4, 5, 6, 7, 8, 9, 1, 0] rfl (kc ((0 : Int32), (l9 + (1 : Int32))) (someI h))
      · have h := ifF c49 h
        refine q_iconst (v := (1 : Int32)) C dX9_next_164 (by decide) ?_
        refine q_goto (tgt := 169) C dX9_next_165 (by decide) ?_
        refine q_istore (i := 8) (lv' := [(8, .int (1 : Int32)), (0, .ref l0), (1, .int l1), (2, .int l2), (3, .int l3), (4, .int l4), (5, .int l5), (6, .int l6), (7, .int l7), (9, .int l9)]) C dX9_next_169 (by decide) rfl ?_
        refine q_iinc 9 (v := (l9 + (1 : Int32))) (lv' := [(9, .int (l9 + (1 : Int32))), (8, .int (1 : Int32)), (0, .ref l0), (1, .int l1), (2, .int l2), (3, .int l3), (4, .int l4), (5, .int l5), (6, .int l6), (7, .int l7)]) C dX9_next_171 rfl rfl (by decide) rfl ?_
        refine q_goto (tgt := 123) C dX9_next_174 (by decide) ?_
        exact q_sub (lv' := [(0, .ref l0), (1, .int l1), (2, .int l2), (3, .int l3), (4, .int l4), (5, .int l5), (6, .int l6), (7, .int l7), (8, .int (1 : Int32)), (9, .int (l9 + (1 : Int32)))]) [2, 3, 4, 5, 6, 7, 8, 9, 1, 0] rfl (kc ((1 : Int32), (l9 + (1 : Int32))) (someI h))
theorem w_X9_next_l123 {X : CX} {r : Int32} (C : CK X cX9_next 10 RX9 14 301) (hRO : RO X.2.2.1 X.1.2.2.2.2.1 X.1.2.2.2.2.1.heap) (hl : X.1.2.1.stackTraces = false) (l0 : Nat) (l1 : Int32) (l2 : Int32) (l3 : Int32) (l4 : Int32) (l5 : Int32) (l6 : Int32) (l7 : Int32) (M : Mem) (l8 : Int32) (l9 : Int32) (h : loop (fun s => F_X9_next_s123 l0 l5 l7 M s.1 s.2) (l8, l9) = some r) (kx : ∀ e' : Int32, r = e' → wq X 10 177 [(0, .ref l0), (1, .int l1), (2, .int l2), (3, .int l3), (4, .int l4), (5, .int l5), (6, .int l6), (7, .int l7), (8, .int (e'))] [] M) : wq X 10 123 [(0, .ref l0), (1, .int l1), (2, .int l2), (3, .int l3), (4, .int l4), (5, .int l5), (6, .int l6), (7, .int l7), (8, .int l8), (9, .int l9)] [] M :=
  loop_ind (P := fun s => wq X 10 123 [(0, .ref l0), (1, .int l1), (2, .int l2), (3, .int l3), (4, .int l4), (5, .int l5), (6, .int l6), (7, .int l7), (8, .int s.1), (9, .int s.2)] [] M) h (fun s y hy kc kr => w_X9_next_s123 C hRO hl l0 l1 l2 l3 l4 l5 l6 l7 M s.1 s.2 hy kc (fun e' he => kx e' (kr _ he).symm))
set_option maxRecDepth 100000 in
set_option maxHeartbeats 4000000 in
theorem w_X9_next_j177_111 {X : CX} {y : (Int32 × Int32) ⊕ (Int32)} (C : CK X cX9_next 10 RX9 14 301) (hRO : RO X.2.2.1 X.1.2.2.2.2.1 X.1.2.2.2.2.1.heap) (hl : X.1.2.1.stackTraces = false) (l0 : Nat) (l1 : Int32) (l2 : Int32) (l3 : Int32) (l4 : Int32) (l5 : Int32) (l6 : Int32) (l7 : Int32) (l8 : Int32) (M : Mem) (h : F_X9_next_j177_111 l0 l2 l5 l6 l7 l8 M = some y) (kc : ∀ s' : Int32 × Int32, y = .inl s' → wq X 10 111 [(0, .ref l0), (1, .int l1), (2, .int l2), (3, .int l3), (4, .int l4), (5, .int l5), (6, .int (s'.1)), (7, .int (s'.2))] [] M) (kx : ∀ e' : Int32, y = (.inr e') → wq X 10 198 [(0, .ref l0), (1, .int l1), (2, .int l2), (3, .int l3), (4, .int l4), (5, .int l5), (6, .int (e'))] [] M) : wq X 10 177 [(0, .ref l0), (1, .int l1), (2, .int l2), (3, .int l3), (4, .int l4), (5, .int l5), (6, .int l6), (7, .int l7), (8, .int l8)] [] M := by
  unfold F_X9_next_j177_111 at h
  refine q_iload 6 C dX9_next_177 rfl ?_
  refine q_iload 8 C dX9_next_179 rfl ?_
  refine q_if_eq (tgt := 188) C dX9_next_181 (by decide) (fun c53 => ?_) (fun c53 => ?_)
  · have h := ifT c53 h
    refine q_iconst (v := (0 : Int32)) C dX9_next_188 (by decide) ?_
    refine q_iadd C dX9_next_189 ?_
    refine q_istore (i := 6) (lv' := [(6, .int (l6 + (0 : Int32))), (0, .ref l0), (1, .int l1), (2, .int l2), (3, .int l3), (4, .int l4), (5, .int l5), (7, .int l7), (8, .int l8)]) C dX9_next_190 (by decide) rfl ?_
    refine q_iinc 7 (v := (l7 + (1 : Int32))) (lv' := [(7, .int (l7 + (1 : Int32))), (6, .int (l6 + (0 : Int32))), (0, .ref l0), (1, .int l1), (2, .int l2), (3, .int l3), (4, .int l4), (5, .int l5), (8, .int l8)]) C dX9_next_192 rfl rfl (by decide) rfl ?_
    refine q_goto (tgt := 111) C dX9_next_195 (by decide) ?_
    exact q_sub (lv' := [(0, .ref l0), (1, .int l1), (2, .int l2), (3, .int l3), (4, .int l4), (5, .int l5), (6, .int (l6 + (0 : Int32))), (7, .int (l7 + (1 : Int32)))]) [2, 3, 4, 5, 6, 7, 1, 0] rfl (kc ((l6 + (0 : Int32)), (l7 + (1 : Int32))) (someI h))
  · have h := ifF c53 h
    refine q_iconst (v := (1 : Int32)) C dX9_next_184 (by decide) ?_
    refine q_goto (tgt := 189) C dX9_next_185 (by decide) ?_
    refine q_iadd C dX9_next_189 ?_
    refine q_istore (i := 6) (lv' := [(6, .int (l6 + (1 : Int32))), (0, .ref l0), (1, .int l1), (2, .int l2), (3, .int l3), (4, .int l4), (5, .int l5), (7, .int l7), (8, .int l8)]) C dX9_next_190 (by decide) rfl ?_
    refine q_iinc 7 (v := (l7 + (1 : Int32))) (lv' := [(7, .int (l7 + (1 : Int32))), (6, .int (l6 + (1 : Int32))), (0, .ref l0), (1, .int l1), (2, .int l2), (3, .int l3), (4, .int l4), (5, .int l5), (8, .int l8)]) C dX9_next_192 rfl rfl (by decide) rfl ?_
    refine q_goto (tgt := 111) C dX9_next_195 (by decide) ?_
    exact q_sub (lv' := [(0, .ref l0), (1, .int l1), (2, .int l2), (3, .int l3), (4, .int l4), (5, .int l5), (6, .int (l6 + (1 : Int32))), (7, .int (l7 + (1 : Int32)))]) [2, 3, 4, 5, 6, 7, 1, 0] rfl (kc ((l6 + (1 : Int32)), (l7 + (1 : Int32))) (someI h))
set_option maxRecDepth 100000 in
set_option maxHeartbeats 4000000 in
theorem w_X9_next_s111 {X : CX} {y : (Int32 × Int32) ⊕ (Int32)} (C : CK X cX9_next 10 RX9 14 301) (hRO : RO X.2.2.1 X.1.2.2.2.2.1 X.1.2.2.2.2.1.heap) (hl : X.1.2.1.stackTraces = false) (l0 : Nat) (l1 : Int32) (l2 : Int32) (l3 : Int32) (l4 : Int32) (l5 : Int32) (M : Mem) (l6 : Int32) (l7 : Int32) (h : F_X9_next_s111 l0 l2 l5 M l6 l7 = some y) (kc : ∀ s' : Int32 × Int32, y = .inl s' → wq X 10 111 [(0, .ref l0), (1, .int l1), (2, .int l2), (3, .int l3), (4, .int l4), (5, .int l5), (6, .int (s'.1)), (7, .int (s'.2))] [] M) (kx : ∀ e' : Int32, y = (.inr e') → wq X 10 198 [(0, .ref l0), (1, .int l1), (2, .int l2), (3, .int l3), (4, .int l4), (5, .int l5), (6, .int (e'))] [] M) : wq X 10 111 [(0, .ref l0), (1, .int l1), (2, .int l2), (3, .int l3), (4, .int l4), (5, .int l5), (6, .int l6), (7, .int l7)] [] M := by
  unfold F_X9_next_s111 at h
  refine q_iload 7 C dX9_next_111 rfl ?_
  refine q_iload_n 2 C dX9_next_113 rfl ?_
  refine q_icmp_ge (tgt := 198) C dX9_next_114 (by decide) (fun c38 => ?_) (fun c38 => ?_)
  · have h := ifT c38 h
    exact q_sub (lv' := [(0, .ref l0), (1, .int l1), (2, .int l2), (3, .int l3), (4, .int l4), (5, .int l5), (6, .int l6)]) [0, 1, 2, 3, 4, 5, 6] rfl (kx l6 (someI h))
  · have h := ifF c38 h
    refine q_iconst (v := (1 : Int32)) C dX9_next_117 (by decide) ?_
    refine q_istore (i := 8) (lv' := [(8, .int (1 : Int32)), (0, .ref l0), (1, .int l1), (2, .int l2), (3, .int l3), (4, .int l4), (5, .int l5), (6, .int l6), (7, .int l7)]) C dX9_next_118 (by decide) rfl ?_
    refine q_iconst (v := (0 : Int32)) C dX9_next_120 (by decide) ?_
    refine q_istore (i := 9) (lv' := [(9, .int (0 : Int32)), (8, .int (1 : Int32)), (0, .ref l0), (1, .int l1), (2, .int l2), (3, .int l3), (4, .int l4), (5, .int l5), (6, .int l6), (7, .int l7)]) C dX9_next_121 (by decide) rfl ?_
    obtain ⟨x52, e51, h⟩ := bindE h
    refine q_sub (lv' := [(0, .ref l0), (1, .int l1), (2, .int l2), (3, .int l3), (4, .int l4), (5, .int l5), (6, .int l6), (7, .int l7), (8, .int (1 : Int32)), (9, .int (0 : Int32))]) [2, 3, 4, 5, 6, 7, 8, 9, 1, 0] rfl (w_X9_next_l123 C hRO hl l0 l1 l2 l3 l4 l5 l6 l7 M (1 : Int32) (0 : Int32) e51 (fun r50 he => ?_))
    subst he
    show wq X 10 177 [(0, .ref l0), (1, .int l1), (2, .int l2), (3, .int l3), (4, .int l4), (5, .int l5), (6, .int l6), (7, .int l7), (8, .int x52)] [] M
    exact q_sub (lv' := [(0, .ref l0), (1, .int l1), (2, .int l2), (3, .int l3), (4, .int l4), (5, .int l5), (6, .int l6), (7, .int l7), (8, .int x52)]) [0, 1, 2, 3, 4, 5, 6, 7, 8] rfl (w_X9_next_j177_111 C hRO hl l0 l1 l2 l3 l4 l5 l6 l7 x52 M h kc kx)
theorem w_X9_next_l111 {X : CX} {r : Int32} (C : CK X cX9_next 10 RX9 14 301) (hRO : RO X.2.2.1 X.1.2.2.2.2.1 X.1.2.2.2.2.1.heap) (hl : X.1.2.1.stackTraces = false) (l0 : Nat) (l1 : Int32) (l2 : Int32) (l3 : Int32) (l4 : Int32) (l5 : Int32) (M : Mem) (l6 : Int32) (l7 : Int32) (h : loop (fun s => F_X9_next_s111 l0 l2 l5 M s.1 s.2) (l6, l7) = some r) (kx : ∀ e' : Int32, r = e' → wq X 10 198 [(0, .ref l0), (1, .int l1), (2, .int l2), (3, .int l3), (4, .int l4), (5, .int l5), (6, .int (e'))] [] M) : wq X 10 111 [(0, .ref l0), (1, .int l1), (2, .int l2), (3, .int l3), (4, .int l4), (5, .int l5), (6, .int l6), (7, .int l7)] [] M :=
  loop_ind (P := fun s => wq X 10 111 [(0, .ref l0), (1, .int l1), (2, .int l2), (3, .int l3), (4, .int l4), (5, .int l5), (6, .int s.1), (7, .int s.2)] [] M) h (fun s y hy kc kr => w_X9_next_s111 C hRO hl l0 l1 l2 l3 l4 l5 M s.1 s.2 hy kc (fun e' he => kx e' (kr _ he).symm))
set_option maxRecDepth 100000 in
set_option maxHeartbeats 4000000 in
theorem w_X9_next_s96 {X : CX} {y : (Int32 × Int32 × Int32) ⊕ (Int32 × Int32)} (C : CK X cX9_next 10 RX9 14 301) (hRO : RO X.2.2.1 X.1.2.2.2.2.1 X.1.2.2.2.2.1.heap) (hl : X.1.2.1.stackTraces = false) (l0 : Nat) (l1 : Int32) (l2 : Int32) (M : Mem) (l3 : Int32) (l4 : Int32) (l5 : Int32) (h : F_X9_next_s96 l0 l2 M l3 l4 l5 = some y) (kc : ∀ s' : Int32 × Int32 × Int32, y = .inl s' → wq X 10 96 [(0, .ref l0), (1, .int l1), (2, .int l2), (3, .int (s'.1)), (4, .int (s'.2.1)), (5, .int (s'.2.2))] [] M) (kx : ∀ e' : Int32 × Int32, y = (.inr e') → wq X 10 221 [(1, .int l1), (3, .int (e'.1)), (4, .int (e'.2))] [] M) : wq X 10 96 [(0, .ref l0), (1, .int l1), (2, .int l2), (3, .int l3), (4, .int l4), (5, .int l5)] [] M := by
  unfold F_X9_next_s96 at h
  refine q_iload 5 C dX9_next_96 rfl ?_
  refine q_aload_n 0 C dX9_next_98 rfl ?_
  obtain ⟨v35, e36, h⟩ := bindE h
  refine q_getI C fl_RX9_275 rfl e36 dX9_next_99 ?_
  refine q_icmp_ge (tgt := 221) C dX9_next_102 (by decide) (fun c37 => ?_) (fun c37 => ?_)
  · have h := ifT c37 h
    exact q_sub (lv' := [(1, .int l1), (3, .int l3), (4, .int l4)]) [1, 3, 4] rfl (kx (l3, l4) (someI h))
  · have h := ifF c37 h
    refine q_iconst (v := (0 : Int32)) C dX9_next_105 (by decide) ?_
    refine q_istore (i := 6) (lv' := [(6, .int (0 : Int32)), (0, .ref l0), (1, .int l1), (2, .int l2), (3, .int l3), (4, .int l4), (5, .int l5)]) C dX9_next_106 (by decide) rfl ?_
    refine q_iconst (v := (0 : Int32)) C dX9_next_108 (by decide) ?_
    refine q_istore (i := 7) (lv' := [(7, .int (0 : Int32)), (6, .int (0 : Int32)), (0, .ref l0), (1, .int l1), (2, .int l2), (3, .int l3), (4, .int l4), (5, .int l5)]) C dX9_next_109 (by decide) rfl ?_
    obtain ⟨x57, e56, h⟩ := bindE h
    refine q_sub (lv' := [(0, .ref l0), (1, .int l1), (2, .int l2), (3, .int l3), (4, .int l4), (5, .int l5), (6, .int (0 : Int32)), (7, .int (0 : Int32))]) [2, 3, 4, 5, 6, 7, 1, 0] rfl (w_X9_next_l111 C hRO hl l0 l1 l2 l3 l4 l5 M (0 : Int32) (0 : Int32) e56 (fun r55 he => ?_))
    subst he
    show wq X 10 198 [(0, .ref l0), (1, .int l1), (2, .int l2), (3, .int l3), (4, .int l4), (5, .int l5), (6, .int x57)] [] M
    refine q_iload 6 C dX9_next_198 rfl ?_
    refine q_iload 4 C dX9_next_200 rfl ?_
    refine q_icmp_gt (tgt := 208) C dX9_next_202 (by decide) (fun c58 => ?_) (fun c58 => ?_)
    · have h := ifT c58 h
      refine q_iload 5 C dX9_next_208 rfl ?_
      refine q_istore_n (i := 3) (lv' := [(3, .int l5), (0, .ref l0), (1, .int l1), (2, .int l2), (4, .int l4), (5, .int l5), (6, .int x57)]) C dX9_next_210 rfl (by decide) rfl ?_
      refine q_iload 6 C dX9_next_211 rfl ?_
      refine q_istore (i := 4) (lv' := [(4, .int x57), (3, .int l5), (0, .ref l0), (1, .int l1), (2, .int l2), (5, .int l5), (6, .int x57)]) C dX9_next_213 (by decide) rfl ?_
      refine q_iinc 5 (v := (l5 + (1 : Int32))) (lv' := [(5, .int (l5 + (1 : Int32))), (4, .int x57), (3, .int l5), (0, .ref l0), (1, .int l1), (2, .int l2), (6, .int x57)]) C dX9_next_215 rfl rfl (by decide) rfl ?_
      refine q_goto (tgt := 96) C dX9_next_218 (by decide) ?_
      exact q_sub (lv' := [(0, .ref l0), (1, .int l1), (2, .int l2), (3, .int l5), (4, .int x57), (5, .int (l5 + (1 : Int32)))]) [3, 4, 5, 2, 1, 0] rfl (kc (l5, x57, (l5 + (1 : Int32))) (someI h))
    · have h := ifF c58 h
      refine q_goto (tgt := 215) C dX9_next_205 (by decide) ?_
      refine q_iinc 5 (v := (l5 + (1 : Int32))) (lv' := [(5, .int (l5 + (1 : Int32))), (0, .ref l0), (1, .int l1), (2, .int l2), (3, .int l3), (4, .int l4), (6, .int x57)]) C dX9_next_215 rfl rfl (by decide) rfl ?_
      refine q_goto (tgt := 96) C dX9_next_218 (by decide) ?_
      exact q_sub (lv' := [(0, .ref l0), (1, .int l1), (2, .int l2), (3, .int l3), (4, .int l4), (5, .int (l5 + (1 : Int32)))]) [1, 2, 3, 4, 5, 0] rfl (kc (l3, l4, (l5 + (1 : Int32))) (someI h))
theorem w_X9_next_l96 {X : CX} {r : Int32 × Int32} (C : CK X cX9_next 10 RX9 14 301) (hRO : RO X.2.2.1 X.1.2.2.2.2.1 X.1.2.2.2.2.1.heap) (hl : X.1.2.1.stackTraces = false) (l0 : Nat) (l1 : Int32) (l2 : Int32) (M : Mem) (l3 : Int32) (l4 : Int32) (l5 : Int32) (h : loop (fun s => F_X9_next_s96 l0 l2 M s.1 s.2.1 s.2.2) (l3, l4, l5) = some r) (kx : ∀ e' : Int32 × Int32, r = e' → wq X 10 221 [(1, .int l1), (3, .int (e'.1)), (4, .int (e'.2))] [] M) : wq X 10 96 [(0, .ref l0), (1, .int l1), (2, .int l2), (3, .int l3), (4, .int l4), (5, .int l5)] [] M :=
  loop_ind (P := fun s => wq X 10 96 [(0, .ref l0), (1, .int l1), (2, .int l2), (3, .int s.1), (4, .int s.2.1), (5, .int s.2.2)] [] M) h (fun s y hy kc kr => w_X9_next_s96 C hRO hl l0 l1 l2 M s.1 s.2.1 s.2.2 hy kc (fun e' he => kx e' (kr _ he).symm))
set_option maxRecDepth 100000 in
set_option maxHeartbeats 4000000 in
theorem w_X9_next {X : CX} {y : Int32 × Mem} (C : CK X cX9_next 10 RX9 14 301) (hRO : RO X.2.2.1 X.1.2.2.2.2.1 X.1.2.2.2.2.1.heap) (hl : X.1.2.1.stackTraces = false) (l0 : Nat) (l1 : Int32) (M : Mem) (h : F_X9_next l0 l1 M = some y) (kf : FIN X (some .int) (rs_mI y) (ms_mI y)) : wq X 10 0 [(0, .ref l0), (1, .int l1)] [] M := by
  unfold F_X9_next at h
  refine q_aload_n 0 C dX9_next_0 rfl ?_
  refine q_iconst (v := (0 : Int32)) C dX9_next_1 (by decide) ?_
  obtain ⟨M1, e2, h⟩ := bindE h
  refine q_putI C fp_RX9_111 rfl e2 dX9_next_2 ?_
  refine q_aload_n 0 C dX9_next_5 rfl ?_
  refine q_iload_n 1 C dX9_next_6 rfl ?_
  refine q_iconst (v := (1 : Int32)) C dX9_next_7 (by decide) ?_
  obtain ⟨e3, h⟩ := ckOE h
  obtain ⟨v6, M5, e4, h⟩ := bd2E h
  refine q_callV (v := some (.int v6)) [.int l1, .int (1 : Int32)] C hRO lk_RX9_370 vk_X9_isWhat e3 rfl rfl rfl (Nat.le_of_ble_eq_true rfl) (by decide) (by decide) dX9_next_8 (k_X9_isWhat X.1.2.1 hl X.2.2.1 l0 l1 (1 : Int32) M1 _ e4) ?_
  refine q_if_ne (tgt := 16) C dX9_next_11 (by decide) (fun c7 => ?_) (fun c7 => ?_)
  · have h := ifF c7 h
    refine q_iconst (v := (0 : Int32)) C dX9_next_16 (by decide) ?_
    refine q_istore_n (i := 2) (lv' := [(2, .int (0 : Int32)), (0, .ref l0), (1, .int l1)]) C dX9_next_17 rfl (by decide) rfl ?_
    refine q_iconst (v := (0 : Int32)) C dX9_next_18 (by decide) ?_
    refine q_istore_n (i := 3) (lv' := [(3, .int (0 : Int32)), (2, .int (0 : Int32)), (0, .ref l0), (1, .int l1)]) C dX9_next_19 rfl (by decide) rfl ?_
    obtain ⟨⟨x33, M34⟩, e32, h⟩ := bindE h
    refine q_sub (lv' := [(0, .ref l0), (1, .int l1), (2, .int (0 : Int32)), (3, .int (0 : Int32))]) [2, 3, 1, 0] rfl (w_X9_next_l20 C hRO hl l0 l1 (0 : Int32) (0 : Int32) M5 e32 (fun r31 he => ?_))
    subst he
    have h := u2E h
    show wq X 10 88 [(0, .ref l0), (1, .int l1), (2, .int x33)] [] M34
    refine q_iconst (v := (-1 : Int32)) C dX9_next_88 (by decide) ?_
    refine q_istore_n (i := 3) (lv' := [(3, .int (-1 : Int32)), (0, .ref l0), (1, .int l1), (2, .int x33)]) C dX9_next_89 rfl (by decide) rfl ?_
    refine q_iconst (v := (0 : Int32)) C dX9_next_90 (by decide) ?_
    refine q_istore (i := 4) (lv' := [(4, .int (0 : Int32)), (3, .int (-1 : Int32)), (0, .ref l0), (1, .int l1), (2, .int x33)]) C dX9_next_91 (by decide) rfl ?_
    refine q_iconst (v := (0 : Int32)) C dX9_next_93 (by decide) ?_
    refine q_istore (i := 5) (lv' := [(5, .int (0 : Int32)), (4, .int (0 : Int32)), (3, .int (-1 : Int32)), (0, .ref l0), (1, .int l1), (2, .int x33)]) C dX9_next_94 (by decide) rfl ?_
    obtain ⟨⟨x62, x63⟩, e61, h⟩ := bindE h
    refine q_sub (lv' := [(0, .ref l0), (1, .int l1), (2, .int x33), (3, .int (-1 : Int32)), (4, .int (0 : Int32)), (5, .int (0 : Int32))]) [3, 4, 5, 2, 1, 0] rfl (w_X9_next_l96 C hRO hl l0 l1 x33 M34 (-1 : Int32) (0 : Int32) (0 : Int32) e61 (fun r60 he => ?_))
    subst he
    have h := u2E h
    show wq X 10 221 [(1, .int l1), (3, .int x62), (4, .int x63)] [] M34
    refine q_iload_n 0 C dX9_next_221 rfl ?_
    refine q_if_ne (tgt := 229) C dX9_next_222 (by decide) (fun c64 => ?_) (fun c64 => ?_)
    · have h := ifF c64 h
      refine q_iload 2 C dX9_next_229 rfl ?_
      cases h
      exact q_iret C kf dX9_next_231
    · have h := ifT c64 h
      refine q_iload_n 1 C dX9_next_225 rfl ?_
      refine q_goto (tgt := 231) C dX9_next_226 (by decide) ?_
      cases h
      exact q_iret C kf dX9_next_231
  · have h := ifT c7 h
    refine q_iconst (v := (0 : Int32)) C dX9_next_14 (by decide) ?_
    cases h
    exact q_iret C kf dX9_next_15
theorem k_X9_next (l : Launch) (hl : l.stackTraces = false) (G : GG) (l0 : Nat) (l1 : Int32) (M : Mem) (x : Int32 × Mem) (h : F_X9_next l0 l1 M = some x) : Ct l G yX9_next (.code yX9_next cX9_next 10 (some .int)) 14 301 [.ref l0, .int l1] M (rs_mI x) (ms_mI x) := by
  refine Ct_of (by decide +kernel) (Nat.le_of_ble_eq_true rfl) fun X e1 e2 e3 C FN hnm => ?_
  subst e1; subst e2
  show wq X 10 0 [(0, .ref l0), (1, .int l1)] [] M
  exact w_X9_next C FN.2.2.2 hl l0 l1 M h FN
