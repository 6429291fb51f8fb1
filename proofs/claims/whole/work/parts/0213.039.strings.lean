/-! ===== the String constants' members ===== -/
section QSt
variable {X : CX} {cc : ByteArray} {nL pc fr lo : Nat} {own : String} {lv : List (Nat × Value)} {st : List Value} {M M' : Mem}
theorem q_nretE {ty : FieldType} {v w : Int32} (hn : narrow ty (.int v) = .int w) (C : CK X cc nL own fr lo) (F : FIN X (some ty) (.inl (some (.int w))) M) (d : decode cc pc = .ok (.ireturn, 1)) : wq X nL pc lv [.int v] M := by
  intro H locs ls h1 h2 h3 h4 h5
  obtain ⟨hQ, hr, -, -⟩ := F
  rw [hQ]
  exact vx_ret (W_nret (v := v) (w := w) C.1 C.2.1 hr hn (fun t ht hW => ⟨⟨_, rfl, rfl, by rw [ht]; exact h1, h4, h5⟩, S_F h2 t ht⟩) h2.2.2 d C.2.2.2.2.2.2.2.1)
theorem q_oget {t idx : Nat} {ref nmf desc : String} {v : Value} (C : CK X cc nL own fr lo) (w : Cond.fieldLink own idx ref nmf desc ∈ gws) (hO : va_OF ref nmf desc (re X.2.2.1 v) (X.2.2.1.2.2.2.1 t) (gA X.2.2.1) X.1.2.2.2.2.1 X.1.2.2.2.2.1.heap) (d : decode cc pc = .ok (.getfield idx, 3)) (k : wq X nL (pc + 3) lv (v :: st) M) : wq X nL pc lv (.retAddr t :: st) M := by
  intro H locs ls h1 h2 h3 h4 h5
  obtain ⟨cf, kc, i, f, cell, g1, g2, g3, g4, g5, g6⟩ := va_OF.kept hO (fun a ha hna => h2.2.1 a ha hna)
  exact W.getf C.1 C.2.1 C.2.2.2.1 (C.2.2.2.2.1 _ w) g1 g2 g3 g4 g5 rfl rfl d (k H locs ls h1 h2 h3 h4 h5)
theorem q_otlen {t N : Nat} {f : Nat → Value} {v : Int32} (C : CK X cc nL own fr lo) (hT : va_T .byte (X.2.2.1.2.2.2.1 t) N f (gA X.2.2.1) X.1.2.2.2.2.1 X.1.2.2.2.2.1.heap) (hv : Int32.ofNat N = v) (d : decode cc pc = .ok (.arraylength, 1)) (k : wq X nL (pc + 1) lv (.int v :: st) M) : wq X nL pc lv (.retAddr t :: st) M := fun H locs ls h1 h2 h3 h4 h5 => va_tlen C.1 C.2.1 hT h2 hv d (k H locs ls h1 h2 h3 h4 h5)
theorem q_otb {t N : Nat} {f : Nat → Value} {i v : Int32} (C : CK X cc nL own fr lo) (hT : va_T .byte (X.2.2.1.2.2.2.1 t) N f (gA X.2.2.1) X.1.2.2.2.2.1 X.1.2.2.2.2.1.heap) (hin : vp_in i N) (hv : f i.toNatClampNeg = .int v) (d : decode cc pc = .ok (.baload, 1)) (k : wq X nL (pc + 1) lv (.int v :: st) M) : wq X nL pc lv (.int i :: .retAddr t :: st) M := fun H locs ls h1 h2 h3 h4 h5 => va_tb C.1 C.2.1 hT h2 hin hv d (k H locs ls h1 h2 h3 h4 h5)
theorem q_gets {idx : Nat} {Cn nmf desc : String} {v : Value} (C : CK X cc nL own fr lo) (w : Cond.fieldLink own idx Cn nmf desc ∈ gws) (hZ : va_Z Cn nmf desc (re X.2.2.1 v) (gA X.2.2.1) X.1.2.2.2.2.1 X.1.2.2.2.2.1.heap) (d : decode cc pc = .ok (.getstatic idx, 3)) (k : wq X nL (pc + 3) lv (v :: st) M) : wq X nL pc lv st M := fun H locs ls h1 h2 h3 h4 h5 => va_gets C.1 C.2.1 hZ h2 C.2.2.2.1 (C.2.2.2.2.1 _ w) (fun x hx => hx) d (k H locs ls h1 h2 h3 h4 h5)
end QSt
theorem sf_38 : Cond.fieldLink RJ0 38 "java/lang/String" "COMPACT_STRINGS" "Z" ∈ gws := gws_in 574 (by decide +kernel) rfl
theorem sf_1053 : Cond.fieldLink RJ0 1053 "jdk/internal/util/Preconditions" "SIOOBE_FORMATTER" "Ljava/util/function/BiFunction;" ∈ gws := gws_in 590 (by decide +kernel) rfl
theorem sf_9 : Cond.fieldLink RJ0 9 "java/lang/String" "value" "[B" ∈ gws := gws_in 1990 (by decide +kernel) rfl
theorem sf_15 : Cond.fieldLink RJ0 15 "java/lang/String" "coder" "B" ∈ gws := gws_in 1991 (by decide +kernel) rfl
theorem ps_coder : ∀ sig, parseMethodDescriptor yJ0_coder_7d493.desc = some sig → 0 = sig.parameters.length := fun sig h => by
  have e : (parseMethodDescriptor yJ0_coder_7d493.desc).map (fun s => s.parameters.length) = some 0 := by decide +kernel
  rw [h] at e; exact (Option.some.inj e).symm
theorem ps_isLatin1 : ∀ sig, parseMethodDescriptor yJ0_isLatin1_aae02.desc = some sig → 0 = sig.parameters.length := fun sig h => by
  have e : (parseMethodDescriptor yJ0_isLatin1_aae02.desc).map (fun s => s.parameters.length) = some 0 := by decide +kernel
  rw [h] at e; exact (Option.some.inj e).symm
theorem ps_charAtL : ∀ sig, parseMethodDescriptor yJ1_charAt_3b067.desc = some sig → 2 = sig.parameters.length := fun sig h => by
  have e : (parseMethodDescriptor yJ1_charAt_3b067.desc).map (fun s => s.parameters.length) = some 2 := by decide +kernel
  rw [h] at e; exact (Option.some.inj e).symm
theorem ps_checkS : ∀ sig, parseMethodDescriptor yJ0_checkIndex_df160.desc = some sig → 2 = sig.parameters.length := fun sig h => by
  have e : (parseMethodDescriptor yJ0_checkIndex_df160.desc).map (fun s => s.parameters.length) = some 2 := by decide +kernel
  rw [h] at e; exact (Option.some.inj e).symm
theorem ps_checkP : ∀ sig, parseMethodDescriptor yJ3_checkIndex_8e157.desc = some sig → 3 = sig.parameters.length := fun sig h => by
  have e : (parseMethodDescriptor yJ3_checkIndex_8e157.desc).map (fun s => s.parameters.length) = some 3 := by decide +kernel
  rw [h] at e; exact (Option.some.inj e).symm
theorem sl_335 : LK RJ0 335 yJ0_coder_7d493 cJ0_coder_7d493 1 (some .byte) 0 := ⟨gws_in 570 (by decide +kernel) rfl, gws_in 573 (by decide +kernel) rfl, gws_in 16 (by decide +kernel) rfl, by decide +kernel, ps_coder⟩
theorem sl_492 : LK RJ0 492 yJ0_isLatin1_aae02 cJ0_isLatin1_aae02 1 (some .boolean) 0 := ⟨gws_in 580 (by decide +kernel) rfl, gws_in 583 (by decide +kernel) rfl, gws_in 16 (by decide +kernel) rfl, by decide +kernel, ps_isLatin1⟩
theorem sl_495 : LK RJ0 495 yJ1_charAt_3b067 cJ1_charAt_3b067 2 (some .char) 2 := ⟨gws_in 584 (by decide +kernel) rfl, gws_in 586 (by decide +kernel) rfl, gws_in 17 (by decide +kernel) rfl, by decide +kernel, ps_charAtL⟩
theorem sl_9 : LK RJ1 9 yJ0_checkIndex_df160 cJ0_checkIndex_df160 2 none 2 := ⟨gws_in 587 (by decide +kernel) rfl, gws_in 589 (by decide +kernel) rfl, gws_in 16 (by decide +kernel) rfl, by decide +kernel, ps_checkS⟩
theorem sl_1059 : LK RJ0 1059 yJ3_checkIndex_8e157 cJ3_checkIndex_8e157 3 (some .int) 3 := ⟨gws_in 592 (by decide +kernel) rfl, gws_in 594 (by decide +kernel) rfl, gws_in 18 (by decide +kernel) rfl, by decide +kernel, ps_checkP⟩
theorem sv_coder : VK yJ0_coder_7d493 := ⟨gws_in 571 (by decide +kernel) rfl, gws_in 572 (by decide +kernel) rfl⟩
theorem sv_isLatin1 : VK yJ0_isLatin1_aae02 := ⟨gws_in 581 (by decide +kernel) rfl, gws_in 582 (by decide +kernel) rfl⟩
theorem ss_charAtL : Cond.static yJ1_charAt_3b067 ∈ gws := gws_in 585 (by decide +kernel) rfl
theorem ss_checkS : Cond.static yJ0_checkIndex_df160 ∈ gws := gws_in 588 (by decide +kernel) rfl
theorem ss_checkP : Cond.static yJ3_checkIndex_8e157 ∈ gws := gws_in 593 (by decide +kernel) rfl
theorem k_J0_coder (l : Launch) (G : GG) (i : Nat) (M : Mem) (hi : i < nStr) : Ct l G yJ0_coder_7d493 (.code yJ0_coder_7d493 cJ0_coder_7d493 1 (some .byte)) 1 30 [.retAddr i] M (.inl (some (.int 0))) M := by
  refine Ct_of (by decide +kernel) (Nat.le_of_ble_eq_true rfl) fun X e1 e2 e3 C FN hnm => ?_
  subst e1; subst e2
  show wq X 1 0 [(0, .retAddr i)] [] M
  have hRO := FN.2.2.2
  refine q_gets (v := .int 1) C sf_38 hRO.2.2.1 dJ0_coder_7d493_0 ?_
  refine q_if_eq (tgt := 13) C dJ0_coder_7d493_3 (by decide) (fun c => absurd c (by decide)) (fun c => ?_)
  refine q_sload_n 0 C dJ0_coder_7d493_6 rfl ?_
  refine q_oget (v := .int 0) C sf_15 (hRO.1 i hi).2.1 dJ0_coder_7d493_7 ?_
  refine q_goto (tgt := 14) C dJ0_coder_7d493_10 (by decide) ?_
  exact q_nretE (ty := .byte) (w := 0) (by decide) C FN dJ0_coder_7d493_14
theorem k_J0_isLatin1 (l : Launch) (G : GG) (i : Nat) (M : Mem) (hi : i < nStr) : Ct l G yJ0_isLatin1_aae02 (.code yJ0_isLatin1_aae02 cJ0_isLatin1_aae02 1 (some .boolean)) 1 30 [.retAddr i] M (.inl (some (.int 1))) M := by
  refine Ct_of (by decide +kernel) (Nat.le_of_ble_eq_true rfl) fun X e1 e2 e3 C FN hnm => ?_
  subst e1; subst e2
  show wq X 1 0 [(0, .retAddr i)] [] M
  have hRO := FN.2.2.2
  refine q_gets (v := .int 1) C sf_38 hRO.2.2.1 dJ0_isLatin1_aae02_0 ?_
  refine q_if_eq (tgt := 17) C dJ0_isLatin1_aae02_3 (by decide) (fun c => absurd c (by decide)) (fun c => ?_)
  refine q_sload_n 0 C dJ0_isLatin1_aae02_6 rfl ?_
  refine q_oget (v := .int 0) C sf_15 (hRO.1 i hi).2.1 dJ0_isLatin1_aae02_7 ?_
  refine q_if_ne (tgt := 17) C dJ0_isLatin1_aae02_10 (by decide) (fun c => absurd rfl c) (fun c => ?_)
  refine q_iconst (v := 1) C dJ0_isLatin1_aae02_13 (by decide) ?_
  refine q_goto (tgt := 18) C dJ0_isLatin1_aae02_14 (by decide) ?_
  exact q_nretE (ty := .boolean) (w := 1) (by decide) C FN dJ0_isLatin1_aae02_18
theorem shr0 (x : Int32) : x >>> ((0 : Int32) &&& 31) = x := by
  have e : ((0 : Int32) &&& 31) = 0 := by decide
  rw [e]
  exact Int32.shiftRight_zero
theorem k_J0_length (l : Launch) (G : GG) (i : Nat) (M : Mem) (v : Int32) (h : F_J0_length i = some v) : Ct l G yJ0_length_8abf5 (.code yJ0_length_8abf5 cJ0_length_8abf5 1 (some .int)) 7 140 [.retAddr i] M (.inl (some (.int v))) M := by
  have hi := lt_J0_length h
  unfold F_J0_length at h
  rw [if_pos hi] at h
  cases h
  refine Ct_of (by decide +kernel) (Nat.le_of_ble_eq_true rfl) fun X e1 e2 e3 C FN hnm => ?_
  subst e1; subst e2
  show wq X 1 0 [(0, .retAddr i)] [] M
  have hRO := FN.2.2.2
  refine q_sload_n 0 C dJ0_length_8abf5_0 rfl ?_
  refine q_oget (v := .retAddr (1000 + i)) C sf_9 (hRO.1 i hi).2.2.1 dJ0_length_8abf5_1 ?_
  refine q_otlen C (hRO.1 i hi).2.2.2 rfl dJ0_length_8abf5_4 ?_
  refine q_sload_n 0 C dJ0_length_8abf5_5 rfl ?_
  refine q_callVS (v := some (.int 0)) [] C hRO sl_335 sv_coder hi rfl rfl rfl (Nat.le_of_ble_eq_true rfl) (by decide) (by decide) dJ0_length_8abf5_6 (k_J0_coder X.1.2.1 X.2.2.1 i M hi) ?_
  refine q_ishr C dJ0_length_8abf5_9 ?_
  refine q_topI (shr0 _).symm ?_
  exact q_iret C FN dJ0_length_8abf5_10
theorem getD_mem {l : List Int32} {k : Nat} (h : k < l.length) : l.getD k 0 ∈ l := by
  rw [List.getD_eq_getElem?_getD, List.getElem?_eq_getElem h]
  exact List.getElem_mem h
theorem k_J3_checkIndex (l : Launch) (G : GG) (i n : Int32) (w : Value) (hw : w.category = 1) (M : Mem) (h1 : ¬ i < 0) (h2 : i < n) : Ct l G yJ3_checkIndex_8e157 (.code yJ3_checkIndex_8e157 cJ3_checkIndex_8e157 3 (some .int)) 1 30 [.int i, .int n, w] M (.inl (some (.int i))) M := by
  refine Ct_of (by decide +kernel) ?_ fun X e1 e2 e3 C FN hnm => ?_
  · have c1 : ∀ i : Int32, (Value.int i).category = 1 := fun _ => rfl
    simp [lg_sl, hw, c1]
  subst e1; subst e2
  show wq X 3 0 [(0, .int i), (1, .int n), (2, w)] [] M
  refine q_iload_n 0 C dJ3_checkIndex_8e157_0 rfl ?_
  refine q_if_lt (tgt := 9) C dJ3_checkIndex_8e157_1 (by decide) (fun c => absurd c h1) (fun c => ?_)
  refine q_iload_n 0 C dJ3_checkIndex_8e157_4 rfl ?_
  refine q_iload_n 1 C dJ3_checkIndex_8e157_5 rfl ?_
  refine q_icmp_lt (tgt := 16) C dJ3_checkIndex_8e157_6 (by decide) (fun c => ?_) (fun c => absurd h2 c)
  refine q_iload_n 0 C dJ3_checkIndex_8e157_16 rfl ?_
  exact q_iret C FN dJ3_checkIndex_8e157_17
theorem k_J0_checkIndex (l : Launch) (G : GG) (i n : Int32) (M : Mem) (h1 : ¬ i < 0) (h2 : i < n) : Ct l G yJ0_checkIndex_df160 (.code yJ0_checkIndex_df160 cJ0_checkIndex_df160 2 none) 3 70 [.int i, .int n] M (.inl none) M := by
  refine Ct_of (by decide +kernel) (Nat.le_of_ble_eq_true rfl) fun X e1 e2 e3 C FN hnm => ?_
  subst e1; subst e2
  show wq X 2 0 [(0, .int i), (1, .int n)] [] M
  have hRO := FN.2.2.2
  refine q_iload_n 0 C dJ0_checkIndex_df160_0 rfl ?_
  refine q_iload_n 1 C dJ0_checkIndex_df160_1 rfl ?_
  rcases hRO.2.2.2.2.2.2.2.2 with hz | hz
  · refine q_gets (v := .null) C sf_1053 hz dJ0_checkIndex_df160_2 ?_
    refine q_callS (v := some (.int i)) [.int i, .int n, .null] C hRO sl_1059 ss_checkP rfl rfl (Nat.le_of_ble_eq_true rfl) (by decide) (by decide) dJ0_checkIndex_df160_5 (k_J3_checkIndex X.1.2.1 X.2.2.1 i n .null rfl M h1 h2) ?_
    refine q_pop C dJ0_checkIndex_df160_8 rfl ?_
    exact q_vret C FN dJ0_checkIndex_df160_9
  · refine q_gets (v := .retAddr 28) C sf_1053 hz dJ0_checkIndex_df160_2 ?_
    refine q_callS (v := some (.int i)) [.int i, .int n, .retAddr 28] C hRO sl_1059 ss_checkP rfl rfl (Nat.le_of_ble_eq_true rfl) (by decide) (by decide) dJ0_checkIndex_df160_5 (k_J3_checkIndex X.1.2.1 X.2.2.1 i n (.retAddr 28) rfl M h1 h2) ?_
    refine q_pop C dJ0_checkIndex_df160_8 rfl ?_
    exact q_vret C FN dJ0_checkIndex_df160_9
theorem chOK : ∀ i, i < nStr → (strB.getD i []).length < 100 ∧ ∀ b ∈ strB.getD i [], ((b &&& 255).toUInt32 % 65536).toInt32 = b ∧ narrow .char (.int b) = .int b := by decide +kernel
theorem k_J1_charAt (l : Launch) (G : GG) (i : Nat) (k v : Int32) (M : Mem) (h : F_J0_charAt i k = some v) : Ct l G yJ1_charAt_3b067 (.code yJ1_charAt_3b067 cJ1_charAt_3b067 2 (some .char)) 5 110 [.retAddr (1000 + i), .int k] M (.inl (some (.int v))) M := by
  unfold F_J0_charAt at h
  split at h
  · rename_i hc
    obtain ⟨hi, hk⟩ := hc
    cases h
    have hlen := (chOK i hi).1
    have hkl : k.toNatClampNeg < (strB.getD i []).length := Nat.not_le.mp fun z => hk (Or.inr z)
    have h0 : ¬ k < 0 := fun z => hk (Or.inl z)
    have hmem : (strB.getD i []).getD k.toNatClampNeg 0 ∈ strB.getD i [] := by
      exact getD_mem hkl
    obtain ⟨z1, z2⟩ := (chOK i hi).2 _ hmem
    refine Ct_of (by decide +kernel) (Nat.le_of_ble_eq_true rfl) fun X e1 e2 e3 C FN hnm => ?_
    subst e1; subst e2
    show wq X 2 0 [(0, .retAddr (1000 + i)), (1, .int k)] [] M
    have hRO := FN.2.2.2
    have hlt : k < Int32.ofNat (strB.getD i []).length := by
      obtain ⟨j, hj, rfl⟩ := nI_of h0
      rw [nI_clamp hj] at hkl
      exact nI_lt hkl (by omega)
    refine q_iload_n 1 C dJ1_charAt_3b067_0 rfl ?_
    refine q_sload_n 0 C dJ1_charAt_3b067_1 rfl ?_
    refine q_otlen C (hRO.1 i hi).2.2.2 rfl dJ1_charAt_3b067_2 ?_
    refine q_callS (v := none) [.int k, .int (Int32.ofNat (strB.getD i []).length)] C hRO sl_9 ss_checkS rfl rfl (Nat.le_of_ble_eq_true rfl) (by decide) (by decide) dJ1_charAt_3b067_3 (k_J0_checkIndex X.1.2.1 X.2.2.1 k _ M h0 hlt) ?_
    refine q_sload_n 0 C dJ1_charAt_3b067_6 rfl ?_
    refine q_iload_n 1 C dJ1_charAt_3b067_7 rfl ?_
    refine q_otb C (hRO.1 i hi).2.2.2 hk rfl dJ1_charAt_3b067_8 ?_
    refine q_sipush (v := 255) C dJ1_charAt_3b067_9 (by decide) ?_
    refine q_iand C dJ1_charAt_3b067_12 ?_
    refine q_i2c C dJ1_charAt_3b067_13 ?_
    refine q_topI z1.symm ?_
    exact q_nretE (ty := .char) z2 C FN dJ1_charAt_3b067_14
  · cases h
theorem k_J0_charAt (l : Launch) (G : GG) (i : Nat) (k : Int32) (M : Mem) (v : Int32) (h : F_J0_charAt i k = some v) : Ct l G yJ0_charAt_5068e (.code yJ0_charAt_5068e cJ0_charAt_5068e 2 (some .char)) 12 260 [.retAddr i, .int k] M (.inl (some (.int v))) M := by
  have hi := lt_J0_charAt h
  have hz : narrow .char (.int v) = .int v := by
    unfold F_J0_charAt at h
    split at h
    · rename_i hc
      cases h
      have hkl : k.toNatClampNeg < (strB.getD i []).length := Nat.not_le.mp fun z => hc.2 (Or.inr z)
      refine ((chOK i hi).2 _ ?_).2
      exact getD_mem hkl
    · cases h
  refine Ct_of (by decide +kernel) (Nat.le_of_ble_eq_true rfl) fun X e1 e2 e3 C FN hnm => ?_
  subst e1; subst e2
  show wq X 2 0 [(0, .retAddr i), (1, .int k)] [] M
  have hRO := FN.2.2.2
  refine q_sload_n 0 C dJ0_charAt_5068e_0 rfl ?_
  refine q_callVS (v := some (.int 1)) [] C hRO sl_492 sv_isLatin1 hi rfl rfl rfl (Nat.le_of_ble_eq_true rfl) (by decide) (by decide) dJ0_charAt_5068e_1 (k_J0_isLatin1 X.1.2.1 X.2.2.1 i M hi) ?_
  refine q_if_eq (tgt := 16) C dJ0_charAt_5068e_4 (by decide) (fun c => absurd c (by decide)) (fun c => ?_)
  refine q_sload_n 0 C dJ0_charAt_5068e_7 rfl ?_
  refine q_oget (v := .retAddr (1000 + i)) C sf_9 (hRO.1 i hi).2.2.1 dJ0_charAt_5068e_8 ?_
  refine q_iload_n 1 C dJ0_charAt_5068e_11 rfl ?_
  refine q_callS (v := some (.int v)) [.retAddr (1000 + i), .int k] C hRO sl_495 ss_charAtL rfl rfl (Nat.le_of_ble_eq_true rfl) (by decide) (by decide) dJ0_charAt_5068e_12 (k_J1_charAt X.1.2.1 X.2.2.1 i k v M h) ?_
  exact q_nretE (ty := .char) hz C FN dJ0_charAt_5068e_15
