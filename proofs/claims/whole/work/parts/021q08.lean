/-! ===== the tape is fed ===== -/
theorem bit_shrA {x : Int32} {k i : Nat} (hk : k < 31) (hi : i + k < 32) : bitI (x >>> (nI k &&& 31)) i = bitI x (i + k) := by
  have e : ∀ h, h < 31 → ((nI h &&& 31).toBitVec.smod 32#32) = BitVec.ofNat 32 h := by decide +kernel
  have e1 : (x >>> (nI k &&& 31)).toBitVec = x.toBitVec.sshiftRight k := by
    rw [Int32.toBitVec_shiftRight]
    show BitVec.sshiftRight' _ ((nI k &&& 31).toBitVec.smod 32#32) = _
    rw [e k hk]
    unfold BitVec.sshiftRight'
    rw [BitVec.toNat_ofNat, Nat.mod_eq_of_lt (by omega)]
  unfold bitI
  rw [e1, BitVec.getLsbD_sshiftRight, if_pos (by omega)]
  simp [show ¬ 32 ≤ i by omega, Nat.add_comm]
theorem bit_shrU {x : Int32} {k i : Nat} (hk : k < 31) : bitI ((x.toUInt32 >>> ((nI k).toUInt32 &&& Int32.toUInt32 31)).toInt32) i = bitI x (i + k) := by
  have e : ∀ h, h < 31 → ((nI h).toUInt32 &&& Int32.toUInt32 31).toBitVec.toNat % 32 = h := by decide +kernel
  unfold bitI
  show (x.toUInt32 >>> ((nI k).toUInt32 &&& Int32.toUInt32 31)).toBitVec.getLsbD i = _
  rw [UInt32.toBitVec_shiftRight]
  show (x.toBitVec >>> (((nI k).toUInt32 &&& Int32.toUInt32 31).toBitVec % 32#32)).getLsbD i = _
  have e2 : (((nI k).toUInt32 &&& Int32.toUInt32 31).toBitVec % 32#32).toNat = k := by
    rw [BitVec.toNat_umod]; exact e k hk
  show (x.toBitVec >>> ((((nI k).toUInt32 &&& Int32.toUInt32 31).toBitVec % 32#32).toNat)).getLsbD i = _
  rw [e2, BitVec.getLsbD_ushiftRight, Nat.add_comm]
theorem bit_255 {i : Nat} : bitI 255 i = decide (i < 8) := by
  by_cases h : i < 32
  · have : ∀ i, i < 32 → bitI 255 i = decide (i < 8) := by decide +kernel
    exact this i h
  · rw [bit_big (by omega)]; simp; omega
theorem i8_eq {a b : Int32} (h : ∀ i, i < 8 → bitI a i = bitI b i) : a.toInt8 = b.toInt8 := by
  refine Int8.toBitVec_inj.mp (BitVec.eq_of_getLsbD_eq fun i hi => ?_)
  show (a.toBitVec.signExtend 8).getLsbD i = (b.toBitVec.signExtend 8).getLsbD i
  rw [BitVec.getLsbD_signExtend, BitVec.getLsbD_signExtend, if_pos (by omega), if_pos (by omega)]
  have := h i hi
  unfold bitI at this
  rw [this]
def byN (x : Int32) (k : Nat) : Nat := ((x >>> (nI k &&& 31)) &&& 255).toNatClampNeg
theorem byN_eq {x : Int32} {k : Nat} : byN x k < 256 ∧ nI (byN x k) = (x >>> (nI k &&& 31)) &&& 255 := by
  obtain ⟨n, hn, e⟩ := bits8 (b := (x >>> (nI k &&& 31)) &&& 255) (fun i hi => by rw [bit_and, bit_255, decide_eq_false (by omega)]; simp)
  unfold byN
  rw [e, nI_clamp (by omega)]
  exact ⟨hn, rfl⟩
theorem nby_eq {x : Int32} {k : Nat} (hk : k ≤ 24) : nby ((((x).toUInt32 >>> ((nI k).toUInt32 &&& Int32.toUInt32 31)).toInt32).toInt8.toInt32) = nby (nI (byN x k)) := by
  unfold nby
  rw [Int8.toInt8_toInt32, byN_eq.2]
  congr 1
  refine i8_eq fun i hi => ?_
  rw [bit_shrU (by omega), bit_and, bit_255, decide_eq_true hi, bit_shrA (by omega) (by omega)]
  simp
section
variable {M M' M1 M2 : Mem} {p m : Nat} {g : Pg} {s s' : Sg} {L L' : List Sg} {E E' : List Se} {I I' : Option (Sg × List Sg × List Se)} {R R' : Nat → Int32} {T T' : List Nat} {f f' : Int32}
theorem Tget {T : List Nat} {b i c : Nat} (h : (T ++ [b])[i]? = some c) : (i < T.length ∧ T[i]? = some c) ∨ (i = T.length ∧ c = b) := by
  by_cases z : i < T.length
  · rw [List.getElem?_append_left z] at h; exact Or.inl ⟨z, h⟩
  · rw [List.getElem?_append_right (by omega)] at h
    have hi : i - T.length < [b].length := (List.getElem?_eq_some_iff.mp h).1
    simp at hi
    have : i = T.length := by omega
    subst this
    simp at h
    exact Or.inr ⟨rfl, h.symm⟩
theorem C_app1 {x : Int32} {k : Nat} (hc : CI M p g s L E I R T f) (hT : T.length < 700) (hk : k ≤ 24) : ∃ M', F_X3_append_s3 1 x (nI k) M = some (.inl (nI k + (-8), M')) ∧ CI M' p g s L E I R (T ++ [byN x k]) f ∧ (∀ k, 67 ≤ k → k < 98 → mI M' k = mI M k) ∧ M'.1 = M.1 ∧ mS M' = mS M := by
  have ht := hc.2.2.2.2.2.2.2.2.2.2.2.2.2.1
  have w : Wr [1, 2] M (stI (stI M 2 T.length (nby (nI (byN x k)))) 1 1 (nI T.length + 1)) := (Wr.rfl'.st (by simp)).st (by simp)
  have hD : ∀ k ∈ [1, 2], k < 98 := by decide
  refine ⟨_, ?_, hc.re w.kp hD (by decide) (hc.s_kp w.kp (fun k k1 k2 => by simp; omega)) (hc.L_kp w.kp hD (by decide)) (hc.E_kp w.kp (by decide)) (hc.I_kp w.kp hD (by decide) (fun k k1 k2 => by simp; omega)) (hc.R_kp w.kp (by decide)) ⟨?_, ?_, fun i b hb => ?_⟩ (hc.f_kp w.kp (by decide)), fun k a b => wr_mI w (by simp; omega), w.1, w.2.2.2.1⟩
  · unfold F_X3_append_s3
    rw [if_neg (nI_pos (by omega)), Lf_1 hc.1, ob_t, ht.1, if_neg (show ¬ (700 : Int32) ≤ nI T.length from nI_ge (b := 700) hT (by omega)), Lp_1_0 hc.1, ob_t, ob_t, Lw_2 hc.1 hT, ob_t, Lf_1 (M := stI M 2 T.length _) hc.1, ob_t, Ls_1 (M := stI M 2 T.length _) hc.1, ob_t, mI_stne (by omega), ht.1, nby_eq hk]
  · rw [mI_steq, upg_eq, List.length_append]; exact nI_1 _
  · rw [List.length_append]; simp; omega
  · rw [mI_stne (by omega), mI_steq]
    rcases Tget hb with ⟨z1, z2⟩ | ⟨z1, z2⟩
    · rw [upg_ne (by omega)]; exact ht.2.2 i b z2
    · subst z1; rw [z2, upg_eq]; exact ⟨byN_eq.1, rfl⟩
theorem C_app {x : Int32} (hc : CI M p g s L E I R T f) (hT : T.length + 4 ≤ 700) : ∃ M', F_X3_append 1 x M = some M' ∧ CI M' p g s L E I R (T ++ [byN x 24, byN x 16, byN x 8, byN x 0]) f ∧ (∀ k, 67 ≤ k → k < 98 → mI M' k = mI M k) ∧ M'.1 = M.1 ∧ mS M' = mS M := by
  obtain ⟨M1, e1, c1, w1, l1, s1⟩ := C_app1 (x := x) (k := 24) hc (by omega) (by omega)
  obtain ⟨M2, e2, c2, w2, l2, s2⟩ := C_app1 (x := x) (k := 16) c1 (by simp; omega) (by omega)
  obtain ⟨M3, e3, c3, w3, l3, s3⟩ := C_app1 (x := x) (k := 8) c2 (by simp; omega) (by omega)
  obtain ⟨M4, e4, c4, w4, l4, s4⟩ := C_app1 (x := x) (k := 0) c3 (by simp; omega) (by omega)
  refine ⟨M4, ?_, by simpa [List.append_assoc] using c4, fun k a b => (w4 k a b).trans ((w3 k a b).trans ((w2 k a b).trans (w1 k a b))), l4.trans (l3.trans (l2.trans l1)), s4.trans (s3.trans (s2.trans s1))⟩
  unfold F_X3_append
  have t1 : loop (fun s => F_X3_append_s3 1 x s.1 s.2) ((24 : Int32), M) = loop (fun s => F_X3_append_s3 1 x s.1 s.2) (nI 24 + (-8), M1) := loop_turn e1
  have t2 : loop (fun s => F_X3_append_s3 1 x s.1 s.2) (nI 16, M1) = loop (fun s => F_X3_append_s3 1 x s.1 s.2) (nI 16 + (-8), M2) := loop_turn e2
  have t3 : loop (fun s => F_X3_append_s3 1 x s.1 s.2) (nI 8, M2) = loop (fun s => F_X3_append_s3 1 x s.1 s.2) (nI 8 + (-8), M3) := loop_turn e3
  have t4 : loop (fun s => F_X3_append_s3 1 x s.1 s.2) (nI 0, M3) = loop (fun s => F_X3_append_s3 1 x s.1 s.2) (nI 0 + (-8), M4) := loop_turn e4
  have t5 : loop (fun s => F_X3_append_s3 1 x s.1 s.2) (nI 0 + (-8), M4) = some M4 := loop_end (by unfold F_X3_append_s3; dsimp only; rw [if_pos (by decide)])
  have d1 : nI 24 + (-8) = nI 16 := by decide
  have d2 : nI 16 + (-8) = nI 8 := by decide
  have d3 : nI 8 + (-8) = nI 0 := by decide
  rw [t1, d1, t2, d2, t3, d3, t4, t5, ob_t]
theorem M_app1 {x : Int32} {k : Nat} (h : ZI M g s L E I R T f) (hT : T.length < 700) (hk : k ≤ 24) : ∃ M', F_X9_lays_s3 67 x (nI k) M = some (.inl (nI k + (-8), M')) ∧ ZI M' g s L E I R (T ++ [byN x k]) f ∧ FM M M' := by
  have ht := h.1.2.2.2.2.2.1
  have sm : ∀ j, j ≠ 67 → j ≠ 73 → mI (stI (stI M 73 T.length (nI (byN x k))) 67 12 (nI T.length + 1)) j = mI M j := fun j a b => by rw [mI_stne a, mI_stne b]
  have s67 : ∀ j, j ≠ 12 → mI (stI (stI M 73 T.length (nI (byN x k))) 67 12 (nI T.length + 1)) 67 j = mI M 67 j := fun j hj => by rw [mI_steq, upg_ne hj, mI_stne (by omega)]
  refine ⟨stI (stI M 73 T.length (nI (byN x k))) 67 12 (nI T.length + 1), ?_, ⟨⟨h.1.1.fr h.lay (fun j a b => sm j (by omega) (by omega)) (fun j hj => s67 j (by omega)) (by rw [sm 83 (by omega) (by omega)]; exact h.1.1.1.rw) h.1.1.1.gd, ?_, ?_, h.1.2.2.2.1.fr (fun j hj => s67 j (by omega)) ⟨sm 94 (by omega) (by omega), sm 95 (by omega) (by omega), sm 96 (by omega) (by omega)⟩, ?_, ⟨?_, fun i b hb => ?_⟩, ?_⟩, by rw [s67 0 (by omega)]; exact h.2⟩, (FM.rfl'.st (by omega)).st (by omega)⟩
  · unfold F_X9_lays_s3
    rw [if_neg (nI_pos (by omega)), Lp_67_11 h.lay, ob_t, Lf_67 h.lay, ob_t, ht.1, ← byN_eq.2, Lw_73 h.lay hT, ob_t, Lf_67 (M := stI M 73 T.length _) h.lay, ob_t, Ls_67 (M := stI M 73 T.length _) h.lay, ob_t, mI_stne (by omega), ht.1]
  · rw [s67 43 (by omega)]; exact h.1.2.1.fr (sm 84 (by omega) (by omega))
  · rw [s67 51 (by omega)]; exact h.1.2.2.1.fr (sm 91 (by omega) (by omega))
  · rw [sm 74 (by omega) (by omega)]; exact h.1.2.2.2.2.1
  · rw [mI_steq, upg_eq, List.length_append]; exact nI_1 _
  · rw [mI_stne (by omega), mI_steq]
    rcases Tget hb with ⟨z1, z2⟩ | ⟨z1, z2⟩
    · rw [upg_ne (by omega)]; exact ht.2 i b z2
    · subst z1; rw [z2, upg_eq]
  · rw [s67 14 (by omega)]; exact h.1.2.2.2.2.2.2
theorem M_app {x : Int32} (h : ZI M g s L E I R T f) (hT : T.length + 4 ≤ 700) : ∃ M', F_X9_lays 67 x M = some M' ∧ ZI M' g s L E I R (T ++ [byN x 24, byN x 16, byN x 8, byN x 0]) f ∧ FM M M' := by
  obtain ⟨M1, e1, c1, w1⟩ := M_app1 (x := x) (k := 24) h (by omega) (by omega)
  obtain ⟨M2, e2, c2, w2⟩ := M_app1 (x := x) (k := 16) c1 (by simp; omega) (by omega)
  obtain ⟨M3, e3, c3, w3⟩ := M_app1 (x := x) (k := 8) c2 (by simp; omega) (by omega)
  obtain ⟨M4, e4, c4, w4⟩ := M_app1 (x := x) (k := 0) c3 (by simp; omega) (by omega)
  refine ⟨M4, ?_, by simpa [List.append_assoc] using c4, ((w1.trans w2).trans w3).trans w4⟩
  unfold F_X9_lays
  have t1 : loop (fun s => F_X9_lays_s3 67 x s.1 s.2) ((24 : Int32), M) = loop (fun s => F_X9_lays_s3 67 x s.1 s.2) (nI 24 + (-8), M1) := loop_turn e1
  have t2 : loop (fun s => F_X9_lays_s3 67 x s.1 s.2) (nI 16, M1) = loop (fun s => F_X9_lays_s3 67 x s.1 s.2) (nI 16 + (-8), M2) := loop_turn e2
  have t3 : loop (fun s => F_X9_lays_s3 67 x s.1 s.2) (nI 8, M2) = loop (fun s => F_X9_lays_s3 67 x s.1 s.2) (nI 8 + (-8), M3) := loop_turn e3
  have t4 : loop (fun s => F_X9_lays_s3 67 x s.1 s.2) (nI 0, M3) = loop (fun s => F_X9_lays_s3 67 x s.1 s.2) (nI 0 + (-8), M4) := loop_turn e4
  have t5 : loop (fun s => F_X9_lays_s3 67 x s.1 s.2) (nI 0 + (-8), M4) = some M4 := loop_end (by unfold F_X9_lays_s3; dsimp only; rw [if_pos (by decide)])
  have d1 : nI 24 + (-8) = nI 16 := by decide
  have d2 : nI 16 + (-8) = nI 8 := by decide
  have d3 : nI 8 + (-8) = nI 0 := by decide
  rw [t1, d1, t2, d2, t3, d3, t4, t5, ob_t]
theorem A_feed (hc : CI M p g s L E I R T f) (hm : MI M g s L E I R T f) (hr : Rm M m) (hm5 : m < 512) (x1 x2 x3 x4 x5 : Int32) : AF m (F_X8_feed 0 x1 x2 x3 x4 x5 M) (F_X9_feed 67 x1 x2 x3 x4 x5) := by
  have ht := hc.2.2.2.2.2.2.2.2.2.2.2.2.2.1
  have t20 : nI T.length + (20 : Int32) = nI (T.length + 20) := nI_add _ 20
  by_cases hT : T.length + 20 ≤ 700
  · obtain ⟨M1, e1, c1, w1, l1, s1⟩ := C_app (x := x1) hc (by omega)
    obtain ⟨M2, e2, c2, w2, l2, s2⟩ := C_app (x := x2) c1 (by simp; omega)
    obtain ⟨M3, e3, c3, w3, l3, s3⟩ := C_app (x := x3) c2 (by simp; omega)
    obtain ⟨M4, e4, c4, w4, l4, s4⟩ := C_app (x := x4) c3 (by simp; omega)
    obtain ⟨M5, e5, c5, w5, l5, s5⟩ := C_app (x := x5) c4 (by simp; omega)
    have m5 : MI M5 g s L E I R T f := hm.fr c5.1 fun k a b => (w5 k a (by omega)).trans ((w4 k a (by omega)).trans ((w3 k a (by omega)).trans ((w2 k a (by omega)).trans (w1 k a (by omega)))))
    obtain ⟨e0, z0, v0⟩ := m5.zero
    obtain ⟨N1, f1, z1, v1⟩ := M_app (x := x1) z0 (by omega)
    obtain ⟨N2, f2, z2, v2⟩ := M_app (x := x2) z1 (by simp; omega)
    obtain ⟨N3, f3, z3, v3⟩ := M_app (x := x3) z2 (by simp; omega)
    obtain ⟨N4, f4, z4, v4⟩ := M_app (x := x4) z3 (by simp; omega)
    obtain ⟨N5, f5, z5, v5⟩ := M_app (x := x5) z4 (by simp; omega)
    refine AF.mk (v := nI (T.length + 20)) hr ?_ c5 (by rw [l5, l4, l3, l2, l1]; omega) (by rw [s5, s4, s3, s2, s1]; omega) ?_ z5.1 (((((v0.trans v1).trans v2).trans v3).trans v4).trans v5)
    · unfold F_X8_feed F_X3_taped
      rw [Lp_0_0 hc.1, ob_t, Lc_1 hc.1, Lf_1 hc.1, ob_t, ob_t, ht.1, t20, if_pos (show nI (T.length + 20) ≤ (700 : Int32) from nI_le (b := 700) hT (by omega)), ob_t, Lc_1 hc.1, e1, ob_t, Lp_0_0 c1.1, ob_t, Lc_1 c1.1, e2, ob_t, Lp_0_0 c2.1, ob_t, Lc_1 c2.1, e3, ob_t, Lp_0_0 c3.1, ob_t, Lc_1 c3.1, e4, ob_t, Lp_0_0 c4.1, ob_t, Lc_1 c4.1, e5, ob_t, Lp_0_0 c5.1, ob_t, Lc_1 c5.1, Lf_1 c5.1, ob_t, ob_t, c5.2.2.2.2.2.2.2.2.2.2.2.2.2.1.1]
      simp
    · unfold F_X9_feed
      rw [e0, ob_t, Lf_67 z0.lay, ob_t, z0.1.2.2.2.2.2.1.1, t20, if_pos (show nI (T.length + 20) ≤ (700 : Int32) from nI_le (b := 700) hT (by omega)), Lc_67 z0.lay, f1, ob_t, Lc_67 z1.lay, f2, ob_t, Lc_67 z2.lay, f3, ob_t, Lc_67 z3.lay, f4, ob_t, Lc_67 z4.lay, f5, ob_t, Lf_67 z5.lay, ob_t, z5.1.2.2.2.2.2.1.1]
      simp
  · obtain ⟨e0, z0, v0⟩ := hm.zero
    have h7 := ht.2.1
    refine AF.mk (v := -1) (M1 := M) hr ?_ hc (by omega) (by omega) (M2 := stI M 67 0 0) ?_ z0.1 v0
    · unfold F_X8_feed F_X3_taped
      rw [Lp_0_0 hc.1, ob_t, Lc_1 hc.1, Lf_1 hc.1, ob_t, ob_t, ht.1, t20, if_neg (show ¬ nI (T.length + 20) ≤ (700 : Int32) from nI_ge (a := 700) (by omega) (by omega))]
    · unfold F_X9_feed
      rw [e0, ob_t, Lf_67 z0.lay, ob_t, z0.1.2.2.2.2.2.1.1, t20, if_neg (show ¬ nI (T.length + 20) ≤ (700 : Int32) from nI_ge (a := 700) (by omega) (by omega))]
end
