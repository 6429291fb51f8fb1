/-! ===== a question, as the law asks it ===== -/
def LF (m : Nat) (FL : Option (Int32 × Mem)) (mo : Mem → Option (Int32 × Mem)) : Prop := ∃ k M1 v M2, FL = some (k, M1) ∧ mo M1 = some (v, M2) ∧ Lay M1 ∧ Lay M2 ∧ mI M2 67 0 = k ∧ (k = 0 → mL M2 97 0 = v.toInt64) ∧ Inv M2 (m + 1)
section
variable {M M' : Mem} {p m : Nat} {g : Pg} {s : Sg} {L : List Sg} {E : List Se} {I : Option (Sg × List Sg × List Se)} {R : Nat → Int32} {T : List Nat} {f : Int32}
theorem outL (hL : Lay M) {v : Int64} : sL M 97 0 v = some (stL M 97 0 v) := sL_t (i := 0) (hL.t (k := 97) rfl) (by omega) (by omega)
theorem CI.out (h : CI M p g s L E I R T f) {v : Int64} : CI (stL M 97 0 v) p g s L E I R T f := h
theorem MI.out (h : MI M g s L E I R T f) {v : Int64} : MI (stL M 97 0 v) g s L E I R T f := h
theorem Rm.mono {n n' : Nat} (h : Rm M n) (hn : n ≤ n') : Rm M n' := by unfold Rm at *; omega
theorem Rm.eq {n : Nat} (h : Rm M n) (e1 : M'.1 = M.1) (e2 : mS M' = mS M) : Rm M' n := by unfold Rm; rw [e1, e2]; exact h
theorem MI.nw (h : MI M g s L E I R T f) {t : mT} {n : Nat} (hL : Lay M) : MI (nwM M t n) g s L E I R T f := h.fr (hL.kp nw_kp (fun _ _ z => z)) fun k h1 h2 => mI_nw (by have := hL.len; omega)
theorem CI.nw (h : CI M p g s L E I R T f) {t : mT} {n : Nat} : CI (nwM M t n) p g s L E I R T f := h.kp nw_kp (fun _ _ z => z.elim)
/-- the answer: both the same -/
theorem LF.val {co : Option ((Int32 × Mem) ⊕ (Nat × Mem))} {mo : Mem → Option (Int32 × Mem)} {v : Int32} {hnd : Nat → Mem → Option (Int32 × Mem)} (hc : CI M p g s L E I R T f) (hm : MI M g s L E I R T f) (hr : Rm M m) (h1 : CR M co v) (h2 : ∀ M1, MQu M1 g s → MR M1 g s (mo M1) v) : LF m (ckO M 8 0 (bdT co (fun v4 M3 => (sL M3 97 (0 : Int32) (v4.toInt64)).bind fun M5 => some ((0 : Int32), M5)) hnd)) mo := by
  obtain ⟨M1, e1, w1⟩ := h1
  have c1 := hc.q w1.qw
  have m1 := hm.q w1.qw (by rw [w1.m.1]; exact hm.1.2)
  obtain ⟨M2, e2, w2, z2⟩ := h2 (stL M1 97 0 (v.toInt64)) m1.out.1
  refine ⟨0, stL M1 97 0 (v.toInt64), v, M2, ?_, e2, c1.out.1, z2.lay, z2.2, fun _ => ?_, ?_⟩
  · rw [Lc_0 hc.1, e1, bdT_l, outL c1.1, ob_t]
  · rw [w2.2.2.2.1 97 (by omega), mL_stL, if_pos ⟨rfl, rfl⟩]
  · exact ⟨p, g, s, L, E, I, R, T, f, c1.out.q w2, m1.out.q w2 z2.1.2, ((hr.eq w1.1 w1.2.2.1).eq (M' := M2) (by rw [w2.1]; rfl) (by rw [w2.2.2.1]; rfl)).mono (by omega)⟩
theorem LF.thr {co : Option ((Int32 × Mem) ⊕ (Nat × Mem))} {mo : Mem → Option (Int32 × Mem)} {x k : Nat} {hnd : Nat → Mem → Option (Int32 × Mem)} {vv : Int32 → Mem → Option (Int32 × Mem)} (hc : CI M p g s L E I R T f) (hm : MI M g s L E I R T f) (hr : Rm M m) (h1 : CT M co x) (h2 : ∀ M1, MQu M1 g s → MT M1 g s (mo M1) k) (hk : 0 < k ∧ k < 3) (hh : ∀ N, hnd x N = some (nI k, N)) : LF m (ckO M 8 0 (bdT co vv hnd)) mo := by
  have c1 : CI (nwM M (200, 0) 6) p g s L E I R T f := hc.nw
  have m1 : MI (nwM M (200, 0) 6) g s L E I R T f := hm.nw hc.1
  obtain ⟨v, M2, e2, w2, z2, t2⟩ := h2 _ m1.1
  refine ⟨nI k, nwM M (200, 0) 6, v, M2, ?_, e2, c1.1, z2.lay, t2, fun z => absurd z (nI_ne0 hk.1 (by omega)), ?_⟩
  · unfold CT at h1
    rw [Lc_0 hc.1, h1, bdT_r, hh]
  · refine ⟨p, g, s, L, E, I, R, T, f, c1.q w2, m1.q w2 z2.2, ?_⟩
    unfold Rm at *
    rw [w2.1, w2.2.2.1, len_nw, mS_nw]
    omega
theorem LQ0 {co : Option ((Int32 × Mem) ⊕ (Nat × Mem))} {mo : Mem → Option (Int32 × Mem)} (hc : CI M p g s L E I R T f) (hm : MI M g s L E I R T f) (hr : Rm M m) (h : PR 0 M g s co mo) : LF m (ckO M 8 0 (bdT co (fun v4 M3 => (sL M3 97 (0 : Int32) (v4.toInt64)).bind fun M5 => some ((0 : Int32), M5)) fun x7 M8 => if x7 = 1 then some ((1 : Int32), M8) else none)) mo := by
  rcases h with ⟨v, h1, h2⟩ | ⟨-, h1, h2⟩ | ⟨z, -, -⟩
  · exact LF.val hc hm hr h1 h2
  · exact LF.thr hc hm hr h1 h2 (by omega) (fun N => rfl)
  · exact absurd rfl z
theorem LQ1 {co : Option ((Int32 × Mem) ⊕ (Nat × Mem))} {mo : Mem → Option (Int32 × Mem)} (hc : CI M p g s L E I R T f) (hm : MI M g s L E I R T f) (hr : Rm M m) (h : PR 1 M g s co mo) : LF m (ckO M 8 0 (bdT co (fun v4 M3 => (sL M3 97 (0 : Int32) (v4.toInt64)).bind fun M5 => some ((0 : Int32), M5)) fun x7 M8 => if x7 = 0 then some ((1 : Int32), M8) else none)) mo := by
  rcases h with ⟨v, h1, h2⟩ | ⟨z, -, -⟩ | ⟨-, h1, h2⟩
  · exact LF.val hc hm hr h1 h2
  · exact absurd rfl z
  · exact LF.thr hc hm hr h1 h2 (by omega) (fun N => rfl)
theorem LQ2 {co : Option ((Int32 × Mem) ⊕ (Nat × Mem))} {mo : Mem → Option (Int32 × Mem)} (hc : CI M p g s L E I R T f) (hm : MI M g s L E I R T f) (hr : Rm M m) (h : PR 2 M g s co mo) : LF m (ckO M 8 0 (bdT co (fun v4 M3 => (sL M3 97 (0 : Int32) (v4.toInt64)).bind fun M5 => some ((0 : Int32), M5)) fun x7 M8 => if x7 = 1 then some ((1 : Int32), M8) else if x7 = 0 then some ((2 : Int32), M8) else none)) mo := by
  rcases h with ⟨v, h1, h2⟩ | ⟨-, h1, h2⟩ | ⟨-, h1, h2⟩
  · exact LF.val hc hm hr h1 h2
  · exact LF.thr hc hm hr h1 h2 (by omega) (fun N => rfl)
  · exact LF.thr hc hm hr h1 h2 (by omega) (fun N => rfl)
theorem lgc {x : Int64} : lg_cmp x x = 0 := by unfold lg_cmp; simp
theorem aL97 (hL : Lay M) : aL M 97 0 = some (mL M 97 0) := aL_t (i := 0) (hL.t (k := 97) rfl) (by omega) (by omega)
/-- the law's text around a question -/
theorem LF.step {FL : Option (Int32 × Mem)} {mo : Mem → Option (Int32 × Mem)} (h : LF m FL mo) {y : Int32} : ∃ M', (bd2 FL fun v51 M50 => ckO M50 9 67 (bd2 (mo M50) fun v57 M56 => ckO M56 9 67 ((F_X9_thrown 67 M56).bind fun v60 => if v60 = v51 then (if v51 = 0 then (aL M56 97 (0 : Int32)).bind fun v63 => (if (lg_cmp v63 (v57.toInt64)) = 0 then some (.inl (y, M56)) else some (.inr (.inr ((0 : Int32), M56)))) else some (.inl (y, M56))) else some (.inr (.inr ((0 : Int32), M56)))))) = (some (.inl (y, M')) : Option ((Int32 × Mem) ⊕ (Mem ⊕ (Int32 × Mem)))) ∧ Inv M' (m + 1) := by
  obtain ⟨k, M1, v, M2, e1, e2, l1, l2, t, hv, hI⟩ := h
  refine ⟨M2, ?_, hI⟩
  unfold F_X9_thrown
  rw [e1, bd2_t, Lc_67 l1, e2, bd2_t, Lc_67 l2, Lf_67 l2, ob_t, ob_t, t, if_pos rfl]
  by_cases c : k = 0
  · rw [if_pos c, aL97 l2, ob_t, hv c, lgc, if_pos rfl]
  · rw [if_neg c]
end
