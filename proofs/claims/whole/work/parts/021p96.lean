/-! ===== what is seen, forgotten; the fault ===== -/
section
variable {M M' M1 M2 Mx : Mem} {p m : Nat} {g : Pg} {s s' : Sg} {L L' : List Sg} {E E' : List Se} {I I' : Option (Sg × List Sg × List Se)} {R R' : Nat → Int32} {T T' : List Nat} {f f' : Int32}
theorem C_add {a1 n v : Nat} (hc : CI M p g s L E I R T f) (hE : E.length < 8) (ha : a1 < gH g) (hn : n ≤ 20) (hv : v ≤ 99) : ∃ M', F_X5_add 40 (nI a1) (nI n) (nI v) M = some M' ∧ CI M' p g s L (E ++ [(a1, n, nI v)]) I R T f ∧ (∀ k, 67 ≤ k → k < 98 → mI M' k = mI M k) ∧ M'.1 = M.1 ∧ mS M' = mS M := by
  have hs := hc.2.2.2.2.2.2.2.2.2.2.1
  have g1 := hc.2.2.2.1.2.1.1
  have w : Wr [40, 41, 42, 43] M (stI (stI (stI (stI M 41 E.length (nI a1)) 42 E.length (nI n)) 43 E.length (nI v)) 40 3 (nI E.length + 1)) := (((Wr.rfl'.st (by simp)).st (by simp)).st (by simp)).st (by simp)
  have hD : ∀ k ∈ [40, 41, 42, 43], k < 98 := by decide
  refine ⟨_, ?_, hc.re w.kp hD (by decide) (hc.s_kp w.kp (fun k k1 k2 => by simp; omega)) (hc.L_kp w.kp hD (by decide)) ⟨?_, ?_, fun i e he => ?_⟩ (hc.I_kp w.kp hD (by decide) (fun k k1 k2 => by simp; omega)) (hc.R_kp w.kp (by decide)) (hc.T_kp w.kp (by decide)) (hc.f_kp w.kp (by decide)), fun k a b => wr_mI w (by simp; omega), w.1, w.2.2.2.1⟩
  · unfold F_X5_add
    rw [Lf_40 hc.1, ob_t, hs.1, if_neg (show ¬ (8 : Int32) ≤ nI E.length from nI_ge (b := 8) hE (by omega)), Lp_40_0 hc.1, ob_t, ob_t, Lw_41 hc.1 (by omega), ob_t, Lp_40_1 (M := stI M 41 E.length _) hc.1, ob_t, Lf_40 (M := stI M 41 E.length _) hc.1, ob_t, mI_stne (by omega), hs.1, Lw_42 (M := stI M 41 E.length _) hc.1 (by omega), ob_t, Lp_40_2 (M := stI (stI M 41 E.length _) 42 E.length _) hc.1, ob_t, Lf_40 (M := stI (stI M 41 E.length _) 42 E.length _) hc.1, ob_t, mI_stne (by omega), mI_stne (by omega), hs.1, Lw_43 (M := stI (stI M 41 E.length _) 42 E.length _) hc.1 (by omega), ob_t, Lf_40 (M := stI (stI (stI M 41 E.length _) 42 E.length _) 43 E.length _) hc.1, ob_t, Ls_40 (M := stI (stI (stI M 41 E.length _) 42 E.length _) 43 E.length _) hc.1, ob_t, mI_stne (by omega), mI_stne (by omega), mI_stne (by omega), hs.1]
  · rw [mI_steq, upg_eq, List.length_append]; exact nI_1 _
  · rw [List.length_append]; simp; omega
  · have e1 : mI (stI (stI (stI (stI M 41 E.length (nI a1)) 42 E.length (nI n)) 43 E.length (nI v)) 40 3 (nI E.length + 1)) 41 = upg (mI M 41) E.length (nI a1) := by rw [mI_stne (by omega), mI_stne (by omega), mI_stne (by omega), mI_steq]
    have e2 : mI (stI (stI (stI (stI M 41 E.length (nI a1)) 42 E.length (nI n)) 43 E.length (nI v)) 40 3 (nI E.length + 1)) 42 = upg (mI M 42) E.length (nI n) := by rw [mI_stne (by omega), mI_stne (by omega), mI_steq, mI_stne (by omega)]
    have e3 : mI (stI (stI (stI (stI M 41 E.length (nI a1)) 42 E.length (nI n)) 43 E.length (nI v)) 40 3 (nI E.length + 1)) 43 = upg (mI M 43) E.length (nI v) := by rw [mI_stne (by omega), mI_steq, mI_stne (by omega), mI_stne (by omega)]
    rw [e1, e2, e3]
    by_cases c : i < E.length
    · rw [List.getElem?_append_left c] at he
      rw [upg_ne (by omega), upg_ne (by omega), upg_ne (by omega)]
      exact hs.2.2 i e he
    · rw [List.getElem?_append_right (by omega)] at he
      have hi : i - E.length < [((a1, n, nI v) : Se)].length := (List.getElem?_eq_some_iff.mp he).1
      simp at hi
      have ei : i = E.length := by omega
      subst ei
      simp at he
      subst he
      rw [upg_eq, upg_eq, upg_eq]
      exact ⟨rfl, rfl, rfl, ha, hn, ⟨by rw [nI_toInt (by omega)]; omega, by rw [nI_toInt (by omega)]; omega⟩⟩
theorem A_see (hc : CI M p g s L E I R T f) (hm : MI M g s L E I R T f) (hr : Rm M m) (hm5 : m < 512) (x1 x2 x3 : Int32) : LF m (F_L_see 0 x1 x2 x3 97 M) (F_X9_see 67 x1 x2 x3) := by
  have c := hc.cq hr (by omega)
  have g1 := c.gp.1
  have g2 := c.gp.2.1
  obtain ⟨k1, k2⟩ := keep_room hr hm5
  unfold F_L_see
  rcases hcase g x1 g1 with ⟨a1, ha1, rfl⟩ | hx
  rotate_left 1
  · refine LF.thr (k := 1) (x := 1) hc hm hr ?_ (fun M1 m => ?_) (by omega) (fun N => rfl)
    · unfold CT F_X8_see
      have gx := c.needH' hx
      simp only [Lc_0 c.1, bdV_l, bdV_r, gx]
    · obtain ⟨e0, m0, -⟩ := m.zero
      have mx := m0.isH' hx
      refine MT.mk m (v := 0) ?_
      unfold F_X9_see
      simp only [e0, ob_t, Lc_67 m0.lay, bd2_t, ifn1, mx]
      rfl
  have hs := hc.2.2.2.2.2.2.2.2.2.2.1
  have e57 : F_X8_see_j49 0 M = some (.inl (-1, stI M 57 2 (R 2 + 1))) := by
    obtain ⟨e1, e2, -, -⟩ := C_ref hc (k := 2) (by omega)
    have e1' : aI M 100 57 2 = _ := e1
    have e2' : sI M 100 57 2 (R 2 + 1) = _ := e2
    unfold F_X8_see_j49
    rw [Lp_0_12 c.1, ob_t, e1', ob_t, e2', ob_t]
  have refuse : F_X8_see 0 (nI a1) x2 x3 M = some (.inl (-1, stI M 57 2 (R 2 + 1))) → (∀ N, MI N g s L E I R T f → F_X9_see 67 (nI a1) x2 x3 N = (bd2 (F_X9_refuses 67 2 (stI N 67 0 0)) fun a b => some (a, b))) → LF m (ckO M 8 0 (bdT (F_X8_see 0 (nI a1) x2 x3 M) (fun v4 M3 => (sL M3 97 (0 : Int32) (v4.toInt64)).bind fun M5 => some ((0 : Int32), M5)) fun x7 M8 => if x7 = 1 then some ((1 : Int32), M8) else none)) (F_X9_see 67 (nI a1) x2 x3) := by
    intro e1 e2
    refine LF.ref (k := 2) (by omega) c.1 hr hc hm rfl rfl e1 (fun N hN => ?_)
    obtain ⟨e0, zN, wN⟩ := hN.zero
    exact ⟨_, zN, wN, e2 N hN⟩
  have mpre : ∀ N, MI N g s L E I R T f → F_X9_see 67 (nI a1) x2 x3 N = (if nI E.length = (8 : Int32) then (bd2 (F_X9_refuses 67 2 (stI N 67 0 0)) fun a b => some (a, b)) else (F_X9_within x2 (0 : Int32) (20 : Int32) (stI N 67 0 0)).bind fun v16 => if v16 = 0 then (bd2 (F_X9_refuses 67 2 (stI N 67 0 0)) fun a b => some (a, b)) else (F_X9_within x3 (0 : Int32) (99 : Int32) (stI N 67 0 0)).bind fun v23 => if v23 = 0 then (bd2 (F_X9_refuses 67 2 (stI N 67 0 0)) fun a b => some (a, b)) else (sI (stI N 67 0 0) 100 91 ((3 : Int32) * nI E.length) (nI a1)).bind fun M29 => (gP M29 9 67 52).bind fun v31 => (gI M29 9 67 51).bind fun v33 => (sI M29 100 v31 (((3 : Int32) * v33) + (1 : Int32)) x2).bind fun M35 => (gP M35 9 67 52).bind fun v37 => (gI M35 9 67 51).bind fun v39 => (sI M35 100 v37 (((3 : Int32) * v39) + (2 : Int32)) x3).bind fun M41 => (gI M41 9 67 51).bind fun v43 => (pI M41 9 67 51 (v43 + (1 : Int32))).bind fun M45 => (gI M45 9 67 51).bind fun v47 => some (v47, M45)) := by
    intro N hN
    obtain ⟨e0, zN, -⟩ := hN.zero
    unfold F_X9_see
    simp only [e0, ob_t, Lc_67 zN.lay, zN.z.isH ha1, bd2_t, ifn1, Lf_67 zN.lay, zN.1.2.2.1.1, Lp_67_52 zN.lay]
  rcases ncase x2 0 20 (by omega) (by omega) with ⟨n, -, n2, rfl⟩ | hx
  rotate_left 1
  · refine refuse ?_ (fun N hN => ?_)
    · unfold F_X8_see F_X8_see_j29 F_X8_see_j30
      rw [Lc_0 c.1, c.needH ha1, bdV_l]
      by_cases h0 : x2 < 0
      · rw [if_pos h0, if_pos rfl, e57]
      · rw [if_neg h0, if_pos (show (20 : Int32) < x2 from hx.resolve_left h0), if_pos rfl, e57]
    · have ew : F_X9_within x2 0 20 (stI N 67 0 0) = some 0 := F_within' (a := 0) (b := 20) hx
      rw [mpre N hN, ew, ob_t, if_pos rfl]
      split <;> rfl
  rcases ncase x3 0 99 (by omega) (by omega) with ⟨v, -, v2, rfl⟩ | hx
  rotate_left 1
  · refine refuse ?_ (fun N hN => ?_)
    · unfold F_X8_see F_X8_see_j29 F_X8_see_j30
      rw [Lc_0 c.1, c.needH ha1, bdV_l, if_neg (nI_pos (by omega)), if_neg (show ¬ (20 : Int32) < nI n from nI_nlt (a := 20) n2 (by omega))]
      by_cases h0 : x3 < 0
      · rw [if_pos h0, if_pos rfl, e57]
      · rw [if_neg h0, if_pos (show (99 : Int32) < x3 from hx.resolve_left h0), if_pos rfl, e57]
    · have ew : F_X9_within (nI n) 0 20 (stI N 67 0 0) = some 1 := F_within (x := 0) (a := 0) (b := 20) (by omega) (by omega) (by omega) n2
      have ew2 : F_X9_within x3 0 99 (stI N 67 0 0) = some 0 := F_within' (a := 0) (b := 99) hx
      rw [mpre N hN, ew, ob_t, if_neg (show ¬ (1 : Int32) = 0 by decide), ew2, ob_t, if_pos rfl]
      split <;> rfl
  have pre : F_X8_see 0 (nI a1) (nI n) (nI v) M = (if nI E.length < (8 : Int32) then ((F_X5_add 40 (nI a1) (nI n) (nI v) M).bind fun M23 => (gP M23 8 0 7).bind fun v25 => ckO M23 5 v25 ((F_X5_many v25 M23).bind fun v29 => some (.inl (v29, M23)))) else some (.inl (-1, stI M 57 2 (R 2 + 1)))) := by
    unfold F_X8_see F_X8_see_j30
    rw [Lc_0 c.1, c.needH ha1, bdV_l, if_neg (nI_pos (by omega)), if_neg (show ¬ (20 : Int32) < nI n from nI_nlt (a := 20) n2 (by omega)), if_neg (nI_pos (by omega)), if_neg (show ¬ (99 : Int32) < nI v from nI_nlt (a := 99) v2 (by omega)), if_neg (by decide), Lp_0_7 c.1, ob_t, Lc_40 c.1]
    unfold F_X5_many
    rw [Lf_40 c.1, ob_t, ob_t, hs.1, ob_t, Lc_40 c.1, e57]
  by_cases hE : E.length < 8
  rotate_left 1
  · have e8 : E.length = 8 := by have := hs.2.1; omega
    refine refuse ?_ (fun N hN => ?_)
    · rw [pre, if_neg (show ¬ nI E.length < (8 : Int32) from nI_nlt (b := 8) (by omega) (by omega))]
    · rw [mpre N hN, if_pos (show nI E.length = (8 : Int32) by rw [e8]; rfl)]
  obtain ⟨M3, e3, c3, w3, l3, s3⟩ := C_add hc hE ha1 n2 v2
  have el : (E ++ [((a1, n, nI v) : Se)]).length = E.length + 1 := by simp
  have pre2 : F_X8_see 0 (nI a1) (nI n) (nI v) M = some (.inl (nI (E.length + 1), M3)) := by
    unfold F_X5_many at pre
    rw [pre, if_pos (show nI E.length < (8 : Int32) from nI_lt (b := 8) hE (by omega)), e3, ob_t, Lp_0_7 c3.1, ob_t, Lc_40 c3.1, Lf_40 c3.1, ob_t, ob_t, c3.2.2.2.2.2.2.2.2.2.2.1.1, el]
  have m3 : MI (stL M3 97 0 ((nI (E.length + 1)).toInt64)) g s L E I R T f := MI.out (hm.fr c3.1 fun k a b => w3 k a (by omega))
  obtain ⟨e0, zN, wN⟩ := m3.zero
  have ew : ∀ N : Mem, F_X9_within (nI n) 0 20 N = some 1 := fun N => F_within (x := 0) (a := 0) (b := 20) (by omega) (by omega) (by omega) n2
  have ew2 : ∀ N : Mem, F_X9_within (nI v) 0 99 N = some 1 := fun N => F_within (x := 0) (a := 0) (b := 99) (by omega) (by omega) (by omega) v2
  have hn8 : ¬ nI E.length = (8 : Int32) := fun z => by
    have := (nI_eq (a := E.length) (b := 8) (by omega) (by omega)).mp z; omega
  generalize hN0 : stI (stL M3 97 0 ((nI (E.length + 1)).toInt64)) 67 0 0 = N0 at *
  have x51 := zN.1.2.2.1.1
  have i0 : (3 : Int32) * nI E.length = nI (3 * E.length) := nI_mul (a := 3)
  have i1 : (3 : Int32) * nI E.length + 1 = nI (3 * E.length + 1) := by rw [i0]; exact nI_1 _
  have i2 : (3 : Int32) * nI E.length + 2 = nI (3 * E.length + 2) := by rw [i0]; exact nI_add _ 2
  have fr1 : Wr [91] N0 (stI (stI (stI N0 91 (3 * E.length) (nI a1)) 91 (3 * E.length + 1) (nI n)) 91 (3 * E.length + 2) (nI v)) := ((Wr.rfl'.st (by simp)).st (by simp)).st (by simp)
  generalize hN1 : stI (stI (stI N0 91 (3 * E.length) (nI a1)) 91 (3 * E.length + 1) (nI n)) 91 (3 * E.length + 2) (nI v) = N1 at *
  have e91 : mI N1 91 = upg (upg (upg (mI N0 91) (3 * E.length) (nI a1)) (3 * E.length + 1) (nI n)) (3 * E.length + 2) (nI v) := by rw [← hN1, mI_steq, mI_steq, mI_steq]
  have hL1 : Lay N1 := zN.lay.wr fr1
  have sm : ∀ k, k ≠ 67 → k ≠ 91 → mI (stI N1 67 51 (nI E.length + 1)) k = mI N0 k := fun k a b => by rw [mI_stne a, wr_mI fr1 (by simp; exact b)]
  have s67 : ∀ j, j ≠ 51 → mI (stI N1 67 51 (nI E.length + 1)) 67 j = mI N0 67 j := fun j hj => by rw [mI_steq, upg_ne hj, wr_mI fr1 (by decide)]
  have z5 : ZI (stI N1 67 51 (nI E.length + 1)) g s L (E ++ [((a1, n, nI v) : Se)]) I R T f := by
    refine ⟨⟨zN.1.1.fr hL1 (fun k a b => sm k (by omega) (by omega)) (fun j hj => s67 j (by omega)) (by rw [sm 83 (by omega) (by omega)]; exact zN.1.1.1.rw) zN.1.1.1.gd, ?_, ⟨?_, ?_, fun i e he => ?_⟩, zN.1.2.2.2.1.fr (fun j hj => s67 j (by omega)) ⟨sm 94 (by omega) (by omega), sm 95 (by omega) (by omega), sm 96 (by omega) (by omega)⟩, ?_, ?_, ?_⟩, by rw [s67 0 (by omega)]; exact zN.2⟩
    · rw [s67 43 (by omega)]; exact zN.1.2.1.fr (sm 84 (by omega) (by omega))
    · rw [mI_steq, upg_eq, el]; exact nI_1 _
    · rw [el]; omega
    · rw [mI_stne (by omega), e91]
      by_cases c : i < E.length
      · rw [List.getElem?_append_left c] at he
        rw [upg_ne (by omega), upg_ne (by omega), upg_ne (by omega), upg_ne (by omega), upg_ne (by omega), upg_ne (by omega), upg_ne (by omega), upg_ne (by omega), upg_ne (by omega)]
        exact zN.1.2.2.1.2.2 i e he
      · rw [List.getElem?_append_right (by omega)] at he
        have hi : i - E.length < [((a1, n, nI v) : Se)].length := (List.getElem?_eq_some_iff.mp he).1
        simp at hi
        have ei : i = E.length := by omega
        subst ei
        simp at he
        subst he
        refine ⟨?_, ?_, ?_⟩
        · rw [upg_ne (by omega), upg_ne (by omega), upg_eq]
        · rw [upg_ne (by omega), upg_eq]
        · rw [upg_eq]
    · rw [sm 74 (by omega) (by omega)]; exact zN.1.2.2.2.2.1
    · rw [s67 12 (by omega), sm 73 (by omega) (by omega)]; exact zN.1.2.2.2.2.2.1
    · rw [s67 14 (by omega)]; exact zN.1.2.2.2.2.2.2
  refine LF.act c.1 hr pre2 c3 (by rw [l3]; omega) (by rw [s3]; omega) (M2 := stI N1 67 51 (nI E.length + 1)) ?_ z5 ((wN.trans (fr1.fm (by simp))).st (by omega))
  rw [mpre _ m3, hN0, if_neg hn8, ew, ob_t, if_neg (by decide), ew2, ob_t, if_neg (by decide), i0, Lw_91 zN.lay (by omega), ob_t, Lp_67_52 (M := stI N0 91 _ _) zN.lay, ob_t, Lf_67 (M := stI N0 91 _ _) zN.lay, ob_t, mI_stne (by omega), x51, i1, Lw_91 (M := stI N0 91 _ _) zN.lay (by omega), ob_t, Lp_67_52 (M := stI (stI N0 91 _ _) 91 _ _) zN.lay, ob_t, Lf_67 (M := stI (stI N0 91 _ _) 91 _ _) zN.lay, ob_t, mI_stne (by omega), mI_stne (by omega), x51, i2, Lw_91 (M := stI (stI N0 91 _ _) 91 _ _) zN.lay (by omega), ob_t, hN1, Lf_67 hL1, ob_t, wr_mI fr1 (by decide), x51, Ls_67 hL1, ob_t, Lf_67 (M := stI N1 67 51 _) hL1, ob_t, mI_steq, upg_eq, nI_1]

/-- acts that answer nothing -/
def VF (m : Nat) (co : Option Mem) (mo : Mem → Option Mem) : Prop := ∃ M1 M2, co = some M1 ∧ mo M1 = some M2 ∧ Lay M1 ∧ Inv M2 (m + 1)
theorem A_forget (hc : CI M p g s L E I R T f) (hm : MI M g s L E I R T f) (hr : Rm M m) : VF m (F_X8_forget 0 M) (F_X9_forget 67) := by
  have w : Wr [40] M (stI M 40 3 0) := Wr.rfl'.st (by simp)
  have hD : ∀ k ∈ [40], k < 98 := by decide
  have c1 : CI (stI M 40 3 0) p g s L [] I R T f := hc.re w.kp hD (by decide) (hc.s_kp w.kp (fun k k1 k2 => by simp; omega)) (hc.L_kp w.kp hD (by decide)) ⟨by rw [mI_steq, upg_eq]; rfl, by simp, fun i e he => by simp at he⟩ (hc.I_kp w.kp hD (by decide) (fun k k1 k2 => by simp; omega)) (hc.R_kp w.kp (by decide)) (hc.T_kp w.kp (by decide)) (hc.f_kp w.kp (by decide))
  have m1 : MI (stI M 40 3 0) g s L E I R T f := hm.fr c1.1 fun k a b => mI_stne (by omega)
  obtain ⟨e0, zN, wN⟩ := m1.zero
  generalize hN0 : stI (stI M 40 3 0) 67 0 0 = N0 at *
  have sm : ∀ k, k ≠ 67 → mI (stI N0 67 51 0) k = mI N0 k := fun k a => mI_stne a
  have s67 : ∀ j, j ≠ 51 → mI (stI N0 67 51 0) 67 j = mI N0 67 j := fun j hj => by rw [mI_steq, upg_ne hj]
  have z5 : MI (stI N0 67 51 0) g s L [] I R T f := by
    refine ⟨zN.1.1.fr zN.lay (fun k a b => sm k (by omega)) (fun j hj => s67 j (by omega)) (by rw [sm 83 (by omega)]; exact zN.1.1.1.rw) zN.1.1.1.gd, ?_, ⟨by rw [mI_steq, upg_eq]; rfl, by simp, fun i e he => by simp at he⟩, zN.1.2.2.2.1.fr (fun j hj => s67 j (by omega)) ⟨sm 94 (by omega), sm 95 (by omega), sm 96 (by omega)⟩, ?_, ?_, ?_⟩
    · rw [s67 43 (by omega)]; exact zN.1.2.1.fr (sm 84 (by omega))
    · rw [sm 74 (by omega)]; exact zN.1.2.2.2.2.1
    · rw [s67 12 (by omega), sm 73 (by omega)]; exact zN.1.2.2.2.2.2.1
    · rw [s67 14 (by omega)]; exact zN.1.2.2.2.2.2.2
  refine ⟨stI M 40 3 0, stI N0 67 51 0, ?_, ?_, c1.1, fin hr c1 z5 (wN.st (by omega)) (by show M.1.length ≤ _; omega) (by show mS M ≤ _; omega)⟩
  · unfold F_X8_forget F_X5_clear
    rw [Lp_0_7 hc.1, ob_t, Lc_40 hc.1, Ls_40 hc.1, ob_t, ob_t]
  · unfold F_X9_forget
    rw [e0, ob_t, Ls_67 zN.lay, ob_t]
theorem A_fault (hc : CI M p g s L E I R T f) (hm : MI M g s L E I R T f) (hr : Rm M m) : F_X8_fault 0 M = some f ∧ ∃ M2, F_X9_fault 67 M = some (f, M2) ∧ Inv M2 (m + 1) := by
  obtain ⟨e0, zN, wN⟩ := hm.zero
  refine ⟨?_, _, ?_, fin hr hc zN.1 wN (by omega) (by omega)⟩
  · unfold F_X8_fault
    rw [Lf_0 hc.1, ob_t, hc.2.2.2.2.2.2.2.2.2.2.2.2.2.2]
  · unfold F_X9_fault
    rw [e0, ob_t, Lf_67 zN.lay, ob_t, zN.1.2.2.2.2.2.2]
end
