section
variable {M : Mem} {p : Nat} {g : Pg} {s : Sg}
theorem P_goes (c : CQ M p g s) (x1 : Int32) : PR 0 M g s (F_X8_goes 0 x1 M) (F_X9_goes 67 x1) := by
  have g1 := c.gp.1
  have g2 := c.gp.2.1
  rcases pcase g x1 g2 with ⟨a1, ha1, rfl⟩ | hx
  rotate_left 1
  · refine Or.inr (Or.inl ⟨by decide, ?_, fun M1 m => ?_⟩)
    · unfold CT F_X8_goes
      have gx := c.needP' hx
      simp only [Lc_0 c.1, bdV_l, bdV_r, gx]
    · obtain ⟨e0, m0, -⟩ := m.zero
      have mx := m0.isP' hx
      refine MT.mk m (v := 0) ?_
      unfold F_X9_goes
      simp only [e0, ob_t, Lc_67 m0.lay, bd2_t, ifn1, mx]
      rfl
  refine Or.inl ⟨itN (fun k a => if goI g s a1 k (dampS g s) = 0 then a else a ||| one k) 0 (gH g), ?_, fun M1 m => ?_⟩
  · unfold CR F_X8_goes
    have gc1 := c.needP ha1
    simp only [Lc_0 c.1, bdV_l, ob_t, gc1]
    obtain ⟨M', e, c', w⟩ := loop_q (step := fun z : Int32 × Int32 × Mem => F_X8_goes_s9 0 (nI a1) z.1 z.2.1 z.2.2) (fun i a M' => (a, nI i, M')) (fun a M' => (a, M')) (fun k a => if goI g s a1 k (dampS g s) = 0 then a else a ||| one k) 0 (gH g) (fun _ M' => CQ M' p g s ∧ QC M M') ⟨c, QC.rfl'⟩ (by
      rintro i M' hi ⟨c', w'⟩
      obtain ⟨M2, e2, w2⟩ := c'.go ha1 hi
      refine ⟨M2, ?_, c'.c w2, w'.trans w2⟩
      unfold F_X8_goes_s9
      simp only [c'.pp, ob_t, c'.nH, if_neg (nI_ge hi (show gH g < 2 ^ 31 by omega)), Lc_0 c'.1, e2, bd2_t, nI_1, nm_t]
      split <;> rfl) (by
      rintro M' ⟨c', w'⟩
      unfold F_X8_goes_s9
      simp only [c'.pp, ob_t, c'.nH, if_pos (nI_le (Nat.le_refl (gH g)) (show gH g < 2 ^ 31 by omega))])
    refine ⟨M', ?_, w⟩
    rw [show ((0 : Int32), (0 : Int32), M) = ((0 : Int32), nI 0, M) from rfl, e]; rfl
  · obtain ⟨e0, m0, w0⟩ := m.zero
    have gm1 := m0.isP ha1
    unfold MR F_X9_goes
    simp only [e0, ob_t, Lc_67 m0.lay, bd2_t, ifn1, gm1]
    generalize stI M1 67 0 0 = M0 at *
    obtain ⟨M', e, m', w⟩ := loop_q (step := fun z : Int32 × Int32 × Mem => F_X9_goes_s19 67 (nI a1) z.1 z.2.1 z.2.2) (fun i a M' => (a, nI i, M')) (fun a M' => (a, M')) (fun k a => if goI g s a1 k (dampS g s) = 0 then a else a ||| one k) 0 (gH g) (fun _ M' => MZu M' g s ∧ QW M1 M') ⟨m0, w0⟩ (by
      rintro i M' hi ⟨m', w'⟩
      obtain ⟨M2, e2, m2, w2⟩ := m'.go ha1 hi
      refine ⟨M2, ?_, m2, w'.trans w2⟩
      unfold F_X9_goes_s19
      simp only [ob_t, m'.b.nH, if_neg (nI_ge hi (show gH g < 2 ^ 31 by omega)), Lc_67 m'.lay, e2, bd2_t, nI_1, nm_t, or0]
      split <;> rfl) (by
      rintro M' ⟨m', w'⟩
      unfold F_X9_goes_s19
      simp only [ob_t, m'.b.nH, if_pos (nI_le (Nat.le_refl (gH g)) (show gH g < 2 ^ 31 by omega))])
    refine ⟨M', ?_, w, m'⟩
    rw [show ((0 : Int32), (0 : Int32), M0) = ((0 : Int32), nI 0, M0) from rfl, e]; rfl
theorem P_heirs (c : CQ M p g s) (x1 : Int32) : PR 0 M g s (F_X8_heirs 0 x1 M) (F_X9_heirs 67 x1) := by
  have g1 := c.gp.1
  have g2 := c.gp.2.1
  rcases hcase g x1 g1 with ⟨a1, ha1, rfl⟩ | hx
  rotate_left 1
  · refine Or.inr (Or.inl ⟨by decide, ?_, fun M1 m => ?_⟩)
    · unfold CT F_X8_heirs
      have gx := c.needH' hx
      simp only [Lc_0 c.1, bdV_l, bdV_r, gx]
    · obtain ⟨e0, m0, -⟩ := m.zero
      have mx := m0.isH' hx
      refine MT.mk m (v := 0) ?_
      unfold F_X9_heirs
      simp only [e0, ob_t, Lc_67 m0.lay, bd2_t, ifn1, mx]
      rfl
  refine Or.inl ⟨itN (fun k a => if goI g s k a1 (dampS g s) = 0 then a else a ||| one k) 0 (gN g), ?_, fun M1 m => ?_⟩
  · unfold CR F_X8_heirs
    have gc1 := c.needH ha1
    simp only [Lc_0 c.1, bdV_l, ob_t, gc1]
    obtain ⟨M', e, c', w⟩ := loop_q (step := fun z : Int32 × Int32 × Mem => F_X8_heirs_s9 0 (nI a1) z.1 z.2.1 z.2.2) (fun i a M' => (a, nI i, M')) (fun a M' => (a, M')) (fun k a => if goI g s k a1 (dampS g s) = 0 then a else a ||| one k) 0 (gN g) (fun _ M' => CQ M' p g s ∧ QC M M') ⟨c, QC.rfl'⟩ (by
      rintro i M' hi ⟨c', w'⟩
      obtain ⟨M2, e2, w2⟩ := c'.go hi ha1
      refine ⟨M2, ?_, c'.c w2, w'.trans w2⟩
      unfold F_X8_heirs_s9
      simp only [c'.pp, ob_t, c'.nN, if_neg (nI_ge hi (show gN g < 2 ^ 31 by omega)), Lc_0 c'.1, e2, bd2_t, nI_1, nm_t]
      split <;> rfl) (by
      rintro M' ⟨c', w'⟩
      unfold F_X8_heirs_s9
      simp only [c'.pp, ob_t, c'.nN, if_pos (nI_le (Nat.le_refl (gN g)) (show gN g < 2 ^ 31 by omega))])
    refine ⟨M', ?_, w⟩
    rw [show ((0 : Int32), (0 : Int32), M) = ((0 : Int32), nI 0, M) from rfl, e]; rfl
  · obtain ⟨e0, m0, w0⟩ := m.zero
    have gm1 := m0.isH ha1
    unfold MR F_X9_heirs
    simp only [e0, ob_t, Lc_67 m0.lay, bd2_t, ifn1, gm1]
    generalize stI M1 67 0 0 = M0 at *
    obtain ⟨M', e, m', w⟩ := loop_q (step := fun z : Int32 × Int32 × Mem => F_X9_heirs_s19 67 (nI a1) z.1 z.2.1 z.2.2) (fun i a M' => (a, nI i, M')) (fun a M' => (a, M')) (fun k a => if goI g s k a1 (dampS g s) = 0 then a else a ||| one k) 0 (gN g) (fun _ M' => MZu M' g s ∧ QW M1 M') ⟨m0, w0⟩ (by
      rintro i M' hi ⟨m', w'⟩
      obtain ⟨M2, e2, m2, w2⟩ := m'.go hi ha1
      refine ⟨M2, ?_, m2, w'.trans w2⟩
      unfold F_X9_heirs_s19
      simp only [ob_t, m'.b.nN, if_neg (nI_ge hi (show gN g < 2 ^ 31 by omega)), Lc_67 m'.lay, e2, bd2_t, nI_1, nm_t, or0]
      split <;> rfl) (by
      rintro M' ⟨m', w'⟩
      unfold F_X9_heirs_s19
      simp only [ob_t, m'.b.nN, if_pos (nI_le (Nat.le_refl (gN g)) (show gN g < 2 ^ 31 by omega))])
    refine ⟨M', ?_, w, m'⟩
    rw [show ((0 : Int32), (0 : Int32), M0) = ((0 : Int32), nI 0, M0) from rfl, e]; rfl
theorem P_larger (c : CQ M p g s) (x1 : Int32) : PR 0 M g s (F_X8_larger 0 x1 M) (F_X9_larger 67 x1) := by
  have g1 := c.gp.1
  have g2 := c.gp.2.1
  rcases pcase g x1 g2 with ⟨a1, ha1, rfl⟩ | hx
  rotate_left 1
  · refine Or.inr (Or.inl ⟨by decide, ?_, fun M1 m => ?_⟩)
    · unfold CT F_X8_larger
      have gx := c.needP' hx
      simp only [Lc_0 c.1, bdV_l, bdV_r, gx]
    · obtain ⟨e0, m0, -⟩ := m.zero
      have mx := m0.isP' hx
      refine MT.mk m (v := 0) ?_
      unfold F_X9_larger
      simp only [e0, ob_t, Lc_67 m0.lay, bd2_t, ifn1, mx]
      rfl
  refine Or.inl ⟨itN (fun k a => if sHee s k ≤ sHee s a1 then a else a + 1) 0 (gN g), ?_, fun M1 m => ?_⟩
  · unfold CR F_X8_larger
    have gc1 := c.needP ha1
    simp only [Lc_0 c.1, bdV_l, ob_t, gc1]
    have e := loop_p (step := fun z : Int32 × Int32 => F_X8_larger_s9 0 (nI a1) M z.1 z.2) (fun i a => (a, nI i)) (fun k a => if sHee s k ≤ sHee s a1 then a else a + 1) 0 (gN g) (r := itN (fun k a => if sHee s k ≤ sHee s a1 then a else a + 1) 0 (gN g)) (by
      intro i hi
      unfold F_X8_larger_s9
      simp only [c.pp, ob_t, c.nN, if_neg (nI_ge hi (show gN g < 2 ^ 31 by omega)), Lp_0_4 c.1, Lp_24_6 c.1, c.hee hi, c.hee ha1, nI_1]
      split <;> rfl) (by
      unfold F_X8_larger_s9
      simp only [c.pp, ob_t, c.nN, if_pos (nI_le (Nat.le_refl (gN g)) (show gN g < 2 ^ 31 by omega))])
    exact ⟨M, by rw [show ((0 : Int32), (0 : Int32)) = ((0 : Int32), nI 0) from rfl, e]; rfl, QC.rfl'⟩
  · obtain ⟨e0, m0, w0⟩ := m.zero
    have gm1 := m0.isP ha1
    unfold MR F_X9_larger
    simp only [e0, ob_t, Lc_67 m0.lay, bd2_t, ifn1, gm1]
    generalize stI M1 67 0 0 = M0 at *
    have e := loop_p (step := fun z : Int32 × Int32 => F_X9_larger_s19 67 (nI a1) M0 z.1 z.2) (fun i a => (a, nI i)) (fun k a => if sHee s k ≤ sHee s a1 then a else a + 1) 0 (gN g) (r := itN (fun k a => if sHee s k ≤ sHee s a1 then a else a + 1) 0 (gN g)) (by
      intro i hi
      unfold F_X9_larger_s19
      simp only [ob_t, m0.b.nN, if_neg (nI_ge hi (show gN g < 2 ^ 31 by omega)), Lp_67_41 m0.lay, m0.hee hi, m0.hee ha1, nI_1, Int32.add_zero]
      split <;> rfl) (by
      unfold F_X9_larger_s19
      simp only [ob_t, m0.b.nN, if_pos (nI_le (Nat.le_refl (gN g)) (show gN g < 2 ^ 31 by omega))])
    exact ⟨M0, by rw [show ((0 : Int32), (0 : Int32)) = ((0 : Int32), nI 0) from rfl, e]; rfl, w0, m0⟩
theorem P_toStuff (c : CQ M p g s) (x1 x2 : Int32) : PR 0 M g s (F_X8_toStuff 0 x1 x2 M) (F_X9_toStuff 67 x1 x2) := by
  have g1 := c.gp.1
  have g2 := c.gp.2.1
  rcases pcase g x1 g2 with ⟨a1, ha1, rfl⟩ | hx
  rotate_left 1
  · refine Or.inr (Or.inl ⟨by decide, ?_, fun M1 m => ?_⟩)
    · unfold CT F_X8_toStuff
      have gx := c.needP' hx
      simp only [Lc_0 c.1, bdV_l, bdV_r, gx]
    · obtain ⟨e0, m0, -⟩ := m.zero
      have mx := m0.isP' hx
      refine MT.mk m (v := 0) ?_
      unfold F_X9_toStuff
      simp only [e0, ob_t, Lc_67 m0.lay, bd2_t, ifn1, mx]
      rfl
  rcases hcase g x2 g1 with ⟨a2, ha2, rfl⟩ | hx
  rotate_left 1
  · refine Or.inr (Or.inl ⟨by decide, ?_, fun M1 m => ?_⟩)
    · unfold CT F_X8_toStuff
      have gc1 := c.needP ha1
      have gx := c.needH' hx
      simp only [Lc_0 c.1, bdV_l, bdV_r, gx, gc1]
    · obtain ⟨e0, m0, -⟩ := m.zero
      have gm1 := m0.isP ha1
      have mx := m0.isH' hx
      refine MT.mk m (v := 0) ?_
      unfold F_X9_toStuff
      simp only [e0, ob_t, Lc_67 m0.lay, bd2_t, ifn1, mx, gm1]
      rfl
  refine Or.inl ⟨if (20 : Int32) < mxI 0 (sSiz s a2 - sHee s a1) then -1 else mxI 0 (sSiz s a2 - sHee s a1), ?_, fun M1 m => ?_⟩
  · unfold CR F_X8_toStuff
    have gc1 := c.needP ha1
    have gc2 := c.needH ha2
    simp only [Lc_0 c.1, bdV_l, ob_t, gc1, gc2]
    simp only [Lp_0_4 c.1, ob_t, Lp_24_3 c.1, Lp_24_6 c.1, c.siz ha2, c.hee ha1, nm_t]
    refine ⟨M, ?_, QC.rfl'⟩
    split <;> rfl
  · obtain ⟨e0, m0, w0⟩ := m.zero
    have gm1 := m0.isP ha1
    have gm2 := m0.isH ha2
    unfold MR F_X9_toStuff
    simp only [e0, ob_t, Lc_67 m0.lay, bd2_t, ifn1, gm1, gm2]
    generalize stI M1 67 0 0 = M0 at *
    have hb : bnd (sSiz s a2 - sHee s a1) (-99) 99999 := by
      have h1 := (m0.b.gd.2.2.2.1 a1 ha1).1
      have h2 := (m0.b.gd.2.2.1 a2 ha2).1
      unfold bnd at *
      rw [ti_sub (by omega) (by omega)]; omega
    simp only [Lp_67_41 m0.lay, ob_t, m0.siz ha2, m0.hee ha1, F_bounded, bounded0 hb (by omega)]
    refine ⟨M0, ?_, w0, m0⟩
    by_cases cc : (20 : Int32) < mxI 0 (sSiz s a2 - sHee s a1)
    · rw [if_pos cc, if_neg (fun z => by rw [ti_lt] at cc; rw [ti_le] at z; omega)]
    · rw [if_neg cc, if_pos (by rw [ti_lt] at cc; rw [ti_le]; omega)]
theorem P_eases (c : CQ M p g s) (x1 x2 : Int32) : PR 0 M g s (F_X8_eases 0 x1 x2 M) (F_X9_eases 67 x1 x2) := by
  have g1 := c.gp.1
  have g2 := c.gp.2.1
  rcases pcase g x1 g2 with ⟨a1, ha1, rfl⟩ | hx
  rotate_left 1
  · refine Or.inr (Or.inl ⟨by decide, ?_, fun M1 m => ?_⟩)
    · unfold CT F_X8_eases
      have gx := c.needP' hx
      simp only [Lc_0 c.1, bdV_l, bdV_r, gx]
    · obtain ⟨e0, m0, -⟩ := m.zero
      have mx := m0.isP' hx
      refine MT.mk m (v := 0) ?_
      unfold F_X9_eases
      simp only [e0, ob_t, Lc_67 m0.lay, bd2_t, ifn1, mx]
      rfl
  rcases hcase g x2 g1 with ⟨a2, ha2, rfl⟩ | hx
  rotate_left 1
  · refine Or.inr (Or.inl ⟨by decide, ?_, fun M1 m => ?_⟩)
    · unfold CT F_X8_eases
      have gc1 := c.needP ha1
      have gx := c.needH' hx
      simp only [Lc_0 c.1, bdV_l, bdV_r, gx, gc1]
    · obtain ⟨e0, m0, -⟩ := m.zero
      have gm1 := m0.isP ha1
      have mx := m0.isH' hx
      refine MT.mk m (v := 0) ?_
      unfold F_X9_eases
      simp only [e0, ob_t, Lc_67 m0.lay, bd2_t, ifn1, mx, gm1]
      rfl
  refine Or.inl ⟨easeS g s a1 a2 (dampS g s), ?_, fun M1 m => ?_⟩
  · unfold CR F_X8_eases
    have gc1 := c.needP ha1
    have gc2 := c.needH ha2
    simp only [Lc_0 c.1, bdV_l, ob_t, gc1, gc2]
    obtain ⟨M', e, w⟩ := c.eas ha1 ha2 (d := dampS g s)
    refine ⟨M', ?_, w⟩
    simp only [c.pp, ob_t, Lp_0_4 c.1, c.ck, c.damp, e, bd2_t]
  · obtain ⟨e0, m0, w0⟩ := m.zero
    have gm1 := m0.isP ha1
    have gm2 := m0.isH ha2
    unfold MR F_X9_eases
    simp only [e0, ob_t, Lc_67 m0.lay, bd2_t, ifn1, gm1, gm2]
    generalize stI M1 67 0 0 = M0 at *
    obtain ⟨M', e, m', w⟩ := m0.eas ha1 ha2
    refine ⟨M', ?_, w0.trans w, m'⟩
    simp only [e, bd2_t]
theorem P_then (c : CQ M p g s) (x1 x2 x3 : Int32) : PR 2 M g s (F_X8_then 0 x1 x2 x3 M) (F_X9_then 67 x1 x2 x3) := by
  have g1 := c.gp.1
  have g2 := c.gp.2.1
  rcases pcase g x1 g2 with ⟨a1, ha1, rfl⟩ | hx
  rotate_left 1
  · refine Or.inr (Or.inl ⟨by decide, ?_, fun M1 m => ?_⟩)
    · unfold CT F_X8_then
      have gx := c.needP' hx
      simp only [Lc_0 c.1, bdV_l, bdV_r, gx]
    · obtain ⟨e0, m0, -⟩ := m.zero
      have mx := m0.isP' hx
      refine MT.mk m (v := 0) ?_
      unfold F_X9_then
      simp only [e0, ob_t, Lc_67 m0.lay, bd2_t, ifn1, mx]
      rfl
  rcases ncase x3 0 2 (by omega) (by omega) with ⟨a3, -, ha3, rfl⟩ | hx
  rotate_left 1
  · refine Or.inr (Or.inl ⟨by decide, ?_, fun M1 m => ?_⟩)
    · unfold CT F_X8_then
      have gc1 := c.needP ha1
      have gx : F_X8_needWhat x3 (2 : Int32) M = _ := c.needW' (b := 2) hx
      simp only [Lc_0 c.1, bdV_l, bdV_r, gx, gc1]
    · obtain ⟨e0, m0, -⟩ := m.zero
      have gm1 := m0.isP ha1
      have mx : F_X9_isWhat 67 x3 (2 : Int32) _ = _ := m0.isW' (b := 2) hx
      refine MT.mk m (v := 0) ?_
      unfold F_X9_then
      simp only [e0, ob_t, Lc_67 m0.lay, bd2_t, ifn1, mx, gm1]
      rfl
  rcases ncase x2 0 40 (by omega) (by omega) with ⟨a2, ha2l, ha2, rfl⟩ | hx
  rotate_left 1
  · refine Or.inr (Or.inr ⟨by decide, ?_, fun M1 m => ?_⟩)
    · unfold CT F_X8_then
      have gc1 := c.needP ha1
      have gc3 : F_X8_needWhat (nI a3) (2 : Int32) M = _ := needW (b := 2) ha3 (by omega)
      have gx : F_X8_needDays x2 (0 : Int32) M = _ := c.needD' (a := 0) hx
      simp only [Lc_0 c.1, bdV_l, bdV_r, gx, gc1, gc3]
    · obtain ⟨e0, m0, -⟩ := m.zero
      have gm1 := m0.isP ha1
      have gm3 : F_X9_isWhat 67 (nI a3) (2 : Int32) _ = _ := m0.isW (b := 2) ha3 (by omega)
      have mx : F_X9_isDays 67 x2 (0 : Int32) (2 : Int32) _ = _ := m0.isD' (a := 0) (k := 2) hx (by omega) (by omega)
      refine MT.mk m (v := 0) ?_
      unfold F_X9_then
      simp only [e0, ob_t, Lc_67 m0.lay, bd2_t, ifn1, mx, gm1, gm3]
      rfl
  refine Or.inl ⟨if a3 = 0 then sHee (passN g a2 s) a1 else if a3 = 1 then wheS g (passN g a2 s) a1 else sSor (passN g a2 s) a1, ?_, fun M1 m => ?_⟩
  · unfold CR F_X8_then
    have gc1 := c.needP ha1
    have gc3 : F_X8_needWhat (nI a3) (2 : Int32) M = _ := needW (b := 2) ha3 (by omega)
    have gc2 : F_X8_needDays (nI a2) (0 : Int32) M = _ := needD (a := 0) ha2l ha2
    simp only [Lc_0 c.1, bdV_l, ob_t, gc1, gc3, gc2]
    obtain ⟨M', e, c', w⟩ := c.after ha2
    refine ⟨M', ?_, w⟩
    simp only [e, bd2_t, Lp_31_6 c'.1.1, Lp_31_7 c'.1.1, Lp_31_8 c'.1.1, ob_t, c'.hee ha1, c'.whe ha1, c'.sor ha1]
    have : a3 = 0 ∨ a3 = 1 ∨ a3 = 2 := by omega
    rcases this with rfl | rfl | rfl <;> rfl
  · obtain ⟨e0, m0, w0⟩ := m.zero
    have gm1 := m0.isP ha1
    have gm3 : F_X9_isWhat 67 (nI a3) (2 : Int32) _ = _ := m0.isW (b := 2) ha3 (by omega)
    have gm2 : F_X9_isDays 67 (nI a2) (0 : Int32) (2 : Int32) _ = _ := m0.isD (a := 0) ha2l ha2
    unfold MR F_X9_then
    simp only [e0, ob_t, Lc_67 m0.lay, bd2_t, ifn1, gm1, gm3, gm2]
    generalize stI M1 67 0 0 = M0 at *
    obtain ⟨M', e, m', w⟩ := m0.goesTo ha2
    refine ⟨M', ?_, w0.trans w, m'.1⟩
    simp only [e, bd2_t, Lp_67_41 m'.1.lay, ob_t, m'.hee ha1, m'.sor ha1, Lc_67 m'.1.lay, m'.2.hof (u := a1) rfl]
    have : a3 = 0 ∨ a3 = 1 ∨ a3 = 2 := by omega
    rcases this with rfl | rfl | rfl <;> rfl
theorem P_worn (c : CQ M p g s) (x1 x2 : Int32) : PR 2 M g s (F_X8_worn 0 x1 x2 M) (F_X9_worn 67 x1 x2) := by
  have g1 := c.gp.1
  have g2 := c.gp.2.1
  rcases hcase g x1 g1 with ⟨a1, ha1, rfl⟩ | hx
  rotate_left 1
  · refine Or.inr (Or.inl ⟨by decide, ?_, fun M1 m => ?_⟩)
    · unfold CT F_X8_worn
      have gx := c.needH' hx
      simp only [Lc_0 c.1, bdV_l, bdV_r, gx]
    · obtain ⟨e0, m0, -⟩ := m.zero
      have mx := m0.isH' hx
      refine MT.mk m (v := 0) ?_
      unfold F_X9_worn
      simp only [e0, ob_t, Lc_67 m0.lay, bd2_t, ifn1, mx]
      rfl
  rcases ncase x2 0 40 (by omega) (by omega) with ⟨a2, ha2l, ha2, rfl⟩ | hx
  rotate_left 1
  · refine Or.inr (Or.inr ⟨by decide, ?_, fun M1 m => ?_⟩)
    · unfold CT F_X8_worn
      have gc1 := c.needH ha1
      have gx : F_X8_needDays x2 (0 : Int32) M = _ := c.needD' (a := 0) hx
      simp only [Lc_0 c.1, bdV_l, bdV_r, gx, gc1]
    · obtain ⟨e0, m0, -⟩ := m.zero
      have gm1 := m0.isH ha1
      have mx : F_X9_isDays 67 x2 (0 : Int32) (2 : Int32) _ = _ := m0.isD' (a := 0) (k := 2) hx (by omega) (by omega)
      refine MT.mk m (v := 0) ?_
      unfold F_X9_worn
      simp only [e0, ob_t, Lc_67 m0.lay, bd2_t, ifn1, mx, gm1]
      rfl
  refine Or.inl ⟨sWor (passN g a2 s) a1, ?_, fun M1 m => ?_⟩
  · unfold CR F_X8_worn
    have gc1 := c.needH ha1
    have gc2 : F_X8_needDays (nI a2) (0 : Int32) M = _ := needD (a := 0) ha2l ha2
    simp only [Lc_0 c.1, bdV_l, ob_t, gc1, gc2]
    obtain ⟨M', e, c', w⟩ := c.after ha2
    refine ⟨M', ?_, w⟩
    simp only [e, bd2_t, Lp_31_4 c'.1.1, ob_t, c'.wor ha1]
  · obtain ⟨e0, m0, w0⟩ := m.zero
    have gm1 := m0.isH ha1
    have gm2 : F_X9_isDays 67 (nI a2) (0 : Int32) (2 : Int32) _ = _ := m0.isD (a := 0) ha2l ha2
    unfold MR F_X9_worn
    simp only [e0, ob_t, Lc_67 m0.lay, bd2_t, ifn1, gm1, gm2]
    generalize stI M1 67 0 0 = M0 at *
    obtain ⟨M', e, m', w⟩ := m0.goesTo ha2
    refine ⟨M', ?_, w0.trans w, m'.1⟩
    simp only [e, bd2_t, Lp_67_41 m'.1.lay, ob_t, m'.wor ha1]
theorem P_barefoot (c : CQ M p g s) (x1 : Int32) : PR 1 M g s (F_X8_barefoot 0 x1 M) (F_X9_barefoot 67 x1) := by
  have g1 := c.gp.1
  have g2 := c.gp.2.1
  rcases ncase x1 0 40 (by omega) (by omega) with ⟨a1, ha1l, ha1, rfl⟩ | hx
  rotate_left 1
  · refine Or.inr (Or.inr ⟨by decide, ?_, fun M1 m => ?_⟩)
    · unfold CT F_X8_barefoot
      have gx : F_X8_needDays x1 (0 : Int32) M = _ := c.needD' (a := 0) hx
      simp only [Lc_0 c.1, bdV_l, bdV_r, gx]
    · obtain ⟨e0, m0, -⟩ := m.zero
      have mx : F_X9_isDays 67 x1 (0 : Int32) (1 : Int32) _ = _ := m0.isD' (a := 0) (k := 1) hx (by omega) (by omega)
      refine MT.mk m (v := 0) ?_
      unfold F_X9_barefoot
      simp only [e0, ob_t, Lc_67 m0.lay, bd2_t, ifn1, mx]
      rfl
  refine Or.inl ⟨lodS g (passN g a1 s), ?_, fun M1 m => ?_⟩
  · unfold CR F_X8_barefoot
    have gc1 : F_X8_needDays (nI a1) (0 : Int32) M = _ := needD (a := 0) ha1l ha1
    simp only [Lc_0 c.1, bdV_l, ob_t, gc1]
    obtain ⟨M', e, c', w⟩ := c.after ha1
    refine ⟨M', ?_, w⟩
    simp only [e, bd2_t, Lc_0 c'.1.1, c'.1.lod c'.2.1, ob_t]
  · obtain ⟨e0, m0, w0⟩ := m.zero
    have gm1 : F_X9_isDays 67 (nI a1) (0 : Int32) (1 : Int32) _ = _ := m0.isD (a := 0) ha1l ha1
    unfold MR F_X9_barefoot
    simp only [e0, ob_t, Lc_67 m0.lay, bd2_t, ifn1, gm1]
    generalize stI M1 67 0 0 = M0 at *
    obtain ⟨M', e, m', w⟩ := m0.goesTo ha1
    refine ⟨M', ?_, w0.trans w, m'.1⟩
    simp only [e, Lc_67 m'.1.lay, ob_t, m'.2.lod]
theorem P_paid (c : CQ M p g s) (x1 : Int32) : PR 1 M g s (F_X8_paid 0 x1 M) (F_X9_paid 67 x1) := by
  have g1 := c.gp.1
  have g2 := c.gp.2.1
  rcases ncase x1 0 40 (by omega) (by omega) with ⟨a1, ha1l, ha1, rfl⟩ | hx
  rotate_left 1
  · refine Or.inr (Or.inr ⟨by decide, ?_, fun M1 m => ?_⟩)
    · unfold CT F_X8_paid
      have gx : F_X8_needDays x1 (0 : Int32) M = _ := c.needD' (a := 0) hx
      simp only [Lc_0 c.1, bdV_l, bdV_r, gx]
    · obtain ⟨e0, m0, -⟩ := m.zero
      have mx : F_X9_isDays 67 x1 (0 : Int32) (1 : Int32) _ = _ := m0.isD' (a := 0) (k := 1) hx (by omega) (by omega)
      refine MT.mk m (v := 0) ?_
      unfold F_X9_paid
      simp only [e0, ob_t, Lc_67 m0.lay, bd2_t, ifn1, mx]
      rfl
  refine Or.inl ⟨sorS g (passN g a1 s) - sorS g s, ?_, fun M1 m => ?_⟩
  · unfold CR F_X8_paid
    have gc1 : F_X8_needDays (nI a1) (0 : Int32) M = _ := needD (a := 0) ha1l ha1
    simp only [Lc_0 c.1, bdV_l, ob_t, gc1]
    obtain ⟨M', e, c', w⟩ := c.after ha1
    refine ⟨M', ?_, w⟩
    simp only [e, bd2_t, Lc_0 c'.1.1, c'.1.sors c'.2.1, c'.1.sors c'.1.st, Lp_0_4 c'.1.1, ob_t]
  · obtain ⟨e0, m0, w0⟩ := m.zero
    have gm1 : F_X9_isDays 67 (nI a1) (0 : Int32) (1 : Int32) _ = _ := m0.isD (a := 0) ha1l ha1
    unfold MR F_X9_paid
    simp only [e0, ob_t, Lc_67 m0.lay, bd2_t, ifn1, gm1]
    generalize stI M1 67 0 0 = M0 at *
    obtain ⟨M', e, m', w⟩ := m0.goesTo ha1
    refine ⟨M', ?_, w0.trans w, m'.1⟩
    simp only [e, Lc_67 m'.1.lay, ob_t, m'.2.sors, m'.1.b.sors]
theorem P_toWait (c : CQ M p g s) (x1 x2 : Int32) : PR 0 M g s (F_X8_toWait 0 x1 x2 M) (F_X9_toWait 67 x1 x2) := by
  have g1 := c.gp.1
  have g2 := c.gp.2.1
  rcases pcase g x1 g2 with ⟨a1, ha1, rfl⟩ | hx
  rotate_left 1
  · refine Or.inr (Or.inl ⟨by decide, ?_, fun M1 m => ?_⟩)
    · unfold CT F_X8_toWait
      have gx := c.needP' hx
      simp only [Lc_0 c.1, bdV_l, bdV_r, gx]
    · obtain ⟨e0, m0, -⟩ := m.zero
      have mx := m0.isP' hx
      refine MT.mk m (v := 0) ?_
      unfold F_X9_toWait
      simp only [e0, ob_t, Lc_67 m0.lay, bd2_t, ifn1, mx]
      rfl
  rcases hcase g x2 g1 with ⟨a2, ha2, rfl⟩ | hx
  rotate_left 1
  · refine Or.inr (Or.inl ⟨by decide, ?_, fun M1 m => ?_⟩)
    · unfold CT F_X8_toWait
      have gc1 := c.needP ha1
      have gx := c.needH' hx
      simp only [Lc_0 c.1, bdV_l, bdV_r, gx, gc1]
    · obtain ⟨e0, m0, -⟩ := m.zero
      have gm1 := m0.isP ha1
      have mx := m0.isH' hx
      refine MT.mk m (v := 0) ?_
      unfold F_X9_toWait
      simp only [e0, ob_t, Lc_67 m0.lay, bd2_t, ifn1, mx, gm1]
      rfl
  refine Or.inl ⟨if fsN (fun i => goS g (passN g i s) a1 a2 (dampS g (passN g i s))) (41 - 0) 0 < 41 then nI (fsN (fun i => goS g (passN g i s) a1 a2 (dampS g (passN g i s))) (41 - 0) 0) else -1, ?_, fun M1 m => ?_⟩
  · unfold CR F_X8_toWait
    have gc1 := c.needP ha1
    have gc2 := c.needH ha2
    simp only [Lc_0 c.1, bdV_l, ob_t, gc1, gc2]
    obtain ⟨M1, e1, c1, w1⟩ := c.copyL
    simp only [Lp_0_5 c.1, Lp_0_4 c.1, ob_t, Lc_31 c.1, e1]
    obtain ⟨M2, e2, w2⟩ := loop_fr (step := fun z : Int32 × Mem => F_X8_toWait_s23 0 (nI a1) (nI a2) z.1 z.2) (fun i M' => (nI i, M')) (fun M' => .inl M') (fun i M' => .inr (.inl (nI i, M'))) (Sum.elim (fun M42 => some (.inl ((-1 : Int32), M42))) (fun f44 => some f44)) (fun v M' => (.inl (v, M') : (Int32 × Mem) ⊕ (Nat × Mem))) (fun i => goS g (passN g i s) a1 a2 (dampS g (passN g i s))) (fun i M' => CLa M' p g s (passN g i s) (999 + i) ∧ QC M M') (fun M' => QC M M') 0 41 (by omega) (M := M1) ⟨⟨c1.1, c1.2.1, c1.2.2.mono (by omega)⟩, w1⟩ (by
      rintro i M' - hi ⟨c', w'⟩
      obtain ⟨M3, e3, c3, w3⟩ := c'.go ha1 ha2 (d := dampS g (passN g i s))
      obtain ⟨M4, e4, c4, w4⟩ := c3.pass1 (by omega)
      unfold F_X8_toWait_s23
      simp only [if_neg (show ¬ (40 : Int32) < nI i from nI_nlt (b := i) (a := 40) (by omega) (by omega)), c'.1.pp, Lp_0_5 c'.1.1, ob_t, c'.1.ck, c'.damp, e3, bd2_t, Lp_0_5 c3.1.1, Lc_0 c3.1.1, e4, nI_1]
      rcases goI_01 (g := g) (s := passN g i s) (p := a1) (h := a2) (d := dampS g (passN g i s)) with ⟨z1, z2⟩ | ⟨z1, z2⟩
      · rw [z1]; exact Or.inl ⟨z2, M3, rfl, w'.trans w3⟩
      · rw [z1]; exact Or.inr ⟨z2, M4, rfl, ⟨c4.1, c4.2.1, c4.2.2.mono (by omega)⟩, (w'.trans w3).trans w4⟩) (by
      rintro M' ⟨c', w'⟩
      refine ⟨?_, w'⟩
      unfold F_X8_toWait_s23
      simp only [if_pos (show (40 : Int32) < nI 41 from nI_lt (a := 40) (by omega) (by omega))]) (fun i M => rfl) (fun M => rfl)
    exact ⟨M2, e2, w2⟩
  · obtain ⟨e0, m0, w0⟩ := m.zero
    have gm1 := m0.isP ha1
    have gm2 := m0.isH ha2
    unfold MR F_X9_toWait
    simp only [e0, ob_t, Lc_67 m0.lay, bd2_t, ifn1, gm1, gm2]
    generalize stI M1 67 0 0 = M0 at *
    obtain ⟨M2, e1, m1, w1⟩ := m0.tries
    simp only [ob_t, e1]
    obtain ⟨M3, e2, m3, w2⟩ := loop_fr (step := fun z : Int32 × Mem => F_X9_toWait_s29 67 (nI a1) (nI a2) z.1 z.2) (fun i M' => (nI i, M')) (fun M' => .inl M') (fun i M' => .inr (nI i, M')) (Sum.elim (fun M42 => some ((-1 : Int32), M42)) (fun f44 => some f44)) (fun v M' => (v, M')) (fun i => goS g (passN g i s) a1 a2 (dampS g (passN g i s))) (fun i M' => MLa M' g s (passN g i s) (999 + i) ∧ QW M1 M') (fun M' => MZu M' g s ∧ QW M1 M') 0 41 (by omega) (M := M2) ⟨m1.mono (by omega), w0.trans w1⟩ (by
      rintro i M' - hi ⟨m', w'⟩
      obtain ⟨M3, e3, m3, w3⟩ := m'.go ha1 ha2
      obtain ⟨M4, e4, m4, w4⟩ := m3.day (by omega)
      unfold F_X9_toWait_s29
      simp only [if_neg (show ¬ (40 : Int32) < nI i from nI_nlt (b := i) (a := 40) (by omega) (by omega)), Lc_67 m'.1.lay, ob_t, e3, bd2_t, Lc_67 m3.1.lay, e4, nI_1]
      rcases goI_01 (g := g) (s := passN g i s) (p := a1) (h := a2) (d := dampS g (passN g i s)) with ⟨z1, z2⟩ | ⟨z1, z2⟩
      · rw [z1]; exact Or.inl ⟨z2, M3, rfl, m3.1, w'.trans w3⟩
      · rw [z1]; exact Or.inr ⟨z2, M4, rfl, m4.mono (by omega), (w'.trans w3).trans w4⟩) (by
      rintro M' ⟨m', w'⟩
      refine ⟨?_, m'.1, w'⟩
      unfold F_X9_toWait_s29
      simp only [if_pos (show (40 : Int32) < nI 41 from nI_lt (a := 40) (by omega) (by omega))]) (fun i M => rfl) (fun M => rfl)
    exact ⟨M3, e2, w2, m3⟩
theorem P_wriggles (c : CQ M p g s) (x1 : Int32) : PR 0 M g s (F_X8_wriggles 0 x1 M) (F_X9_wriggles 67 x1) := by
  have g1 := c.gp.1
  have g2 := c.gp.2.1
  rcases pcase g x1 g2 with ⟨a1, ha1, rfl⟩ | hx
  rotate_left 1
  · refine Or.inr (Or.inl ⟨by decide, ?_, fun M1 m => ?_⟩)
    · unfold CT F_X8_wriggles
      have gx := c.needP' hx
      simp only [Lc_0 c.1, bdV_l, bdV_r, gx]
    · obtain ⟨e0, m0, -⟩ := m.zero
      have mx := m0.isP' hx
      refine MT.mk m (v := 0) ?_
      unfold F_X9_wriggles
      simp only [e0, ob_t, Lc_67 m0.lay, bd2_t, ifn1, mx]
      rfl
  refine Or.inl ⟨if fsN (fun i => ¬ sSor (passN g i s) a1 ≤ sSor s a1) (41 - 1) 1 < 41 then nI (fsN (fun i => ¬ sSor (passN g i s) a1 ≤ sSor s a1) (41 - 1) 1) else -1, ?_, fun M1 m => ?_⟩
  · unfold CR F_X8_wriggles
    have gc1 := c.needP ha1
    simp only [Lc_0 c.1, bdV_l, ob_t, gc1]
    obtain ⟨M1, e1, c1, w1⟩ := c.copyL
    simp only [Lp_0_5 c.1, Lp_0_4 c.1, ob_t, Lc_31 c.1, e1]
    obtain ⟨M2, e2, w2⟩ := loop_fr (step := fun z : Int32 × Mem => F_X8_wriggles_s18 0 (nI a1) z.1 z.2) (fun i M' => (nI i, M')) (fun M' => .inl M') (fun i M' => .inr (.inl (nI i, M'))) (Sum.elim (fun M42 => some (.inl ((-1 : Int32), M42))) (fun f44 => some f44)) (fun v M' => (.inl (v, M') : (Int32 × Mem) ⊕ (Nat × Mem))) (fun i => ¬ sSor (passN g i s) a1 ≤ sSor s a1) (fun i M' => CLa M' p g s (passN g (i - 1) s) (999 + i) ∧ QC M M') (fun M' => QC M M') 1 41 (by omega) (M := M1) ⟨⟨c1.1, c1.2.1, c1.2.2.mono (by omega)⟩, w1⟩ (by
      rintro i M' hi0 hi ⟨c', w'⟩
      obtain ⟨j, rfl⟩ : ∃ j, i = j + 1 := ⟨i - 1, by omega⟩
      rw [Nat.add_sub_cancel] at c'
      obtain ⟨M4, e4, c4, w4⟩ := c'.pass1 (by omega)
      unfold F_X8_wriggles_s18
      simp only [if_neg (show ¬ (40 : Int32) < nI (j + 1) from nI_nlt (b := j + 1) (a := 40) (by omega) (by omega)), Lp_0_5 c'.1.1, ob_t, Lc_0 c'.1.1, e4, Lp_0_5 c4.1.1, Lp_31_8 c4.1.1, c4.sor ha1, Lp_0_4 c4.1.1, Lp_24_8 c4.1.1, c4.1.sor ha1, nI_1]
      by_cases z : sSor (passS g (passN g j s)) a1 ≤ sSor s a1
      · rw [if_pos z]; exact Or.inr ⟨fun y => y z, M4, rfl, ⟨c4.1, c4.2.1, c4.2.2.mono (by omega)⟩, w'.trans w4⟩
      · rw [if_neg z]; exact Or.inl ⟨z, M4, rfl, w'.trans w4⟩) (by
      rintro M' ⟨c', w'⟩
      refine ⟨?_, w'⟩
      unfold F_X8_wriggles_s18
      simp only [if_pos (show (40 : Int32) < nI 41 from nI_lt (a := 40) (by omega) (by omega))]) (fun i M => rfl) (fun M => rfl)
    exact ⟨M2, e2, w2⟩
  · obtain ⟨e0, m0, w0⟩ := m.zero
    have gm1 := m0.isP ha1
    unfold MR F_X9_wriggles
    simp only [e0, ob_t, Lc_67 m0.lay, bd2_t, ifn1, gm1]
    generalize stI M1 67 0 0 = M0 at *
    obtain ⟨M2, e1, m1, w1⟩ := m0.tries
    simp only [ob_t, e1]
    obtain ⟨M3, e2, m3, w2⟩ := loop_fr (step := fun z : Int32 × Mem => F_X9_wriggles_s21 67 (nI a1) z.1 z.2) (fun i M' => (nI i, M')) (fun M' => .inl M') (fun i M' => .inr (nI i, M')) (Sum.elim (fun M42 => some ((-1 : Int32), M42)) (fun f44 => some f44)) (fun v M' => (v, M')) (fun i => ¬ sSor (passN g i s) a1 ≤ sSor s a1) (fun i M' => MLa M' g s (passN g (i - 1) s) (999 + i) ∧ QW M1 M') (fun M' => MZu M' g s ∧ QW M1 M') 1 41 (by omega) (M := M2) ⟨m1.mono (by omega), w0.trans w1⟩ (by
      rintro i M' hi0 hi ⟨m', w'⟩
      obtain ⟨j, rfl⟩ : ∃ j, i = j + 1 := ⟨i - 1, by omega⟩
      rw [Nat.add_sub_cancel] at m'
      obtain ⟨M4, e4, m4, w4⟩ := m'.day (by omega)
      unfold F_X9_wriggles_s21
      simp only [if_neg (show ¬ (40 : Int32) < nI (j + 1) from nI_nlt (b := j + 1) (a := 40) (by omega) (by omega)), Lc_67 m'.1.lay, ob_t, e4, Lp_67_41 m4.1.lay, m4.sor ha1, m4.1.sor ha1, nI_1]
      by_cases z : sSor (passS g (passN g j s)) a1 ≤ sSor s a1
      · rw [if_pos z]; exact Or.inr ⟨fun y => y z, M4, rfl, m4.mono (by omega), w'.trans w4⟩
      · rw [if_neg z]; exact Or.inl ⟨z, M4, rfl, m4.1, w'.trans w4⟩) (by
      rintro M' ⟨m', w'⟩
      refine ⟨?_, m'.1, w'⟩
      unfold F_X9_wriggles_s21
      simp only [if_pos (show (40 : Int32) < nI 41 from nI_lt (a := 40) (by omega) (by omega))]) (fun i M => rfl) (fun M => rfl)
    exact ⟨M3, e2, w2, m3⟩
end
