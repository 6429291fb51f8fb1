section
variable {M : Mem} {p : Nat} {g : Pg} {s : Sg}

theorem dayS_hee {d : Int32} {u : Nat} (hu : u < gN g) : sHee (dayS g d s) u = mnI 99 (sHee s u + gGro g u) := by
  have h1 : ∀ n, sHee (wearN g d n s) = sHee s := by
    intro n
    induction n with
    | zero => rfl
    | succ n ih =>
      rw [← ih]
      show sHee (wearS g (wearN g d n s) n d) = _
      unfold wearS; repeat' split
      all_goals rfl
  have h2 : ∀ n t, sHee (growN g n t) u = if u < n then mnI 99 (sHee t u + gGro g u) else sHee t u := by
    intro n
    induction n with
    | zero => intro t; rfl
    | succ n ih =>
      intro t
      show upg (sHee (growN g n t)) n (mnI 99 (sHee (growN g n t) n + gGro g n)) u = _
      by_cases e : u = n
      · subst e
        rw [upg_eq, ih, if_neg (by omega), if_pos (by omega)]
      · rw [upg_ne e, ih]
        by_cases c : u < n
        · rw [if_pos c, if_pos (by omega)]
        · rw [if_neg c, if_neg (by omega)]
  show sHee (growN g (gN g) (wearN g d (gH g) s)) u = _
  rw [h2, if_pos hu, h1]
theorem growX_hee {u n : Nat} : sHee (itN (fun _ t => growS g t u) s (n + 1)) u = mnI 99 (sHee (itN (fun _ t => growS g t u) s n) u + gGro g u) := by
  show upg _ u _ u = _
  rw [upg_eq]
theorem heeN {u n : Nat} (hu : u < gN g) : sHee (itN (fun _ t => growS g t u) s n) u = sHee (passN g n s) u := by
  induction n with
  | zero => rfl
  | succ n ih => rw [growX_hee, ih]; exact (dayS_hee hu).symm
theorem CLa.grow {s' : Sg} {D : Int} (c : CLa M p g s s' D) {u : Nat} (hu : u < gN g) : ∃ M', F_X2_grow p 31 (nI u) M = some M' ∧ CLa M' p g s (growS g s' u) D ∧ QC M M' := by
  obtain ⟨M', e, hs, w⟩ := F_grow c.1.pl c.2.1 hu
  have wc : QC M M' := w.c (by decide)
  exact ⟨M', e, ⟨c.1.c wc, hs, c.2.2.grow c.1.gp hu⟩, wc⟩
theorem P_toGrow (c : CQ M p g s) (x1 x2 : Int32) : PR 0 M g s (F_X8_toGrow 0 x1 x2 M) (F_X9_toGrow 67 x1 x2) := by
  have g1 := c.gp.1
  have g2 := c.gp.2.1
  rcases pcase g x1 g2 with ⟨a1, ha1, rfl⟩ | hx
  rotate_left 1
  · refine Or.inr (Or.inl ⟨by decide, ?_, fun M1 m => ?_⟩)
    · unfold CT F_X8_toGrow
      have gx := c.needP' hx
      simp only [Lc_0 c.1, bdV_l, bdV_r, gx]
    · obtain ⟨e0, m0, -⟩ := m.zero
      have mx := m0.isP' hx
      refine MT.mk m (v := 0) ?_
      unfold F_X9_toGrow
      simp only [e0, ob_t, Lc_67 m0.lay, bd2_t, ifn1, mx]
      rfl
  rcases hcase g x2 g1 with ⟨a2, ha2, rfl⟩ | hx
  rotate_left 1
  · refine Or.inr (Or.inl ⟨by decide, ?_, fun M1 m => ?_⟩)
    · unfold CT F_X8_toGrow
      have gc1 := c.needP ha1
      have gx := c.needH' hx
      simp only [Lc_0 c.1, bdV_l, bdV_r, gx, gc1]
    · obtain ⟨e0, m0, -⟩ := m.zero
      have gm1 := m0.isP ha1
      have mx := m0.isH' hx
      refine MT.mk m (v := 0) ?_
      unfold F_X9_toGrow
      simp only [e0, ob_t, Lc_67 m0.lay, bd2_t, ifn1, mx, gm1]
      rfl
  refine Or.inl ⟨if fsN (fun i => ¬ sHee (passN g i s) a1 < sSiz s a2) (41 - 0) 0 < 41 then nI (fsN (fun i => ¬ sHee (passN g i s) a1 < sSiz s a2) (41 - 0) 0) else -1, ?_, fun M1 m => ?_⟩
  · unfold CR F_X8_toGrow
    have gc1 := c.needP ha1
    have gc2 := c.needH ha2
    simp only [Lc_0 c.1, bdV_l, ob_t, gc1, gc2]
    obtain ⟨M1, e1, c1, w1⟩ := c.copyL
    simp only [Lp_0_5 c.1, Lp_0_4 c.1, ob_t, Lc_31 c.1, e1]
    obtain ⟨M2, e2, w2⟩ := loop_fr (step := fun z : Int32 × Mem => F_X8_toGrow_s23 0 (nI a1) (nI a2) z.1 z.2) (fun i M' => (nI i, M')) (fun M' => .inl M') (fun i M' => .inr (.inl (nI i, M'))) (Sum.elim (fun M42 => some (.inl ((-1 : Int32), M42))) (fun f44 => some f44)) (fun v M' => (.inl (v, M') : (Int32 × Mem) ⊕ (Nat × Mem))) (fun i => ¬ sHee (passN g i s) a1 < sSiz s a2) (fun i M' => CLa M' p g s (itN (fun _ t => growS g t a1) s i) 999 ∧ QC M M') (fun M' => QC M M') 0 41 (by omega) (M := M1) ⟨c1, w1⟩ (by
      rintro i M' - hi ⟨c', w'⟩
      obtain ⟨M4, e4, c4, w4⟩ := c'.grow ha1
      unfold F_X8_toGrow_s23
      simp only [if_neg (show ¬ (40 : Int32) < nI i from nI_nlt (b := i) (a := 40) (by omega) (by omega)), c'.1.pp, Lp_0_5 c'.1.1, Lp_31_6 c'.1.1, c'.hee ha1, Lp_0_4 c'.1.1, Lp_24_3 c'.1.1, c'.1.siz ha2, ob_t, c'.1.ck, e4, nI_1, heeN ha1]
      by_cases z : sHee (passN g i s) a1 < sSiz s a2
      · rw [if_pos z]; exact Or.inr ⟨fun y => y z, M4, rfl, c4, w'.trans w4⟩
      · rw [if_neg z]; exact Or.inl ⟨z, M', rfl, w'⟩) (by
      rintro M' ⟨c', w'⟩
      refine ⟨?_, w'⟩
      unfold F_X8_toGrow_s23
      simp only [if_pos (show (40 : Int32) < nI 41 from nI_lt (a := 40) (by omega) (by omega))]) (fun i M => rfl) (fun M => rfl)
    exact ⟨M2, e2, w2⟩
  · obtain ⟨e0, m0, w0⟩ := m.zero
    have gm1 := m0.isP ha1
    have gm2 := m0.isH ha2
    unfold MR F_X9_toGrow
    simp only [e0, ob_t, Lc_67 m0.lay, bd2_t, ifn1, gm1, gm2]
    generalize stI M1 67 0 0 = M0 at *
    obtain ⟨M2, e1, m1, w1⟩ := m0.tries
    simp only [ob_t, e1]
    obtain ⟨M3, e2, m3, w2⟩ := loop_fr (step := fun z : Int32 × Mem => F_X9_toGrow_s29 67 (nI a1) (nI a2) z.1 z.2) (fun i M' => (nI i, M')) (fun M' => .inl M') (fun i M' => .inr (nI i, M')) (Sum.elim (fun M42 => some ((-1 : Int32), M42)) (fun f44 => some f44)) (fun v M' => (v, M')) (fun i => ¬ sHee (passN g i s) a1 < sSiz s a2) (fun i M' => MLa M' g s (passN g i s) (999 + i) ∧ QW M1 M') (fun M' => MZu M' g s ∧ QW M1 M') 0 41 (by omega) (M := M2) ⟨m1.mono (by omega), w0.trans w1⟩ (by
      rintro i M' - hi ⟨m', w'⟩
      obtain ⟨M4, e4, m4, w4⟩ := m'.day (by omega)
      unfold F_X9_toGrow_s29
      simp only [if_neg (show ¬ (40 : Int32) < nI i from nI_nlt (b := i) (a := 40) (by omega) (by omega)), Lp_67_41 m'.1.lay, m'.hee ha1, m'.1.siz ha2, Lc_67 m'.1.lay, ob_t, e4, nI_1]
      by_cases z : sHee (passN g i s) a1 < sSiz s a2
      · rw [if_pos z]; exact Or.inr ⟨fun y => y z, M4, rfl, m4.mono (by omega), w'.trans w4⟩
      · rw [if_neg z]; exact Or.inl ⟨z, M', rfl, m'.1, w'⟩) (by
      rintro M' ⟨m', w'⟩
      refine ⟨?_, m'.1, w'⟩
      unfold F_X9_toGrow_s29
      simp only [if_pos (show (40 : Int32) < nI 41 from nI_lt (a := 40) (by omega) (by omega))]) (fun i M => rfl) (fun M => rfl)
    exact ⟨M3, e2, w2, m3⟩

theorem ease_nn {D : Int} {u h : Nat} {d : Int32} (hg : GdP g) (hd : GdS D g s) (hu : u < gN g) (hh : h < gH g) (hb : bnd d 0 9) : bnd (easeS g s u h d) 0 30 := by
  unfold easeS
  split
  · have h1 := (hg.2.2.2.1 h hh).1
    have h2 := (hd.2.2.1 h hh).2.1
    unfold bnd at *
    have h4 : (sWor s h / 10).toInt = (sWor s h).toInt / 10 := ti_div h2.1 (by decide)
    have h6 : (gGiv g h + d).toInt = (gGiv g h).toInt + d.toInt := ti_add (by omega) (by omega)
    rw [ti_add (by omega) (by omega), h6, h4]
    omega
  · unfold bnd
    rw [mnI_toInt, mxI_toInt, ti_0, tn30]; omega
theorem P_eased (c : CQ M p g s) (x1 x2 x3 : Int32) : PR 2 M g s (F_X8_eased 0 x1 x2 x3 M) (F_X9_eased 67 x1 x2 x3) := by
  have g1 := c.gp.1
  have g2 := c.gp.2.1
  rcases pcase g x1 g2 with ⟨a1, ha1, rfl⟩ | hx
  rotate_left 1
  · refine Or.inr (Or.inl ⟨by decide, ?_, fun M1 m => ?_⟩)
    · unfold CT F_X8_eased
      have gx := c.needP' hx
      simp only [Lc_0 c.1, bdV_l, bdV_r, gx]
    · obtain ⟨e0, m0, -⟩ := m.zero
      have mx := m0.isP' hx
      refine MT.mk m (v := 0) ?_
      unfold F_X9_eased
      simp only [e0, ob_t, Lc_67 m0.lay, bd2_t, ifn1, mx]
      rfl
  rcases hcase g x2 g1 with ⟨a2, ha2, rfl⟩ | hx
  rotate_left 1
  · refine Or.inr (Or.inl ⟨by decide, ?_, fun M1 m => ?_⟩)
    · unfold CT F_X8_eased
      have gc1 := c.needP ha1
      have gx := c.needH' hx
      simp only [Lc_0 c.1, bdV_l, bdV_r, gx, gc1]
    · obtain ⟨e0, m0, -⟩ := m.zero
      have gm1 := m0.isP ha1
      have mx := m0.isH' hx
      refine MT.mk m (v := 0) ?_
      unfold F_X9_eased
      simp only [e0, ob_t, Lc_67 m0.lay, bd2_t, ifn1, mx, gm1]
      rfl
  rcases ncase x3 1 40 (by omega) (by omega) with ⟨a3, ha3l, ha3, rfl⟩ | hx
  rotate_left 1
  · refine Or.inr (Or.inr ⟨by decide, ?_, fun M1 m => ?_⟩)
    · unfold CT F_X8_eased
      have gc1 := c.needP ha1
      have gc2 := c.needH ha2
      have gx : F_X8_needDays x3 (1 : Int32) M = _ := c.needD' (a := 1) hx
      simp only [Lc_0 c.1, bdV_l, bdV_r, gx, gc1, gc2]
    · obtain ⟨e0, m0, -⟩ := m.zero
      have gm1 := m0.isP ha1
      have gm2 := m0.isH ha2
      have mx : F_X9_isDays 67 x3 (1 : Int32) (2 : Int32) _ = _ := m0.isD' (a := 1) (k := 2) hx (by omega) (by omega)
      refine MT.mk m (v := 0) ?_
      unfold F_X9_eased
      simp only [e0, ob_t, Lc_67 m0.lay, bd2_t, ifn1, mx, gm1, gm2]
      rfl
  refine Or.inl ⟨(itN (fun i a => if easeS g (passN g i s) a1 a2 (dampS g (passN g i s)) ≤ a.2 then a else (nI i, easeS g (passN g i s) a1 a2 (dampS g (passN g i s)))) ((0 : Int32), (-1 : Int32)) a3).1, ?_, fun M1 m => ?_⟩
  · unfold CR F_X8_eased
    have gc1 := c.needP ha1
    have gc2 := c.needH ha2
    have gc3 : F_X8_needDays (nI a3) (1 : Int32) M = _ := needD (a := 1) ha3l ha3
    simp only [Lc_0 c.1, bdV_l, ob_t, gc1, gc2, gc3]
    obtain ⟨M1, e1, c1, w1⟩ := c.copyL
    simp only [Lp_0_5 c.1, Lp_0_4 c.1, ob_t, Lc_31 c.1, e1]
    obtain ⟨M2, e2, c2, w2⟩ := loop_q (step := fun z : Int32 × Int32 × Int32 × Mem => F_X8_eased_s35 0 (nI a1) (nI a2) (nI a3) z.1 z.2.1 z.2.2.1 z.2.2.2) (fun i a M' => (a.1, a.2, nI i, M')) (fun a M' => (a.1, M')) (fun i a => if easeS g (passN g i s) a1 a2 (dampS g (passN g i s)) ≤ a.2 then a else (nI i, easeS g (passN g i s) a1 a2 (dampS g (passN g i s)))) ((0 : Int32), (-1 : Int32)) a3 (fun i M' => CLa M' p g s (passN g i s) (999 + i) ∧ QC M M') (M := M1) ⟨⟨c1.1, c1.2.1, c1.2.2.mono (by omega)⟩, w1⟩ (by
      rintro i M' hi ⟨c', w'⟩
      obtain ⟨M3, e3, c3, w3⟩ := c'.eas ha1 ha2 (d := dampS g (passN g i s))
      obtain ⟨M4, e4, c4, w4⟩ := c3.pass1 (by omega)
      refine ⟨M4, ?_, ⟨c4.1, c4.2.1, c4.2.2.mono (by omega)⟩, (w'.trans w3).trans w4⟩
      unfold F_X8_eased_s35 F_X8_eased_j82_35
      simp only [if_neg (nI_ge hi (show a3 < 2 ^ 31 by omega)), c'.1.pp, Lp_0_5 c'.1.1, ob_t, c'.1.ck, c'.damp, e3, bd2_t, Lp_0_5 c3.1.1, Lc_0 c3.1.1, e4, nI_1]
      split <;> rfl) (by
      rintro M' ⟨c', w'⟩
      unfold F_X8_eased_s35
      simp only [if_pos (nI_le (Nat.le_refl a3) (show a3 < 2 ^ 31 by omega))])
    exact ⟨M2, (congrArg (fun o => Option.bind o _) e2).trans rfl, w2⟩
  · obtain ⟨e0, m0, w0⟩ := m.zero
    have gm1 := m0.isP ha1
    have gm2 := m0.isH ha2
    have gm3 : F_X9_isDays 67 (nI a3) (1 : Int32) (2 : Int32) _ = _ := m0.isD (a := 1) ha3l ha3
    unfold MR F_X9_eased
    simp only [e0, ob_t, Lc_67 m0.lay, bd2_t, ifn1, gm1, gm2, gm3]
    generalize stI M1 67 0 0 = M0 at *
    obtain ⟨M2, e1, m1, w1⟩ := m0.tries
    simp only [ob_t, e1]
    obtain ⟨M3, e2, m3, w2⟩ := loop_q (step := fun z : Int32 × Int32 × Int32 × Mem => F_X9_eased_s46 67 (nI a1) (nI a2) (nI a3) z.1 z.2.1 z.2.2.1 z.2.2.2) (fun i a M' => (a.1, a.2, nI i, M')) (fun a M' => (a.1, M')) (fun i a => if easeS g (passN g i s) a1 a2 (dampS g (passN g i s)) ≤ a.2 then a else (nI i, easeS g (passN g i s) a1 a2 (dampS g (passN g i s)))) ((-1 : Int32), (-1 : Int32)) a3 (fun i M' => MLa M' g s (passN g i s) (999 + i) ∧ QW M1 M') (M := M2) ⟨m1.mono (by omega), w0.trans w1⟩ (by
      rintro i M' hi ⟨m', w'⟩
      obtain ⟨M3, e3, m3, w3⟩ := m'.eas ha1 ha2
      obtain ⟨M4, e4, m4, w4⟩ := m3.day (by omega)
      refine ⟨M4, ?_, m4.mono (by omega), (w'.trans w3).trans w4⟩
      unfold F_X9_eased_s46
      simp only [if_neg (nI_ge hi (show a3 < 2 ^ 31 by omega)), Lc_67 m'.1.lay, ob_t, e3, bd2_t, Lc_67 m3.1.lay, e4, nI_1]
      split <;> rfl) (by
      rintro M' ⟨m', w'⟩
      unfold F_X9_eased_s46
      simp only [if_pos (nI_le (Nat.le_refl a3) (show a3 < 2 ^ 31 by omega))])
    have e0 : ∀ n, itN (fun i a => if easeS g (passN g i s) a1 a2 (dampS g (passN g i s)) ≤ a.2 then a else (nI i, easeS g (passN g i s) a1 a2 (dampS g (passN g i s)))) ((-1 : Int32), (-1 : Int32)) (n + 1) = itN (fun i a => if easeS g (passN g i s) a1 a2 (dampS g (passN g i s)) ≤ a.2 then a else (nI i, easeS g (passN g i s) a1 a2 (dampS g (passN g i s)))) ((0 : Int32), (-1 : Int32)) (n + 1) := by
      intro n
      induction n with
      | zero =>
        have hn := ease_nn (d := dampS g s) m0.b.gp m0.b.gd ha1 ha2 (dampS_bnd m0.b.gp m0.b.gd)
        have : ¬ easeS g s a1 a2 (dampS g s) ≤ -1 := by rw [ti_le, tnm1]; unfold bnd at hn; omega
        show (if easeS g s a1 a2 (dampS g s) ≤ -1 then _ else _) = (if easeS g s a1 a2 (dampS g s) ≤ -1 then _ else _)
        rw [if_neg this, if_neg this]
      | succ n ih =>
        have hq : ∀ x, itN (fun i a => if easeS g (passN g i s) a1 a2 (dampS g (passN g i s)) ≤ a.2 then a else (nI i, easeS g (passN g i s) a1 a2 (dampS g (passN g i s)))) x (n + 1 + 1) = (fun i a => if easeS g (passN g i s) a1 a2 (dampS g (passN g i s)) ≤ a.2 then a else (nI i, easeS g (passN g i s) a1 a2 (dampS g (passN g i s)))) (n + 1) (itN (fun i a => if easeS g (passN g i s) a1 a2 (dampS g (passN g i s)) ≤ a.2 then a else (nI i, easeS g (passN g i s) a1 a2 (dampS g (passN g i s)))) x (n + 1)) := fun x => rfl
        rw [hq, hq, ih]
    obtain ⟨n, rfl⟩ : ∃ n, a3 = n + 1 := ⟨a3 - 1, by omega⟩
    refine ⟨M3, ?_, w2, m3.1⟩
    rw [← e0 n]
    exact (congrArg (fun o => Option.bind o _) e2).trans rfl

noncomputable def frO (g : Pg) (s : Sg) (u : Nat) (i : Nat) : Bool := decide (sWho s i = -1) && !decide (goI g s u i (dampS g s) = 0)
theorem P_free (c : CQ M p g s) (x1 : Int32) : PR 0 M g s (F_X8_free 0 x1 M) (F_X9_free 67 x1) := by
  have g1 := c.gp.1
  have g2 := c.gp.2.1
  rcases pcase g x1 g2 with ⟨a1, ha1, rfl⟩ | hx
  rotate_left 1
  · refine Or.inr (Or.inl ⟨by decide, ?_, fun M1 m => ?_⟩)
    · unfold CT F_X8_free
      have gx := c.needP' hx
      simp only [Lc_0 c.1, bdV_l, bdV_r, gx]
    · obtain ⟨e0, m0, -⟩ := m.zero
      have mx := m0.isP' hx
      refine MT.mk m (v := 0) ?_
      unfold F_X9_free
      simp only [e0, ob_t, Lc_67 m0.lay, bd2_t, ifn1, mx]
      rfl
  refine Or.inl ⟨(bsP upN (frO g s a1) (fun i => tightS s a1 i) 31 (gH g)).1, ?_, fun M1 m => ?_⟩
  · unfold CR F_X8_free
    have gc1 := c.needP ha1
    simp only [Lc_0 c.1, bdV_l, ob_t, gc1]
    obtain ⟨M2, e2, c2, w2⟩ := loop_q (step := fun z : Int32 × Int32 × Int32 × Mem => F_X8_free_s13 0 (nI a1) z.1 z.2.1 z.2.2.1 z.2.2.2) (fun i a M' => (a.1, a.2, nI i, M')) (fun a M' => (a.1, M')) (fun i a => if frO g s a1 i && upN a.2 (tightS s a1 i) then (nI i, tightS s a1 i) else a) ((-1 : Int32), (31 : Int32)) (gH g) (fun _ M' => CQ M' p g s ∧ QC M M') (M := M) ⟨c, QC.rfl'⟩ (by
      rintro i M' hi ⟨c', w'⟩
      obtain ⟨M3, e3, w3⟩ := c'.go ha1 hi
      have c3 := c'.c w3
      unfold F_X8_free_s13 F_X8_free_j53_13 F_X8_free_j54_13
      simp only [c'.pp, ob_t, c'.nH, if_neg (nI_ge hi (show gH g < 2 ^ 31 by omega)), Lp_0_4 c'.1, Lp_24_5 c'.1, c'.who hi, Lc_0 c'.1, e3, bd2_t, Lp_0_4 c3.1, Lc_24 c3.1, c3.tig ha1 hi, nI_1, ifz, ifn1]
      generalize itN _ _ i = a
      by_cases z1 : sWho s i = -1
      · rw [if_pos z1]
        refine ⟨M3, ?_, c3, w'.trans w3⟩
        by_cases z2 : goI g s a1 i (dampS g s) = 0
        · rw [if_pos z2]; simp [frO, z1, z2]
        · rw [if_neg z2]
          by_cases z3 : a.2 ≤ tightS s a1 i
          · rw [if_pos z3]; simp [upN, z3]
          · rw [if_neg z3]; simp [frO, upN, z1, z2, z3]
      · rw [if_neg z1]
        refine ⟨M', ?_, c', w'⟩
        simp [frO, z1]) (by
      rintro M' ⟨c', w'⟩
      unfold F_X8_free_s13
      simp only [c'.pp, ob_t, c'.nH, if_pos (nI_le (Nat.le_refl (gH g)) (show gH g < 2 ^ 31 by omega))])
    exact ⟨M2, (congrArg (fun o => Option.bind o _) e2).trans rfl, w2⟩
  · obtain ⟨e0, m0, w0⟩ := m.zero
    have gm1 := m0.isP ha1
    unfold MR F_X9_free
    simp only [e0, ob_t, Lc_67 m0.lay, bd2_t, ifn1, gm1]
    generalize stI M1 67 0 0 = M0 at *
    have hk : bsM upN (frO g s a1) (fun i => tightS s a1 i) (gH g) = (bsP upN (frO g s a1) (fun i => tightS s a1 i) 31 (gH g)).1 := bs_eq (v0 := 31) _ (by omega) fun i hi ho => by
      rw [upNt]
      unfold frO at ho
      simp only [Bool.and_eq_true, decide_eq_true_iff, Bool.not_eq_true', decide_eq_false_iff_not] at ho
      rcases goI_01 (g := g) (s := s) (p := a1) (h := i) (d := dampS g s) with ⟨-, z⟩ | ⟨z, -⟩
      · have h1 := ease_nn (d := dampS g s) m0.b.gp m0.b.gd ha1 hi (dampS_bnd m0.b.gp m0.b.gd)
        have h2 := z.2
        rw [ti_lt] at h2
        unfold bnd at h1
        rw [ti_le, show (31 : Int32).toInt = 31 from rfl]; omega
      · exact absurd z ho.2
    rw [← hk]
    obtain ⟨M2, e2, m2, w2⟩ := loop_bsM (step := fun z : Int32 × Int32 × Mem => F_X9_free_s19 67 (nI a1) z.1 z.2.1 z.2.2) (fun i b M' => (b, nI i, M')) (fun b M' => (b, M')) upN (frO g s a1) (fun i => tightS s a1 i) (gH g) (fun M' => MZu M' g s ∧ QW M1 M') (M := M0) ⟨m0, w0⟩ (by omega) (by
      rintro i b M' hi ⟨m', w'⟩ ho
      obtain ⟨M3, e3, m3, w3⟩ := m'.go ha1 hi
      unfold F_X9_free_s19
      simp only [ob_t, m'.b.nH, if_neg (nI_ge hi (show gH g < 2 ^ 31 by omega)), Lp_67_41 m'.lay, m'.who hi, Lc_67 m'.lay, e3, bd2_t, nI_1]
      by_cases z1 : sWho s i = -1
      · have z2 : goI g s a1 i (dampS g s) = 0 := by simpa [frO, z1] using ho
        rw [if_pos z1, if_pos z2]; exact ⟨M3, rfl, m3, w'.trans w3⟩
      · rw [if_neg z1]; exact ⟨M', rfl, m', w'⟩) (by
      rintro i M' hi ⟨m', w'⟩ ho
      obtain ⟨M3, e3, m3, w3⟩ := m'.go ha1 hi
      unfold F_X9_free_s19
      simp only [ob_t, m'.b.nH, if_neg (nI_ge hi (show gH g < 2 ^ 31 by omega)), Lp_67_41 m'.lay, m'.who hi, Lc_67 m'.lay, e3, bd2_t, nI_1, if_true]
      unfold frO at ho
      simp only [Bool.and_eq_true, decide_eq_true_iff, Bool.not_eq_true', decide_eq_false_iff_not] at ho
      rw [if_pos ho.1, if_neg ho.2]; exact ⟨M3, rfl, m3, w'.trans w3⟩) (by
      rintro i k M' hi hk2 ⟨m', w'⟩ ho
      obtain ⟨M3, e3, m3, w3⟩ := m'.go ha1 hi
      unfold F_X9_free_s19
      simp only [ob_t, m'.b.nH, if_neg (nI_ge hi (show gH g < 2 ^ 31 by omega)), Lp_67_41 m'.lay, m'.who hi, Lc_67 m'.lay, e3, bd2_t, nI_1, Lc_67 m3.lay, m3.b.tig ha1 hi, m3.b.tig ha1 (show k < gH g by omega)]
      unfold frO at ho
      simp only [Bool.and_eq_true, decide_eq_true_iff, Bool.not_eq_true', decide_eq_false_iff_not] at ho
      rw [if_pos ho.1, if_neg ho.2, if_neg (nI_nm1 (by omega))]
      refine ⟨M3, ?_, m3, w'.trans w3⟩
      by_cases z3 : tightS s a1 k ≤ tightS s a1 i
      · rw [if_pos z3]; simp [upN, z3]
      · rw [if_neg z3]; simp [upN, z3]) (by
      rintro b M' ⟨m', w'⟩
      unfold F_X9_free_s19
      simp only [ob_t, m'.b.nH, if_pos (nI_le (Nat.le_refl (gH g)) (show gH g < 2 ^ 31 by omega))])
    exact ⟨M2, (congrArg (fun o => Option.bind o _) e2).trans rfl, w2, m2⟩
theorem P_kept (c : CQ M p g s) (x1 : Int32) : PR 1 M g s (F_X8_kept 0 x1 M) (F_X9_kept 67 x1) := by
  have g1 := c.gp.1
  have g2 := c.gp.2.1
  rcases ncase x1 0 40 (by omega) (by omega) with ⟨a1, ha1l, ha1, rfl⟩ | hx
  rotate_left 1
  · refine Or.inr (Or.inr ⟨by decide, ?_, fun M1 m => ?_⟩)
    · unfold CT F_X8_kept
      have gx : F_X8_needDays x1 (0 : Int32) M = _ := c.needD' (a := 0) hx
      simp only [Lc_0 c.1, bdV_l, bdV_r, gx]
    · obtain ⟨e0, m0, -⟩ := m.zero
      have mx : F_X9_isDays 67 x1 (0 : Int32) (1 : Int32) _ = _ := m0.isD' (a := 0) (k := 1) hx (by omega) (by omega)
      refine MT.mk m (v := 0) ?_
      unfold F_X9_kept
      simp only [e0, ob_t, Lc_67 m0.lay, bd2_t, ifn1, mx]
      rfl
  refine Or.inl ⟨itN (fun k a => if wheS g s k = -1 then a else if wheS g (passN g a1 s) k = wheS g s k then a ||| one k else a) 0 (gN g), ?_, fun M1 m => ?_⟩
  · unfold CR F_X8_kept
    have gc1 : F_X8_needDays (nI a1) (0 : Int32) M = _ := needD (a := 0) ha1l ha1
    simp only [Lc_0 c.1, bdV_l, ob_t, gc1]
    obtain ⟨M', e, c', w⟩ := c.after ha1
    refine ⟨M', ?_, w⟩
    have e2 := loop_p (step := fun z : Int32 × Int32 => F_X8_kept_s16 0 31 M' z.1 z.2) (fun i a => (a, nI i)) (fun k a => if wheS g s k = -1 then a else if wheS g (passN g a1 s) k = wheS g s k then a ||| one k else a) 0 (gN g) (r := itN (fun k a => if wheS g s k = -1 then a else if wheS g (passN g a1 s) k = wheS g s k then a ||| one k else a) 0 (gN g)) (by
      intro i hi
      unfold F_X8_kept_s16
      simp only [c'.1.pp, ob_t, c'.1.nN, if_neg (nI_ge hi (show gN g < 2 ^ 31 by omega)), Lp_0_4 c'.1.1, Lp_24_7 c'.1.1, c'.1.whe hi, Lp_31_7 c'.1.1, c'.whe hi, nI_1, nm_t]
      split
      · rfl
      · split <;> rfl) (by
      unfold F_X8_kept_s16
      simp only [c'.1.pp, ob_t, c'.1.nN, if_pos (nI_le (Nat.le_refl (gN g)) (show gN g < 2 ^ 31 by omega))])
    simp only [e, bd2_t]
    exact (congrArg (fun o => Option.bind o _) e2).trans rfl
  · obtain ⟨e0, m0, w0⟩ := m.zero
    have gm1 : F_X9_isDays 67 (nI a1) (0 : Int32) (1 : Int32) _ = _ := m0.isD (a := 0) ha1l ha1
    unfold MR F_X9_kept
    simp only [e0, ob_t, Lc_67 m0.lay, bd2_t, ifn1, gm1]
    generalize stI M1 67 0 0 = M0 at *
    obtain ⟨M', e, m', w⟩ := m0.goesTo ha1
    refine ⟨M', ?_, w0.trans w, m'.1⟩
    have e2 := loop_p (step := fun z : Int32 × Int32 => F_X9_kept_s26 67 M' z.1 z.2) (fun i a => (a, nI i)) (fun h a => if sWho s h = -1 then a else if sWho (passN g a1 s) h = sWho s h then a ||| (1 : Int32) <<< (sWho s h &&& 31) else a) 0 (gH g) (r := itN (fun h a => if sWho s h = -1 then a else if sWho (passN g a1 s) h = sWho s h then a ||| (1 : Int32) <<< (sWho s h &&& 31) else a) 0 (gH g)) (by
      intro i hi
      unfold F_X9_kept_s26
      simp only [ob_t, m'.1.b.nH, if_neg (nI_ge hi (show gH g < 2 ^ 31 by omega)), Lp_67_41 m'.1.lay, m'.1.who hi, m'.who hi, nI_1, nm_t, or0]
      split
      · rfl
      · split <;> rfl) (by
      unfold F_X9_kept_s26
      simp only [ob_t, m'.1.b.nH, if_pos (nI_le (Nat.le_refl (gH g)) (show gH g < 2 ^ 31 by omega))])
    have hg := m0.b.gp
    have hd := m0.b.gd
    have hd' := m'.2.gd
    have eq : itN (fun h a => if sWho s h = -1 then a else if sWho (passN g a1 s) h = sWho s h then a ||| (1 : Int32) <<< (sWho s h &&& 31) else a) 0 (gH g) = itN (fun k a => if wheS g s k = -1 then a else if wheS g (passN g a1 s) k = wheS g s k then a ||| one k else a) 0 (gN g) := by
      refine bit_eqT fun k => ?_
      rw [bits_idx (P := fun h => sWho s h ≠ -1 ∧ sWho (passN g a1 s) h = sWho s h) (w := fun h => (sWho s h).toNatClampNeg) (fun i hi h => by
        obtain ⟨q, hq, e2, -⟩ := hd.who hi h.1
        rw [e2, nI_clamp (by omega)]; omega) (fun i a hi h => by
        obtain ⟨q, hq, e2, -⟩ := hd.who hi h.1
        rw [if_neg h.1, if_pos h.2, e2, nI_clamp (by omega)]; rfl) (fun i a _ h => by
        by_cases z : sWho s i = -1
        · rw [if_pos z]
        · rw [if_neg z, if_neg fun y => h ⟨z, y⟩])]
      rw [bits_row (P := fun k => wheS g s k ≠ -1 ∧ wheS g (passN g a1 s) k = wheS g s k) (by omega) (fun i a _ h => by rw [if_neg h.1, if_pos h.2]) (fun i a _ h => by
        by_cases z : wheS g s i = -1
        · rw [if_pos z]
        · rw [if_neg z, if_neg fun y => h ⟨z, y⟩])]
      constructor
      · rintro ⟨i, hi, ⟨h1, h2⟩, h3⟩
        obtain ⟨q, hq, e2, -⟩ := hd.who hi h1
        rw [e2, nI_clamp (by omega)] at h3
        subst h3
        have z1 : wheS g s q = nI i := (whe_iff hg hd hi (by omega)).mpr e2
        have z2 : wheS g (passN g a1 s) q = nI i := (whe_iff hg hd' hi (by omega)).mpr (h2.trans e2)
        exact ⟨hq, by rw [z1]; exact nI_nm1 (by omega), by rw [z1, z2]⟩
      · rintro ⟨hk, h1, h2⟩
        rcases whe_case (u := k) hg hd with ⟨z, -⟩ | ⟨i, hi, z1, z2⟩
        · exact absurd z h1
        · refine ⟨i, hi, ⟨by rw [z2]; exact nI_nm1 (by omega), ?_⟩, by rw [z2, nI_clamp (by omega)]⟩
          rw [z2]
          exact (whe_iff hg hd' hi (by omega)).mp (h2.trans z1)
    simp only [e, ob_t]
    rw [← eq]
    exact (congrArg (fun o => Option.bind o _) e2).trans rfl
end
