section
variable {M : Mem} {p : Nat} {g : Pg} {s : Sg}

/-! ===== the traders of the reference ===== -/
theorem MZu.tr {L : List Nat} {M' : Mem} (m : MZu M g s) (w : Wr L M M') (h : ∀ k ∈ L, k ∈ [88, 89, 90]) : MZu M' g s := (m.wr w (fun k hk => by
  have := h k hk
  simp only [List.mem_cons, List.not_mem_nil, or_false] at this
  rcases this with rfl | rfl | rfl <;> decide)).1
theorem MZu.wishT {l : Int32} (m : MZu M g s) : ∃ M', loop (fun z : Int32 × Mem => F_X9_trades_s41 67 l z.1 z.2) ((0 : Int32), M) = some M' ∧ Wr [88, 89, 90] M M' ∧ (∀ u, u < gN g → mI M' 88 u = wtS g s l u) ∧ mI M' 89 = mI M 89 ∧ mI M' 90 = mI M 90 := by
  have g2 := m.b.gp.2.1
  exact loop_mm (step := fun z : Int32 × Mem => F_X9_trades_s41 67 l z.1 z.2) (fun i M' => (nI i, M')) (fun M' => M') (gN g) (fun i M' => Wr [88, 89, 90] M M' ∧ (∀ u, u < i → mI M' 88 u = wtS g s l u) ∧ mI M' 89 = mI M 89 ∧ mI M' 90 = mI M 90) (M := M) ⟨Wr.rfl', fun u z => by omega, rfl, rfl⟩ (by
    rintro i M' hi ⟨w', h', a1, a2⟩
    have m' := m.tr w' (fun k h => h)
    refine ⟨stI M' 88 i (wtS g s l i), ?_, w'.st (by decide), fun u hu => ?_, by rw [mI_stne (by omega)]; exact a1, by rw [mI_stne (by omega)]; exact a2⟩
    · unfold F_X9_trades_s41
      dsimp only
      rw [m'.b.nN, ob_t, if_neg (nI_ge hi (show gN g < 2 ^ 31 by omega)), Lp_67_48 m'.lay, ob_t, Lc_67 m'.lay, m'.wantOf hi, ob_t, Lw_88 m'.lay (by omega), ob_t, nI_1]
    · rw [mI_steq]
      by_cases z : u = i
      · subst z; rw [upg_eq]
      · rw [upg_ne z]; exact h' u (by omega)) (by
    rintro M' ⟨w', -⟩
    unfold F_X9_trades_s41
    dsimp only
    rw [(m.tr w' (fun k h => h)).b.nN, ob_t, if_pos (nI_le (Nat.le_refl (gN g)) (show gN g < 2 ^ 31 by omega))])
def inN (s : Sg) (l : Int32) (i u : Nat) : Prop := ∃ h, h < i ∧ bitI l h = true ∧ sWho s h = nI u
theorem MZu.closeT {l : Int32} {G R : Nat → Int32} (m : MZu M g s) (hk : okL g s l) (hl : l ≠ 0) (hw : ∀ u, u < gN g → mI M 88 u = wtS g s l u) (hG : ∀ u, u < gN g → mI M 89 u = G u) (hR : ∀ u, u < gN g → mI M 90 u = R u) : ∃ M', loop (fun z : Int32 × Int32 × Mem => F_X9_trades_s69 67 l z.1 z.2.1 z.2.2) ((0 : Int32), (0 : Int32), M) = some (clM g s l (gH g), M') ∧ Wr [88, 89, 90] M M' ∧ (∀ u, u < gN g → mI M' 89 u = upT g s l (inl g s l) (wtS g s l) G u) ∧ ∀ u, u < gN g → mI M' 90 u = upT g s l (inl g s l) (rgS g s l) R u := by
  have g1 := m.b.gp.1
  have g2 := m.b.gp.2.1
  obtain ⟨M1, e1, w1, h1, h2, h3⟩ := loop_mm (step := fun z : Int32 × Int32 × Mem => F_X9_trades_s69 67 l z.1 z.2.1 z.2.2) (fun i M' => (clM g s l i, nI i, M')) (fun M' => (clM g s l (gH g), M')) (gH g) (fun i M' => Wr [88, 89, 90] M M' ∧ mI M' 88 = mI M 88 ∧ (∀ u, u < gN g → mI M' 89 u = upT g s l (inN s l i) (wtS g s l) G u) ∧ ∀ u, u < gN g → mI M' 90 u = upT g s l (inN s l i) (rgS g s l) R u) (M := M) ⟨Wr.rfl', rfl, fun u hu => by rw [upT_n (fun z => by obtain ⟨h, z1, -⟩ := z.1; omega)]; exact hG u hu, fun u hu => by rw [upT_n (fun z => by obtain ⟨h, z1, -⟩ := z.1; omega)]; exact hR u hu⟩ (by
    rintro i M' hi ⟨w', a0, a1, a2⟩
    have m' := m.tr w' (fun k h => h)
    have sk : ∀ (v Z : Nat → Int32) u, u < gN g → (sWho s i ≠ nI u ∨ bitI l i ≠ true ∨ rgS g s l u = 0) → upT g s l (inN s l (i + 1)) v Z u = upT g s l (inN s l i) v Z u := fun v Z u hu z => by
      by_cases r : rgS g s l u = 0
      · rw [upT_n (fun q => q.2 r), upT_n (fun q => q.2 r)]
      · refine upT_c ⟨fun ⟨h, q1, q2, q3⟩ => ⟨h, ?_, q2, q3⟩, fun ⟨h, q1, q2, q3⟩ => ⟨h, by omega, q2, q3⟩⟩
        by_cases e : h = i
        · subst e
          rcases z with z | z | z
          · exact absurd q3 z
          · exact absurd q2 z
          · exact absurd z r
        · omega
    unfold F_X9_trades_s69
    dsimp only
    rw [m'.b.nH, ob_t, if_neg (nI_ge hi (show gH g < 2 ^ 31 by omega)), Lp_67_41 m'.lay, ob_t, m'.who hi, ob_t]
    by_cases b : bitI l i = true
    · obtain ⟨q, hq, e2, e3⟩ := m.b.gd.who hi (hk i b).2
      have hin : inl g s l q := ⟨hq, i, b, e2⟩
      rw [if_neg (by rw [shr1 (by omega) b]; decide), e2, Lc_67 m'.lay, m'.ringOf hk hl (fun u hu => by rw [a0]; exact hw u hu) hin, ob_t]
      by_cases r : rgS g s l q = 0
      · rw [if_pos r, nI_1]
        have z : ¬ clF g s l i := fun y => y.2 (by rw [e2, nI_clamp (by omega)]; exact r)
        have y : ∀ u, u < gN g → sWho s i ≠ nI u ∨ bitI l i ≠ true ∨ rgS g s l u = 0 := fun u hu => by
          by_cases e : u = q
          · subst e; exact Or.inr (Or.inr r)
          · left; rw [e2]; exact fun c => e ((nI_eq (by omega) (by omega)).mp c).symm
        exact ⟨M', by rw [clM_n z], w', a0, fun u hu => by rw [sk _ _ u hu (y u hu)]; exact a1 u hu, fun u hu => by rw [sk _ _ u hu (y u hu)]; exact a2 u hu⟩
      · have z : clF g s l i := ⟨b, by rw [e2, nI_clamp (by omega)]; exact r⟩
        have w4 : Wr [88, 89, 90] M (stI M' 89 q (wtS g s l q)) := w'.st (by decide)
        have m4 := m.tr w4 (fun k h => h)
        have y : ∀ u, u ≠ q → u < gN g → sWho s i ≠ nI u ∨ bitI l i ≠ true ∨ rgS g s l u = 0 := fun u e hu => by
          left; rw [e2]; exact fun c => e ((nI_eq (by omega) (by omega)).mp c).symm
        refine ⟨stI (stI M' 89 q (wtS g s l q)) 90 q (rgS g s l q), ?_, w4.st (by decide), by rw [mI_stne (by omega), mI_stne (by omega)]; exact a0, fun u hu => ?_, fun u hu => ?_⟩
        · rw [if_neg r, Lp_67_49 m'.lay, ob_t, Lp_67_48 m'.lay, ob_t, La_88 m'.lay (by omega), ob_t, a0, hw q hq, Lw_89 m'.lay (by omega), ob_t, Lp_67_50 m4.lay, ob_t, Lc_67 m4.lay, m4.ringOf hk hl (fun u hu => by rw [mI_stne (by omega), a0]; exact hw u hu) hin, ob_t, Lw_90 m4.lay (by omega), ob_t, nm_t, nI_1, clM_y z]
          rfl
        · rw [mI_stne (by omega), mI_steq]
          by_cases e : u = q
          · subst e; rw [upg_eq, upT_y ⟨⟨i, by omega, b, e2⟩, r⟩]
          · rw [upg_ne e, sk _ _ u hu (y u e hu)]; exact a1 u hu
        · rw [mI_steq]
          by_cases e : u = q
          · subst e; rw [upg_eq, upT_y ⟨⟨i, by omega, b, e2⟩, r⟩]
          · rw [upg_ne e, mI_stne (by omega), sk _ _ u hu (y u e hu)]; exact a2 u hu
    · have z : ¬ clF g s l i := fun q => b q.1
      rw [if_pos (shB0 (by omega) b), nI_1]
      exact ⟨M', by rw [clM_n z], w', a0, fun u hu => by rw [sk _ _ u hu (Or.inr (Or.inl b))]; exact a1 u hu, fun u hu => by rw [sk _ _ u hu (Or.inr (Or.inl b))]; exact a2 u hu⟩) (by
    rintro M' ⟨w', -⟩
    unfold F_X9_trades_s69
    dsimp only
    rw [(m.tr w' (fun k h => h)).b.nH, ob_t, if_pos (nI_le (Nat.le_refl (gH g)) (show gH g < 2 ^ 31 by omega))])
  have cv : ∀ u, u < gN g → (inN s l (gH g) u ↔ inl g s l u) := fun u hu => ⟨fun ⟨h, _, b, c⟩ => ⟨hu, h, b, c⟩, fun ⟨_, h, b, c⟩ => ⟨h, (hk h b).1, b, c⟩⟩
  exact ⟨M1, e1, w1, fun u hu => by rw [h2 u hu]; exact upT_c (cv u hu), fun u hu => by rw [h3 u hu]; exact upT_c (cv u hu)⟩
theorem MZu.trades (m : MZu M g s) : ∃ M', F_X9_trades 67 M = some M' ∧ Wr [88, 89, 90] M M' ∧ (∀ u, u < gN g → mI M' 89 u = (trN g s 8).2.1 u) ∧ ∀ u, u < gN g → mI M' 90 u = (trN g s 8).2.2 u := by
  have g1 := m.b.gp.1
  have g2 := m.b.gp.2.1
  obtain ⟨Ma, e1, wa, a1, a2⟩ := loop_mm (step := fun z : Int32 × Mem => F_X9_trades_s2 67 z.1 z.2) (fun i M' => (nI i, M')) (fun M' => M') 8 (fun i M' => Wr [88, 89, 90] M M' ∧ (∀ u, u < i → mI M' 89 u = -1) ∧ ∀ u, u < i → mI M' 90 u = 0) (M := M) ⟨Wr.rfl', fun u z => by omega, fun u z => by omega⟩ (by
    rintro i M' hi ⟨w', h1, h2⟩
    have m' := m.tr w' (fun k h => h)
    refine ⟨stI (stI M' 89 i (-1)) 90 i 0, ?_, (w'.st (by decide)).st (by decide), fun u hu => ?_, fun u hu => ?_⟩
    · unfold F_X9_trades_s2
      dsimp only
      rw [if_neg (show ¬ (8 : Int32) ≤ nI i from nI_ge (b := 8) hi (by omega)), Lp_67_49 m'.lay, ob_t, Lw_89 m'.lay (by omega), ob_t, Lp_67_50 (M := stI M' 89 i _) m'.lay, ob_t, Lw_90 (M := stI M' 89 i _) m'.lay (by omega), ob_t, nI_1]
    · rw [mI_stne (by omega), mI_steq]
      by_cases e : u = i
      · subst e; rw [upg_eq]
      · rw [upg_ne e]; exact h1 u (by omega)
    · rw [mI_steq]
      by_cases e : u = i
      · subst e; rw [upg_eq]
      · rw [upg_ne e, mI_stne (by omega)]; exact h2 u (by omega)) (by
    rintro M' ⟨w', -⟩
    unfold F_X9_trades_s2
    dsimp only
    rw [if_pos (show (8 : Int32) ≤ nI 8 from nI_le (a := 8) (by omega) (by omega))])
  have ma := m.tr wa (fun k h => h)
  obtain ⟨M2, e2, w2, h2, h3⟩ := loop_ex (step := fun z : Int32 × Mem => F_X9_trades_s33 67 z.1 z.2) (fun i z => z.1 = (trN g s i).1 ∧ Wr [88, 89, 90] M z.2 ∧ (∀ u, u < gN g → mI z.2 89 u = (trN g s i).2.1 u) ∧ ∀ u, u < gN g → mI z.2 90 u = (trN g s i).2.2 u) (fun M' => Wr [88, 89, 90] M M' ∧ (∀ u, u < gN g → mI M' 89 u = (trN g s 8).2.1 u) ∧ ∀ u, u < gN g → mI M' 90 u = (trN g s 8).2.2 u) 8 (by
    rintro i ⟨x, M'⟩ hi ⟨hk, w', b1, b2⟩
    dsimp only at hk w' b1 b2
    subst hk
    have m' := m.tr w' (fun k h => h)
    have ok := trN_ok (s := s) m.b.gp i
    unfold F_X9_trades_s33
    dsimp only
    by_cases x0 : (trN g s i).1 = 0
    · left
      rw [if_pos x0]
      have e := trN_st x0 (8 - i)
      rw [show i + (8 - i) = 8 by omega] at e
      rw [e]
      exact ⟨M', rfl, w', b1, b2⟩
    · right
      have i8 : i ≠ 8 := fun z => x0 (by rw [z]; exact trN_8 m.b.gp m.b.gd)
      obtain ⟨M3, e3, w3, d1, d2, d3⟩ := m'.wishT (l := (trN g s i).1)
      have m3 := m'.tr w3 (fun k h => h)
      obtain ⟨M4, e4, w4, d4, d5⟩ := m3.closeT (G := (trN g s i).2.1) (R := (trN g s i).2.2) ok x0 d1 (fun u hu => by rw [d2]; exact b1 u hu) (fun u hu => by rw [d3]; exact b2 u hu)
      rw [if_neg x0, e3, ob_t, e4, ob_t, u2_t, nm_t]
      exact ⟨by omega, _, rfl, rfl, (w'.trans w3).trans w4, d4, d5⟩) (s := (usS g s, Ma)) ⟨rfl, wa, fun u hu => a1 u (by omega), fun u hu => a2 u (by omega)⟩
  refine ⟨M2, ?_, w2, h2, h3⟩
  unfold F_X9_trades
  have e1' : loop (fun z : Int32 × Mem => F_X9_trades_s2 67 z.1 z.2) ((0 : Int32), M) = some Ma := e1
  rw [e1', ob_t, Lc_67 ma.lay, ma.uses, ob_t, e2, ob_t]
theorem P_trade (c : CQ M p g s) (x1 : Int32) : PR 0 M g s (F_X8_trade 0 x1 M) (F_X9_trade 67 x1) := by
  have g1 := c.gp.1
  have g2 := c.gp.2.1
  rcases pcase g x1 g2 with ⟨a1, ha1, rfl⟩ | hx
  rotate_left 1
  · refine Or.inr (Or.inl ⟨by decide, ?_, fun M1 m => ?_⟩)
    · unfold CT F_X8_trade
      have gx := c.needP' hx
      simp only [Lc_0 c.1, bdV_l, bdV_r, gx]
    · obtain ⟨e0, m0, -⟩ := m.zero
      have mx := m0.isP' hx
      refine MT.mk m (v := 0) ?_
      unfold F_X9_trade
      simp only [e0, ob_t, Lc_67 m0.lay, bd2_t, ifn1, mx]
      rfl
  refine Or.inl ⟨(trN g s 8).2.1 a1, ?_, fun M1 m => ?_⟩
  · unfold CR F_X8_trade
    have gc1 := c.needP ha1
    simp only [Lc_0 c.1, bdV_l, ob_t, gc1]
    obtain ⟨M2, e2, w2, h1, h2⟩ := c.solveT
    have c2 := c.c w2
    refine ⟨M2, ?_, w2⟩
    rw [Lp_0_14 c.1, ob_t, c.pp, ob_t, Lp_0_4 c.1, ob_t, Lc_62 c.1, e2, ob_t, Lp_0_14 c2.1, ob_t, Lp_62_0 c2.1, ob_t, La_63 c2.1 (by omega), ob_t, h1 a1 ha1]
  · obtain ⟨e0, m0, w0⟩ := m.zero
    have gm1 := m0.isP ha1
    unfold MR F_X9_trade
    simp only [e0, ob_t, Lc_67 m0.lay, bd2_t, ifn1, gm1]
    generalize stI M1 67 0 0 = M0 at *
    obtain ⟨M2, e2, w2, h1, h2⟩ := m0.trades
    have m2 := m0.wr w2 (by decide)
    refine ⟨M2, ?_, w0.trans m2.2, m2.1⟩
    rw [e2, ob_t, Lp_67_49 m2.1.lay, ob_t, La_89 m2.1.lay (by omega), ob_t, h1 a1 ha1]
theorem P_ringed (c : CQ M p g s) (x1 : Int32) : PR 0 M g s (F_X8_ringed 0 x1 M) (F_X9_ringed 67 x1) := by
  have g1 := c.gp.1
  have g2 := c.gp.2.1
  rcases pcase g x1 g2 with ⟨a1, ha1, rfl⟩ | hx
  rotate_left 1
  · refine Or.inr (Or.inl ⟨by decide, ?_, fun M1 m => ?_⟩)
    · unfold CT F_X8_ringed
      have gx := c.needP' hx
      simp only [Lc_0 c.1, bdV_l, bdV_r, gx]
    · obtain ⟨e0, m0, -⟩ := m.zero
      have mx := m0.isP' hx
      refine MT.mk m (v := 0) ?_
      unfold F_X9_ringed
      simp only [e0, ob_t, Lc_67 m0.lay, bd2_t, ifn1, mx]
      rfl
  refine Or.inl ⟨(trN g s 8).2.2 a1, ?_, fun M1 m => ?_⟩
  · unfold CR F_X8_ringed
    have gc1 := c.needP ha1
    simp only [Lc_0 c.1, bdV_l, ob_t, gc1]
    obtain ⟨M2, e2, w2, h1, h2⟩ := c.solveT
    have c2 := c.c w2
    refine ⟨M2, ?_, w2⟩
    rw [Lp_0_14 c.1, ob_t, c.pp, ob_t, Lp_0_4 c.1, ob_t, Lc_62 c.1, e2, ob_t, Lp_0_14 c2.1, ob_t, Lp_62_1 c2.1, ob_t, La_64 c2.1 (by omega), ob_t, h2 a1 ha1]
  · obtain ⟨e0, m0, w0⟩ := m.zero
    have gm1 := m0.isP ha1
    unfold MR F_X9_ringed
    simp only [e0, ob_t, Lc_67 m0.lay, bd2_t, ifn1, gm1]
    generalize stI M1 67 0 0 = M0 at *
    obtain ⟨M2, e2, w2, h1, h2⟩ := m0.trades
    have m2 := m0.wr w2 (by decide)
    refine ⟨M2, ?_, w0.trans m2.2, m2.1⟩
    rw [e2, ob_t, Lp_67_50 m2.1.lay, ob_t, La_90 m2.1.lay (by omega), ob_t, h2 a1 ha1]
end
