section
variable {M : Mem} {p : Nat} {g : Pg} {s : Sg}

-- a game
noncomputable def gnE (g : Pg) (s : Sg) (u h : Nat) : Int32 := if goI g s u h (dampS g s) = 0 then -3 else 20 - 2 * tightS s u h
noncomputable def gnS (g : Pg) (s : Sg) (u o h : Nat) (x y : Int32) : Int32 := if x = 0 then 2 else if y = 0 then gnE g s u h else if tightS s u h < tightS s o h then gnE g s u h else if tightS s u h = tightS s o h then (if o ≤ u then -5 else gnE g s u h) else -5
theorem CQ.gainE {u h : Nat} (c : CQ M p g s) (hu : u < gN g) (hh : h < gH g) : ∃ M', F_X8_gain_j25 0 (nI u) (nI h) M = some (gnE g s u h, M') ∧ QC M M' := by
  obtain ⟨M1, e1, w1⟩ := c.go hu hh
  have c1 := c.c w1
  refine ⟨M1, ?_, w1⟩
  unfold F_X8_gain_j25 gnE
  rw [Lc_0 c.1, e1, bd2_t, Lp_0_4 c1.1, ob_t, Lc_24 c1.1, c1.tig hu hh, ob_t]
  split <;> rfl
theorem CQ.gain {u o h : Nat} {x y : Int32} (c : CQ M p g s) (hu : u < gN g) (ho : o < gN g) (hh : h < gH g) : ∃ M', F_X8_gain 0 (nI u) x (nI o) y (nI h) M = some (gnS g s u o h x y, M') ∧ QC M M' := by
  have g2 := c.gp.2.1
  obtain ⟨M1, e1, w1⟩ := c.gainE hu hh
  unfold F_X8_gain gnS F_X8_comesFirst
  rw [e1, Lc_0 c.1, Lp_0_4 c.1, ob_t, Lc_24 c.1, c.tig hu hh, ob_t, ob_t, Lc_24 c.1, c.tig ho hh, ob_t]
  by_cases hx : x = 0
  · rw [if_pos hx, if_pos hx]; exact ⟨M, rfl, QC.rfl'⟩
  · rw [if_neg hx, if_neg hx]
    by_cases hy : y = 0
    · rw [if_pos hy, if_pos hy]; exact ⟨M1, rfl, w1⟩
    · rw [if_neg hy, if_neg hy]
      by_cases h1 : tightS s u h < tightS s o h
      · rw [if_pos h1, if_pos h1, ob_t, if_neg (by decide)]; exact ⟨M1, rfl, w1⟩
      · rw [if_neg h1, if_neg h1]
        by_cases h2 : tightS s u h = tightS s o h
        · rw [if_pos h2, if_pos h2]
          by_cases h3 : o ≤ u
          · rw [if_pos (nI_le h3 (by omega)), if_pos h3, ob_t, if_pos rfl]; exact ⟨M, rfl, QC.rfl'⟩
          · rw [if_neg (nI_ge (by omega) (by omega)), if_neg h3, ob_t, if_neg (by decide)]; exact ⟨M1, rfl, w1⟩
        · rw [if_neg h2, if_neg h2, ob_t, if_pos rfl]; exact ⟨M, rfl, QC.rfl'⟩
theorem CQ.stays {u o h : Nat} {x y : Int32} (c : CQ M p g s) (hu : u < gN g) (ho : o < gN g) (hh : h < gH g) (hx : x = 0 ∨ x = 1) : ∃ M', F_X8_stays 0 (nI u) x (nI o) y (nI h) M = some (if gnS g s u o h x y < gnS g s u o h (1 - x) y then 0 else 1, M') ∧ QC M M' := by
  obtain ⟨M1, e1, w1⟩ := c.gain (x := x) (y := y) hu ho hh
  have c1 := c.c w1
  obtain ⟨M2, e2, w2⟩ := c1.gain (x := 1 - x) (y := y) hu ho hh
  refine ⟨M2, ?_, w1.trans w2⟩
  unfold F_X8_stays F_X8_stays_j24
  rw [Lc_0 c.1, e1, bd2_t]
  rcases hx with rfl | rfl
  · rw [if_pos rfl, Lc_0 c1.1]
    have e3 : F_X8_gain 0 (nI u) 1 (nI o) y (nI h) M1 = some (gnS g s u o h (1 - 0) y, M2) := e2
    rw [e3, bd2_t]
    split <;> rfl
  · rw [if_neg (by decide), Lc_0 c1.1]
    have e3 : F_X8_gain 0 (nI u) 0 (nI o) y (nI h) M1 = some (gnS g s u o h (1 - 1) y, M2) := e2
    rw [e3, bd2_t]
    split <;> rfl
theorem MZu.gain {u o h : Nat} {x y : Int32} (m : MZu M g s) (hu : u < gN g) (ho : o < gN g) (hh : h < gH g) (hy : y = 0 ∨ y = 1) (hne : u ≠ o) : ∃ M', F_X9_gains 67 (nI u) (nI o) (nI h) x y M = some (gnS g s u o h x y, M') ∧ MZu M' g s ∧ QW M M' := by
  have g2 := m.b.gp.2.1
  obtain ⟨M1, e1, m1, w1⟩ := m.go hu hh
  have ej : F_X9_gains_j53 67 (nI u) (nI h) (tightS s u h) M = some (gnE g s u h, M1) := by
    unfold F_X9_gains_j53 gnE
    rw [Lc_67 m.lay, e1, bd2_t]
    split <;> rfl
  unfold F_X9_gains gnS
  rw [Lc_67 m.lay, m.b.tig hu hh, ob_t, Lc_67 m.lay, m.b.tig ho hh, ob_t, ej]
  by_cases hx : x = 0
  · rw [if_pos hx, if_pos hx]; exact ⟨M, rfl, m, QW.rfl'⟩
  · rw [if_neg hx, if_neg hx]
    rcases hy with rfl | rfl
    · rw [if_pos rfl, if_neg (by decide)]; exact ⟨M1, rfl, m1, w1⟩
    · rw [if_pos rfl, if_neg (show ¬ (1 : Int32) = 0 by decide)]
      by_cases h1 : tightS s u h < tightS s o h
      · rw [if_pos h1, if_neg (fun z => by rw [ti_lt] at h1 z; omega), if_neg (fun z => by rw [ti_lt, z] at h1; omega)]; exact ⟨M1, rfl, m1, w1⟩
      · rw [if_neg h1]
        by_cases h2 : tightS s u h = tightS s o h
        · rw [if_pos h2, if_neg (fun z => by rw [ti_lt, h2] at z; omega), if_pos h2.symm]
          by_cases h3 : o ≤ u
          · rw [if_pos h3, if_neg (nI_ge (by omega) (by omega))]; exact ⟨M, rfl, m, QW.rfl'⟩
          · rw [if_neg h3, if_pos (nI_le (by omega) (by omega))]; exact ⟨M1, rfl, m1, w1⟩
        · rw [if_neg h2, if_pos]
          · exact ⟨M, rfl, m, QW.rfl'⟩
          · rw [ti_lt] at h1 ⊢
            have : (tightS s u h).toInt ≠ (tightS s o h).toInt := fun z => h2 (Int32.toInt_inj.mp z)
            omega
def okG (g : Pg) (s : Sg) (u o h : Nat) (k : Nat) : Prop := ¬ gnS g s u o h (nI (k / 2)) (nI (k % 2)) < gnS g s u o h (1 - nI (k / 2)) (nI (k % 2)) ∧ ¬ gnS g s o u h (nI (k % 2)) (nI (k / 2)) < gnS g s o u h (1 - nI (k % 2)) (nI (k / 2))
noncomputable def gmF (g : Pg) (s : Sg) (u o h : Nat) (k : Nat) (a : Int32 × Int32) : Int32 × Int32 := by
  classical exact if okG g s u o h k then (a.1 + 1, if a.2 = -1 then nI (10 * (k / 2) + k % 2) else a.2) else a
theorem gmF_y {u o h k : Nat} {a : Int32 × Int32} (hk : okG g s u o h k) : gmF g s u o h k a = (a.1 + 1, if a.2 = -1 then nI (10 * (k / 2) + k % 2) else a.2) := by unfold gmF; rw [if_pos hk]
theorem gmF_n {u o h k : Nat} {a : Int32 × Int32} (hk : ¬ okG g s u o h k) : gmF g s u o h k a = a := by unfold gmF; rw [if_neg hk]
theorem CQ.gm1 {u o h k : Nat} {a : Int32 × Int32} (c : CQ M p g s) (hu : u < gN g) (ho : o < gN g) (hh : h < gH g) (hk : k < 4) : ∃ M', F_X8_game_s46 0 (nI u) (nI o) (nI h) a.1 a.2 (nI k) M = some (.inl ((gmF g s u o h k a).1, (gmF g s u o h k a).2, nI (k + 1), M')) ∧ QC M M' := by
  have key : ∀ X Y : Nat, k = 2 * X + Y → Y < 2 → X < 2 → ∃ M', F_X8_game_j78_46 0 (nI u) (nI o) (nI h) a.1 a.2 (nI k) (nI X) (nI Y) M = some (.inl ((gmF g s u o h k a).1, (gmF g s u o h k a).2, nI (k + 1), M')) ∧ QC M M' := by
    intro X Y hk2 hY hX
    have eX : k / 2 = X := by omega
    have eY : k % 2 = Y := by omega
    have bX : nI X = 0 ∨ nI X = 1 := by
      have : X = 0 ∨ X = 1 := by omega
      rcases this with rfl | rfl
      · exact Or.inl rfl
      · exact Or.inr rfl
    have bY : nI Y = 0 ∨ nI Y = 1 := by
      have : Y = 0 ∨ Y = 1 := by omega
      rcases this with rfl | rfl
      · exact Or.inl rfl
      · exact Or.inr rfl
    obtain ⟨M1, e1, w1⟩ := c.stays (x := nI X) (y := nI Y) hu ho hh bX
    have c1 := c.c w1
    obtain ⟨M2, e2, w2⟩ := c1.stays (x := nI Y) (y := nI X) ho hu hh bY
    have hok : okG g s u o h k ↔ (¬ gnS g s u o h (nI X) (nI Y) < gnS g s u o h (1 - nI X) (nI Y) ∧ ¬ gnS g s o u h (nI Y) (nI X) < gnS g s o u h (1 - nI Y) (nI X)) := by unfold okG; rw [eX, eY]
    unfold F_X8_game_j78_46 F_X8_game_j128_46
    rw [Lc_0 c.1, e1, bd2_t, Lc_0 c1.1, e2, bd2_t, nI_1]
    by_cases h1 : gnS g s u o h (nI X) (nI Y) < gnS g s u o h (1 - nI X) (nI Y)
    · rw [if_pos h1, if_pos rfl, gmF_n (fun z => (hok.mp z).1 h1)]; exact ⟨M1, rfl, w1⟩
    · rw [if_neg h1, if_neg (by decide)]
      by_cases h2 : gnS g s o u h (nI Y) (nI X) < gnS g s o u h (1 - nI Y) (nI X)
      · rw [if_pos h2, if_pos rfl, gmF_n (fun z => (hok.mp z).2 h2)]; exact ⟨M2, rfl, w1.trans w2⟩
      · rw [if_neg h2, if_neg (by decide), gmF_y (hok.mpr ⟨h1, h2⟩)]
        refine ⟨M2, ?_, w1.trans w2⟩
        by_cases h3 : a.2 = -1
        · rw [if_pos h3]
          dsimp only
          rw [if_pos h3, eX, eY]
          have : (X = 0 ∨ X = 1) ∧ (Y = 0 ∨ Y = 1) := by omega
          rcases this with ⟨rfl | rfl, rfl | rfl⟩ <;> rfl
        · rw [if_neg h3]
          dsimp only
          rw [if_neg h3]
  have z : k = 0 ∨ k = 1 ∨ k = 2 ∨ k = 3 := by omega
  unfold F_X8_game_s46 F_X8_game_j63_46
  rw [if_neg (show ¬ (4 : Int32) ≤ nI k from nI_ge (b := 4) hk (by omega))]
  rcases z with rfl | rfl | rfl | rfl
  · rw [if_pos (by decide), if_neg (by decide)]; exact key 0 0 rfl (by omega) (by omega)
  · rw [if_pos (by decide), if_pos (by decide)]; exact key 0 1 rfl (by omega) (by omega)
  · rw [if_neg (by decide), if_neg (by decide)]; exact key 1 0 rfl (by omega) (by omega)
  · rw [if_neg (by decide), if_pos (by decide)]; exact key 1 1 rfl (by omega) (by omega)
theorem MZu.gm1 {u o h k : Nat} {a : Int32 × Int32} (m : MZu M g s) (hu : u < gN g) (ho : o < gN g) (hh : h < gH g) (hne : u ≠ o) (hk : k < 4) : ∃ M', F_X9_game_s68 67 (nI u) (nI o) (nI h) a.1 a.2 (nI k) M = some (.inl ((gmF g s u o h k a).1, (gmF g s u o h k a).2, nI (k + 1), M')) ∧ MZu M' g s ∧ QW M M' := by
  have eX : nI k / 2 = nI (k / 2) := nI_div (b := 2) (by omega) (by omega) (by omega)
  have eY : nI k - nI k / 2 * 2 = nI (k % 2) := nI_rem (b := 2) (by omega) (by omega) (by omega)
  have bX : nI (k / 2) = 0 ∨ nI (k / 2) = 1 := by
    have : k / 2 = 0 ∨ k / 2 = 1 := by omega
    rcases this with e | e
    · rw [e]; exact Or.inl rfl
    · rw [e]; exact Or.inr rfl
  have bY : nI (k % 2) = 0 ∨ nI (k % 2) = 1 := by
    have : k % 2 = 0 ∨ k % 2 = 1 := by omega
    rcases this with e | e
    · rw [e]; exact Or.inl rfl
    · rw [e]; exact Or.inr rfl
  obtain ⟨M1, e1, m1, w1⟩ := m.gain (x := 1 - nI (k / 2)) (y := nI (k % 2)) hu ho hh bY hne
  obtain ⟨M2, e2, m2, w2⟩ := m1.gain (x := nI (k / 2)) (y := nI (k % 2)) hu ho hh bY hne
  obtain ⟨M3, e3, m3, w3⟩ := m2.gain (x := 1 - nI (k % 2)) (y := nI (k / 2)) ho hu hh bX (fun z => hne z.symm)
  obtain ⟨M4, e4, m4, w4⟩ := m3.gain (x := nI (k % 2)) (y := nI (k / 2)) ho hu hh bX (fun z => hne z.symm)
  unfold F_X9_game_s68
  rw [if_neg (show ¬ (4 : Int32) ≤ nI k from nI_ge (b := 4) hk (by omega)), nm_t, eY, eX, Lc_67 m.lay, e1, bd2_t, Lc_67 m1.lay, e2, bd2_t, Lc_67 m2.lay, e3, bd2_t, Lc_67 m3.lay, e4, bd2_t, nI_1]
  by_cases h1 : gnS g s u o h (nI (k / 2)) (nI (k % 2)) < gnS g s u o h (1 - nI (k / 2)) (nI (k % 2))
  · rw [if_pos h1, gmF_n (fun z => z.1 h1)]; exact ⟨M2, rfl, m2, w1.trans w2⟩
  · rw [if_neg h1]
    have w34 := ((w1.trans w2).trans w3).trans w4
    by_cases h2 : gnS g s o u h (nI (k % 2)) (nI (k / 2)) < gnS g s o u h (1 - nI (k % 2)) (nI (k / 2))
    · rw [if_neg (fun z => le_nlt.mpr h2 z), gmF_n (fun z => z.2 h2)]; exact ⟨M4, rfl, m4, w34⟩
    · rw [if_pos (Classical.not_not.mp fun z => h2 (le_nlt.mp z)), gmF_y ⟨h1, h2⟩]
      refine ⟨M4, ?_, m4, w34⟩
      by_cases h3 : a.2 = -1
      · rw [if_pos h3]
        dsimp only
        rw [if_pos h3, nm_t]
        have : (10 : Int32) * nI (k / 2) + nI (k % 2) = nI (10 * (k / 2) + k % 2) := by
          rw [show (10 : Int32) * nI (k / 2) = nI (10 * (k / 2)) from nI_mul (a := 10), nI_add]
        rw [this]
      · rw [if_neg h3]
        dsimp only
        rw [if_neg h3]
theorem P_game (c : CQ M p g s) (x1 x2 x3 x4 : Int32) : PR 2 M g s (F_X8_game 0 x1 x2 x3 x4 M) (F_X9_game 67 x1 x2 x3 x4) := by
  have g1 := c.gp.1
  have g2 := c.gp.2.1
  rcases pcase g x1 g2 with ⟨a1, ha1, rfl⟩ | hx
  rotate_left 1
  · refine Or.inr (Or.inl ⟨by decide, ?_, fun M1 m => ?_⟩)
    · unfold CT F_X8_game
      have gx := c.needP' hx
      simp only [Lc_0 c.1, bdV_l, bdV_r, gx]
    · obtain ⟨e0, m0, -⟩ := m.zero
      have mx := m0.isP' hx
      refine MT.mk m (v := 0) ?_
      unfold F_X9_game
      simp only [e0, ob_t, Lc_67 m0.lay, bd2_t, ifn1, mx]
      rfl
  rcases pcase g x2 g2 with ⟨a2, ha2, rfl⟩ | hx
  rotate_left 1
  · refine Or.inr (Or.inl ⟨by decide, ?_, fun M1 m => ?_⟩)
    · unfold CT F_X8_game
      have gc1 := c.needP ha1
      have gx := c.needP' hx
      simp only [Lc_0 c.1, bdV_l, bdV_r, gx, gc1]
    · obtain ⟨e0, m0, -⟩ := m.zero
      have gm1 := m0.isP ha1
      have mx := m0.isP' hx
      refine MT.mk m (v := 0) ?_
      unfold F_X9_game
      simp only [e0, ob_t, Lc_67 m0.lay, bd2_t, ifn1, mx, gm1]
      rfl
  rcases hcase g x3 g1 with ⟨a3, ha3, rfl⟩ | hx
  rotate_left 1
  · refine Or.inr (Or.inl ⟨by decide, ?_, fun M1 m => ?_⟩)
    · unfold CT F_X8_game
      have gc1 := c.needP ha1
      have gc2 := c.needP ha2
      have gx := c.needH' hx
      simp only [Lc_0 c.1, bdV_l, bdV_r, gx, gc1, gc2]
    · obtain ⟨e0, m0, -⟩ := m.zero
      have gm1 := m0.isP ha1
      have gm2 := m0.isP ha2
      have mx := m0.isH' hx
      refine MT.mk m (v := 0) ?_
      unfold F_X9_game
      simp only [e0, ob_t, Lc_67 m0.lay, bd2_t, ifn1, mx, gm1, gm2]
      rfl
  rcases ncase x4 0 1 (by omega) (by omega) with ⟨a4, -, ha4, rfl⟩ | hx
  rotate_left 1
  · refine Or.inr (Or.inl ⟨by decide, ?_, fun M1 m => ?_⟩)
    · unfold CT F_X8_game
      have gc1 := c.needP ha1
      have gc2 := c.needP ha2
      have gc3 := c.needH ha3
      have gx : F_X8_needWhat x4 (1 : Int32) M = _ := c.needW' (b := 1) hx
      simp only [Lc_0 c.1, bdV_l, bdV_r, gx, gc1, gc2, gc3]
    · obtain ⟨e0, m0, -⟩ := m.zero
      have gm1 := m0.isP ha1
      have gm2 := m0.isP ha2
      have gm3 := m0.isH ha3
      have mx : F_X9_isWhat 67 x4 (1 : Int32) _ = _ := m0.isW' (b := 1) hx
      refine MT.mk m (v := 0) ?_
      unfold F_X9_game
      simp only [e0, ob_t, Lc_67 m0.lay, bd2_t, ifn1, mx, gm1, gm2, gm3]
      rfl
  by_cases he : a1 = a2
  · subst he
    refine Or.inr (Or.inr ⟨by decide, ?_, fun M1 m => ?_⟩)
    · unfold CT F_X8_game
      have gc4 : F_X8_needWhat (nI a4) (1 : Int32) M = _ := needW (b := 1) ha4 (by omega)
      rw [Lc_0 c.1, c.needP ha1, bdV_l, Lc_0 c.1, c.needP ha1, bdV_l, Lc_0 c.1, c.needH ha3, bdV_l, gc4, bdV_l, if_pos rfl, c.nx, ob_t]
    · obtain ⟨e0, m0, -⟩ := m.zero
      have gm4 : F_X9_isWhat 67 (nI a4) (1 : Int32) _ = _ := m0.isW (b := 1) ha4 (by omega)
      have mr : F_X9_right 67 0 2 (stI M1 67 0 0) = some (0, stI (stI M1 67 0 0) 67 0 2) := m0.rgt' (k := 2) (by omega) (by omega)
      refine MT.mk m (v := 0) ?_
      unfold F_X9_game F_X9_game_j50
      rw [e0, ob_t, Lc_67 m0.lay, m0.isP ha1, bd2_t, if_neg (by decide), Lc_67 m0.lay, m0.isP ha1, bd2_t, if_neg (by decide), Lc_67 m0.lay, m0.isH ha3, bd2_t, if_neg (by decide), Lc_67 m0.lay, gm4, bd2_t, if_neg (by decide), if_pos rfl, Lc_67 m0.lay, mr, bd2_t, if_pos rfl]
      rfl
  · have hne : ¬ nI a1 = nI a2 := fun z => he ((nI_eq (by omega) (by omega)).mp z)
    refine Or.inl ⟨if a4 = 0 then (itN (gmF g s a1 a2 a3) ((0 : Int32), (-1 : Int32)) 4).1 else (itN (gmF g s a1 a2 a3) ((0 : Int32), (-1 : Int32)) 4).2, ?_, fun M1 m => ?_⟩
    · obtain ⟨M2, e2, c2, w2⟩ := loop_q (step := fun z : Int32 × Int32 × Int32 × Mem => F_X8_game_s46 0 (nI a1) (nI a2) (nI a3) z.1 z.2.1 z.2.2.1 z.2.2.2) (fun i a M' => (a.1, a.2, nI i, M')) (fun a M' => (a.1, a.2, M')) (gmF g s a1 a2 a3) ((0 : Int32), (-1 : Int32)) 4 (fun _ M' => CQ M' p g s ∧ QC M M') (M := M) ⟨c, QC.rfl'⟩ (by
        rintro i M' hi ⟨c', w'⟩
        obtain ⟨M3, e3, w3⟩ := c'.gm1 (a := itN (gmF g s a1 a2 a3) ((0 : Int32), (-1 : Int32)) i) ha1 ha2 ha3 hi
        exact ⟨M3, e3, c'.c w3, w'.trans w3⟩) (by
        rintro M' ⟨c', w'⟩
        unfold F_X8_game_s46
        dsimp only
        rw [if_pos (show (4 : Int32) ≤ nI 4 from nI_le (a := 4) (Nat.le_refl _) (by omega))])
      refine ⟨M2, ?_, w2⟩
      unfold F_X8_game
      have gc4 : F_X8_needWhat (nI a4) (1 : Int32) M = _ := needW (b := 1) ha4 (by omega)
      have e2' : loop (fun z : Int32 × Int32 × Int32 × Mem => F_X8_game_s46 0 (nI a1) (nI a2) (nI a3) z.1 z.2.1 z.2.2.1 z.2.2.2) ((0 : Int32), (-1 : Int32), (0 : Int32), M) = _ := e2
      rw [Lc_0 c.1, c.needP ha1, bdV_l, Lc_0 c.1, c.needP ha2, bdV_l, Lc_0 c.1, c.needH ha3, bdV_l, gc4, bdV_l, if_neg hne, e2', ob_t, u3_t]
      generalize itN (gmF g s a1 a2 a3) ((0 : Int32), (-1 : Int32)) 4 = r
      have : a4 = 0 ∨ a4 = 1 := by omega
      rcases this with rfl | rfl <;> rfl
    · obtain ⟨e0, m0, w0⟩ := m.zero
      obtain ⟨M2, e2, m2, w2⟩ := loop_q (step := fun z : Int32 × Int32 × Int32 × Mem => F_X9_game_s68 67 (nI a1) (nI a2) (nI a3) z.1 z.2.1 z.2.2.1 z.2.2.2) (fun i a M' => (a.1, a.2, nI i, M')) (fun a M' => (a.1, a.2, M')) (gmF g s a1 a2 a3) ((0 : Int32), (-1 : Int32)) 4 (fun _ M' => MZu M' g s ∧ QW M1 M') (M := stI M1 67 0 0) ⟨m0, w0⟩ (by
        rintro i M' hi ⟨m', w'⟩
        obtain ⟨M3, e3, m3, w3⟩ := m'.gm1 (a := itN (gmF g s a1 a2 a3) ((0 : Int32), (-1 : Int32)) i) ha1 ha2 ha3 he hi
        exact ⟨M3, e3, m3, w'.trans w3⟩) (by
        rintro M' ⟨c', w'⟩
        unfold F_X9_game_s68
        dsimp only
        rw [if_pos (show (4 : Int32) ≤ nI 4 from nI_le (a := 4) (Nat.le_refl _) (by omega))])
      refine ⟨M2, ?_, w2, m2⟩
      unfold F_X9_game F_X9_game_j50
      have gm4 : F_X9_isWhat 67 (nI a4) (1 : Int32) _ = _ := m0.isW (b := 1) ha4 (by omega)
      have e2' : loop (fun z : Int32 × Int32 × Int32 × Mem => F_X9_game_s68 67 (nI a1) (nI a2) (nI a3) z.1 z.2.1 z.2.2.1 z.2.2.2) ((0 : Int32), (-1 : Int32), (0 : Int32), stI M1 67 0 0) = _ := e2
      rw [e0, ob_t, Lc_67 m0.lay, m0.isP ha1, bd2_t, if_neg (by decide), Lc_67 m0.lay, m0.isP ha2, bd2_t, if_neg (by decide), Lc_67 m0.lay, m0.isH ha3, bd2_t, if_neg (by decide), Lc_67 m0.lay, gm4, bd2_t, if_neg (by decide), if_neg hne, Lc_67 m0.lay, m0.rgt, bd2_t, if_neg (by decide), e2', ob_t, u3_t]
      generalize itN (gmF g s a1 a2 a3) ((0 : Int32), (-1 : Int32)) 4 = r
      have : a4 = 0 ∨ a4 = 1 := by omega
      rcases this with rfl | rfl <;> rfl
-- a round
def MMp (g : Pg) (T : Nat → Prop) (a : Int32 × Int32) : Prop := (a.2 = -1 ∧ 31 ≤ a.1.toInt ∧ ∀ h, ¬ T h) ∨ ((∃ h, T h ∧ gStr g h = a.1) ∧ (∃ h, T h ∧ gStr g h = a.2) ∧ ∀ h, T h → a.1.toInt ≤ (gStr g h).toInt ∧ (gStr g h).toInt ≤ a.2.toInt)
theorem MMp.add {T : Nat → Prop} {a : Int32 × Int32} {h : Nat} (m : MMp g T a) (hb : bnd (gStr g h) 0 30) : MMp g (fun k => T k ∨ k = h) (mnI a.1 (gStr g h), mxI a.2 (gStr g h)) := by
  unfold bnd at hb
  right
  have e1 : (mnI a.1 (gStr g h)).toInt = min a.1.toInt (gStr g h).toInt := mnI_toInt
  have e2 : (mxI a.2 (gStr g h)).toInt = max a.2.toInt (gStr g h).toInt := mxI_toInt
  rcases m with ⟨m1, m2, m3⟩ | ⟨⟨k1, t1, q1⟩, ⟨k2, t2, q2⟩, m3⟩
  · refine ⟨⟨h, Or.inr rfl, ?_⟩, ⟨h, Or.inr rfl, ?_⟩, fun k hk => ?_⟩
    · rw [ti_eq, e1]; omega
    · rw [ti_eq, e2, m1, tnm1]; omega
    · rcases hk with hk | rfl
      · exact absurd hk (m3 k)
      · dsimp only; rw [e1, e2]; omega
  · refine ⟨?_, ?_, fun k hk => ?_⟩
    · by_cases c : a.1.toInt ≤ (gStr g h).toInt
      · exact ⟨k1, Or.inl t1, by rw [ti_eq, e1, q1]; omega⟩
      · exact ⟨h, Or.inr rfl, by rw [ti_eq, e1]; omega⟩
    · by_cases c : (gStr g h).toInt ≤ a.2.toInt
      · exact ⟨k2, Or.inl t2, by rw [ti_eq, e2, q2]; omega⟩
      · exact ⟨h, Or.inr rfl, by rw [ti_eq, e2]; omega⟩
    · dsimp only
      rw [e1, e2]
      rcases hk with hk | rfl
      · have := m3 k hk; omega
      · omega
theorem MMp.congr {T T' : Nat → Prop} {a : Int32 × Int32} (m : MMp g T a) (h : ∀ k, T k ↔ T' k) : MMp g T' a := by
  have : T = T' := funext fun k => propext (h k)
  rw [← this]; exact m
theorem MMp.uniq {T : Nat → Prop} {a b : Int32 × Int32} (m : MMp g T a) (m' : MMp g T b) : a.2 = b.2 ∧ (a.2 ≠ -1 → a.1 = b.1) := by
  rcases m with ⟨m1, m2, m3⟩ | ⟨⟨k1, t1, q1⟩, ⟨k2, t2, q2⟩, m3⟩
  · rcases m' with ⟨n1, n2, n3⟩ | ⟨⟨j1, s1, r1⟩, -, -⟩
    · exact ⟨m1.trans n1.symm, fun z => absurd m1 z⟩
    · exact absurd s1 (m3 j1)
  · rcases m' with ⟨n1, n2, n3⟩ | ⟨⟨j1, s1, r1⟩, ⟨j2, s2, r2⟩, n3⟩
    · exact absurd t1 (n3 k1)
    · have a1 := m3 j1 s1; have a2 := m3 j2 s2; have b1 := n3 k1 t1; have b2 := n3 k2 t2
      rw [r1] at a1; rw [r2] at a2; rw [q1] at b1; rw [q2] at b2
      exact ⟨by rw [ti_eq]; omega, fun _ => by rw [ti_eq]; omega⟩
def rdT (g : Pg) (s : Sg) (h : Nat) : Prop := h < gH g ∧ sWho s h ≠ -1 ∧ ¬ tightS s (sWho s h).toNatClampNeg h ≤ 0
def rdC (g : Pg) (s : Sg) (u : Nat) (a : Int32 × Int32) : Int32 × Int32 := if wheS g s u = -1 then a else if tightS s u (wheS g s u).toNatClampNeg ≤ 0 then a else (mnI a.1 (gStr g (wheS g s u).toNatClampNeg), mxI a.2 (gStr g (wheS g s u).toNatClampNeg))
def rdM (g : Pg) (s : Sg) (h : Nat) (a : Int32 × Int32) : Int32 × Int32 := if sWho s h = -1 then a else if tightS s (sWho s h).toNatClampNeg h ≤ 0 then a else (mnI a.1 (gStr g h), mxI a.2 (gStr g h))
theorem rdC_mm {D : Int} (hg : GdP g) (hd : GdS D g s) : ∀ n, n ≤ gN g → MMp g (fun h => rdT g s h ∧ ∃ u, u < n ∧ sWho s h = nI u) (itN (rdC g s) ((31 : Int32), (-1 : Int32)) n) := by
  have g1 := hg.1
  have g2 := hg.2.1
  intro n
  induction n with
  | zero => intro _; exact Or.inl ⟨rfl, (by decide : (31 : Int) ≤ (31 : Int32).toInt), fun h z => by obtain ⟨-, u, hu, -⟩ := z; omega⟩
  | succ n ih =>
    intro hn
    have ih := ih (by omega)
    show MMp g _ (rdC g s n (itN (rdC g s) ((31 : Int32), (-1 : Int32)) n))
    generalize itN (rdC g s) ((31 : Int32), (-1 : Int32)) n = a at *
    unfold rdC
    rcases whe_case (u := n) hg hd with ⟨z, z0⟩ | ⟨j, hj, z1, z2⟩
    · rw [if_pos z]
      refine ih.congr fun k => ⟨fun ⟨x, u, hu, e⟩ => ⟨x, u, by omega, e⟩, fun ⟨x, u, hu, e⟩ => ⟨x, u, ?_, e⟩⟩
      by_cases c : u = n
      · subst c; exact absurd e (z0 k x.1)
      · omega
    · rw [if_neg (by rw [z1]; exact nI_nm1 (by omega)), z1, nI_clamp (by omega)]
      have only : ∀ k, k < gH g → sWho s k = nI n → k = j := fun k hk e => by
        have := (whe_iff hg hd hk (by omega)).mpr e
        rw [z1, nI_eq (by omega) (by omega)] at this; exact this.symm
      by_cases c1 : tightS s n j ≤ 0
      · rw [if_pos c1]
        refine ih.congr fun k => ⟨fun ⟨x, u, hu, e⟩ => ⟨x, u, by omega, e⟩, fun ⟨x, u, hu, e⟩ => ⟨x, u, ?_, e⟩⟩
        by_cases c : u = n
        · subst c
          have := only k x.1 e
          subst this
          exact absurd c1 (by have := x.2.2; rw [e, nI_clamp (by omega)] at this; exact this)
        · omega
      · rw [if_neg c1]
        refine (ih.add (h := j) (hg.2.2.2.1 j hj).2).congr fun k => ⟨?_, ?_⟩
        · rintro (⟨x, u, hu, e⟩ | rfl)
          · exact ⟨x, u, by omega, e⟩
          · exact ⟨⟨hj, by rw [z2]; exact nI_nm1 (by omega), by rw [z2, nI_clamp (by omega)]; exact c1⟩, n, by omega, z2⟩
        · rintro ⟨x, u, hu, e⟩
          by_cases c : u = n
          · subst c; exact Or.inr (only k x.1 e)
          · exact Or.inl ⟨x, u, by omega, e⟩
theorem rdM_mm {D : Int} (hg : GdP g) (hd : GdS D g s) : ∀ n, n ≤ gH g → MMp g (fun h => rdT g s h ∧ h < n) (itN (rdM g s) ((99999 : Int32), (-1 : Int32)) n) := by
  intro n
  induction n with
  | zero => intro _; exact Or.inl ⟨rfl, (by decide : (31 : Int) ≤ (99999 : Int32).toInt), fun h z => by have := z.2; omega⟩
  | succ n ih =>
    intro hn
    have ih := ih (by omega)
    show MMp g _ (rdM g s n (itN (rdM g s) ((99999 : Int32), (-1 : Int32)) n))
    generalize itN (rdM g s) ((99999 : Int32), (-1 : Int32)) n = a at *
    unfold rdM
    by_cases c1 : sWho s n = -1
    · rw [if_pos c1]
      refine ih.congr fun k => ⟨fun x => ⟨x.1, by omega⟩, fun x => ⟨x.1, ?_⟩⟩
      by_cases c : k = n
      · subst c; exact absurd c1 x.1.2.1
      · have := x.2; omega
    · rw [if_neg c1]
      by_cases c2 : tightS s (sWho s n).toNatClampNeg n ≤ 0
      · rw [if_pos c2]
        refine ih.congr fun k => ⟨fun x => ⟨x.1, by omega⟩, fun x => ⟨x.1, ?_⟩⟩
        by_cases c : k = n
        · subst c; exact absurd c2 x.1.2.2
        · have := x.2; omega
      · rw [if_neg c2]
        refine (ih.add (h := n) (hg.2.2.2.1 n (by omega)).2).congr fun k => ⟨?_, ?_⟩
        · rintro (x | rfl)
          · exact ⟨x.1, by omega⟩
          · exact ⟨⟨by omega, c1, c2⟩, by omega⟩
        · intro x
          by_cases c : k = n
          · exact Or.inr c
          · exact Or.inl ⟨x.1, by have := x.2; omega⟩
theorem rd_eq {D : Int} (hg : GdP g) (hd : GdS D g s) : (itN (rdC g s) ((31 : Int32), (-1 : Int32)) (gN g)).2 = (itN (rdM g s) ((99999 : Int32), (-1 : Int32)) (gH g)).2 ∧ ((itN (rdC g s) ((31 : Int32), (-1 : Int32)) (gN g)).2 ≠ -1 → (itN (rdC g s) ((31 : Int32), (-1 : Int32)) (gN g)).1 = (itN (rdM g s) ((99999 : Int32), (-1 : Int32)) (gH g)).1) := by
  refine (rdC_mm hg hd _ (Nat.le_refl _)).uniq ((rdM_mm hg hd _ (Nat.le_refl _)).congr fun k => ⟨fun x => ⟨x.1, ?_⟩, fun x => ⟨x.1, x.1.1⟩⟩)
  obtain ⟨q, hq, e, -⟩ := hd.who x.1.1 x.1.2.1
  exact ⟨q, hq, e⟩
theorem rd_bnd {D : Int} (hg : GdP g) (hd : GdS D g s) (h : (itN (rdC g s) ((31 : Int32), (-1 : Int32)) (gN g)).2 ≠ -1) : bnd (itN (rdC g s) ((31 : Int32), (-1 : Int32)) (gN g)).1 0 30 ∧ bnd (itN (rdC g s) ((31 : Int32), (-1 : Int32)) (gN g)).2 0 30 := by
  rcases rdC_mm hg hd _ (Nat.le_refl _) with ⟨m1, -, -⟩ | ⟨⟨k1, t1, q1⟩, ⟨k2, t2, q2⟩, -⟩
  · exact absurd m1 h
  · exact ⟨by rw [← q1]; exact (hg.2.2.2.1 k1 t1.1.1).2, by rw [← q2]; exact (hg.2.2.2.1 k2 t2.1.1).2⟩
theorem P_round (c : CQ M p g s) (x1 : Int32) : PR 1 M g s (F_X8_round 0 x1 M) (F_X9_round 67 x1) := by
  have g1 := c.gp.1
  have g2 := c.gp.2.1
  rcases ncase x1 0 30 (by omega) (by omega) with ⟨a1, ha1l, ha1, rfl⟩ | hx
  rotate_left 1
  · refine Or.inr (Or.inr ⟨by decide, ?_, fun M1 m => ?_⟩)
    · unfold CT F_X8_round
      have gx := c.nx
      have rr : x1 < (0 : Int32) ∨ (¬ x1 < (0 : Int32) ∧ ¬ x1 ≤ (30 : Int32)) := by
        by_cases h0 : x1 < (0 : Int32)
        · exact Or.inl h0
        · exact Or.inr ⟨h0, fun z => by have hx := hx.resolve_left h0; rw [ti_lt] at hx; rw [ti_le] at z; exact absurd (Int.lt_of_lt_of_le hx z) (by show ¬ (nI 30).toInt < (nI 30).toInt; omega)⟩
      rcases rr with h0 | ⟨h0, h1⟩
      · simp only [if_pos h0, gx, ob_t]
      · simp only [if_neg h0, if_neg h1, gx, ob_t]
    · obtain ⟨e0, m0, -⟩ := m.zero
      have mx : F_X9_within x1 (0 : Int32) (30 : Int32) _ = _ := F_within' (a := 0) (b := 30) (M := stI M1 67 0 0) hx
      have my : F_X9_right 67 0 1 _ = _ := m0.rgt' (k := 1) (by omega) (by omega)
      refine MT.mk m (v := 0) ?_
      unfold F_X9_round
      simp only [e0, ob_t, Lc_67 m0.lay, bd2_t, ifn1, mx, my]
      rfl
  refine Or.inl ⟨if (itN (rdC g s) ((31 : Int32), (-1 : Int32)) (gN g)).2 = -1 then 0 else (itN (rdC g s) ((31 : Int32), (-1 : Int32)) (gN g)).2 - (itN (rdC g s) ((31 : Int32), (-1 : Int32)) (gN g)).1 + mnI (abI (nI a1 - (itN (rdC g s) ((31 : Int32), (-1 : Int32)) (gN g)).1)) (abI (nI a1 - (itN (rdC g s) ((31 : Int32), (-1 : Int32)) (gN g)).2)), ?_, fun M1 m => ?_⟩
  · unfold CR F_X8_round
    have gc1 : ¬ nI a1 < (0 : Int32) := nI_nlt (b := 0) ha1l (by omega)
    have gd1 : nI a1 ≤ (30 : Int32) := nI_le (b := 30) ha1 (by omega)
    simp only [Lc_0 c.1, bdV_l, ob_t, if_neg gc1, if_pos gd1]
    have e := loop_p (step := fun z : Int32 × Int32 × Int32 => F_X8_round_s29 0 M z.1 z.2.1 z.2.2) (fun i a => (a.1, a.2, nI i)) (rdC g s) ((31 : Int32), (-1 : Int32)) (gN g) (r := ((itN (rdC g s) ((31 : Int32), (-1 : Int32)) (gN g)).1, (itN (rdC g s) ((31 : Int32), (-1 : Int32)) (gN g)).2)) (by
      intro i hi
      generalize itN (rdC g s) ((31 : Int32), (-1 : Int32)) i = a
      unfold F_X8_round_s29 rdC
      dsimp only
      rw [c.pp, ob_t, c.nN, ob_t, if_neg (nI_ge hi (show gN g < 2 ^ 31 by omega)), Lp_0_4 c.1, ob_t, Lp_24_7 c.1, ob_t, c.whe hi, ob_t, nI_1, ob_t, Lc_24 c.1, ob_t, c.sS, ob_t]
      rcases whe_case (u := i) c.gp c.gd with ⟨z, z0⟩ | ⟨j, hj, z1, z2⟩
      · rw [if_pos z, if_pos z]
      · have n1 : ¬ wheS g s i = -1 := by rw [z1]; exact nI_nm1 (by omega)
        rw [if_neg n1, if_neg n1, z1, nI_clamp (by omega), c.tig hi hj, ob_t, c.str hj, ob_t]
        split <;> rfl) (by
      unfold F_X8_round_s29
      dsimp only
      rw [c.pp, ob_t, c.nN, ob_t, if_pos (nI_le (Nat.le_refl (gN g)) (show gN g < 2 ^ 31 by omega))])
    have e' : loop (fun z : Int32 × Int32 × Int32 => F_X8_round_s29 0 M z.1 z.2.1 z.2.2) ((31 : Int32), (-1 : Int32), (0 : Int32)) = some ((itN (rdC g s) ((31 : Int32), (-1 : Int32)) (gN g)).1, (itN (rdC g s) ((31 : Int32), (-1 : Int32)) (gN g)).2) := e
    refine ⟨M, ?_, QC.rfl'⟩
    rw [e', ob_t, u2_t]
    split <;> rfl
  · obtain ⟨e0, m0, w0⟩ := m.zero
    have gm1 : F_X9_within (nI a1) (0 : Int32) (30 : Int32) _ = _ := F_within (x := 0) (a := 0) (b := 30) (M := stI M1 67 0 0) (by omega) (by omega) ha1l ha1
    have gn1 := m0.rgt (v := 1)
    unfold MR F_X9_round
    simp only [e0, ob_t, Lc_67 m0.lay, bd2_t, ifn1, gm1, gn1]
    generalize stI M1 67 0 0 = M0 at *
    have e := loop_p (step := fun z : Int32 × Int32 × Int32 => F_X9_round_s31 67 M0 z.1 z.2.1 z.2.2) (fun i a => (a.1, a.2, nI i)) (rdM g s) ((99999 : Int32), (-1 : Int32)) (gH g) (r := ((itN (rdM g s) ((99999 : Int32), (-1 : Int32)) (gH g)).1, (itN (rdM g s) ((99999 : Int32), (-1 : Int32)) (gH g)).2)) (by
      intro i hi
      generalize itN (rdM g s) ((99999 : Int32), (-1 : Int32)) i = a
      unfold F_X9_round_s31 rdM
      dsimp only
      rw [m0.b.nH, ob_t, if_neg (nI_ge hi (show gH g < 2 ^ 31 by omega)), Lp_67_41 m0.lay, ob_t, m0.who hi, ob_t, nI_1, Lc_67 m0.lay, Lp_67_7 m0.lay, ob_t, m0.b.str hi, ob_t, F_lesser, ob_t, ob_t, ob_t, m0.b.str hi, ob_t, ob_t]
      by_cases z : sWho s i = -1
      · rw [if_pos z, if_pos z]
      · obtain ⟨q, hq, e2, -⟩ := m0.b.gd.who hi z
        rw [if_neg z, if_neg z, e2, nI_clamp (by omega), m0.b.tig hq hi, ob_t]
        have tb := tightS_bnd m0.b.gd hq hi
        unfold bnd at tb
        by_cases t0 : tightS s q i = 0
        · rw [if_pos t0, if_pos (by rw [t0]; decide)]
        · have t9 : ¬ tightS s q i ≤ 0 := fun y => t0 (by rw [ti_eq, ti_0]; rw [ti_le, ti_0] at y; omega)
          rw [if_neg t0, if_neg t9]
          unfold mxI
          by_cases t1 : gStr g i ≤ a.2
          · rw [if_pos t1, if_neg (fun y => le_nlt.mpr y t1)]
          · rw [if_neg t1, if_pos (le_nlt.mp t1)]) (by
      unfold F_X9_round_s31
      dsimp only
      rw [m0.b.nH, ob_t, if_pos (nI_le (Nat.le_refl (gH g)) (show gH g < 2 ^ 31 by omega))])
    have e' : loop (fun z : Int32 × Int32 × Int32 => F_X9_round_s31 67 M0 z.1 z.2.1 z.2.2) ((99999 : Int32), (-1 : Int32), (0 : Int32)) = _ := e
    refine ⟨M0, ?_, w0, m0⟩
    have q1 := rd_eq m0.b.gp m0.b.gd
    have q2 := rd_bnd m0.b.gp m0.b.gd
    rw [e', ob_t, u2_t, ← q1.1]
    by_cases z : (itN (rdC g s) ((31 : Int32), (-1 : Int32)) (gN g)).2 = -1
    · rw [if_pos z, if_pos z]
    · have b1 := q2 z
      rw [if_neg z, if_neg z, ← q1.2 z]
      have ba : (nI a1).toInt = a1 := nI_toInt (by omega)
      unfold bnd at b1
      rw [abI_off (by omega) (by omega), ob_t, abI_off (by omega) (by omega), ob_t, F_lesser, ob_t]
end
