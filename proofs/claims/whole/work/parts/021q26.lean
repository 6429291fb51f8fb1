/-! ===== what is counted ===== -/
section
variable {M M' M1 M2 : Mem} {p m : Nat} {g : Pg} {s s' : Sg} {L L' : List Sg} {E E' : List Se} {I I' : Option (Sg × List Sg × List Se)} {R R' : Nat → Int32} {T T' : List Nat} {f f' : Int32}
noncomputable def tgS (g : Pg) (s : Sg) : Nat → Int32 × Int32 := bsP upX (fun _ => true) (tnS g s) 0
theorem CQ.tightest (c : CQ M p g s) : F_X8_tightest 0 M = some (tgS g s (gN g)).1 := by
  have g2 := c.gp.2.1
  unfold F_X8_tightest
  have e := loop_p (step := fun z : Int32 × Int32 × Int32 => F_X8_tightest_s6 0 M z.1 z.2.1 z.2.2) (fun i a => (a.1, a.2, nI i)) (fun i a => if true && upX a.2 (tnS g s i) then (nI i, tnS g s i) else a) ((-1 : Int32), (0 : Int32)) (gN g) (r := (tgS g s (gN g)).1) (by
    intro i hi
    unfold F_X8_tightest_s6
    dsimp only
    rw [c.pp, ob_t, c.nN, ob_t, if_neg (nI_ge hi (show gN g < 2 ^ 31 by omega)), Lc_0 c.1, c.tn hi, ob_t, nI_1]
    generalize itN (fun i a => if true && upX a.2 (tnS g s i) then (nI i, tnS g s i) else a) ((-1 : Int32), (0 : Int32)) i = a
    by_cases c2 : tnS g s i ≤ a.2
    · rw [if_pos c2]; simp [upX, c2]
    · rw [if_neg c2]; simp [upX, c2]) (by
    unfold F_X8_tightest_s6
    dsimp only
    rw [c.pp, ob_t, c.nN, ob_t, if_pos (nI_le (Nat.le_refl (gN g)) (show gN g < 2 ^ 31 by omega))]
    rfl)
  exact (congrArg (fun o => Option.bind o _) e).trans rfl
theorem MZu.tightest (m : MZu M g s) : F_X9_tightest 67 M = some (tgS g s (gN g)).1 := by
  have g2 := m.b.gp.2.1
  unfold F_X9_tightest
  have e := loop_p (step := fun z : Int32 × Int32 => F_X9_tightest_s4 67 M z.1 z.2) (fun i a => (a.1, nI i)) (fun i a => if true && upX a.2 (tnS g s i) then (nI i, tnS g s i) else a) ((-1 : Int32), (0 : Int32)) (gN g) (r := (tgS g s (gN g)).1) (by
    intro i hi
    have bc : ((itN (fun i a => if true && upX a.2 (tnS g s i) then (nI i, tnS g s i) else a) ((-1 : Int32), (0 : Int32)) i).1 = -1 ∧ (itN (fun i a => if true && upX a.2 (tnS g s i) then (nI i, tnS g s i) else a) ((-1 : Int32), (0 : Int32)) i).2 = 0) ∨ ∃ k, k < i ∧ (fun _ : Nat => true) k = true ∧ (itN (fun i a => if true && upX a.2 (tnS g s i) then (nI i, tnS g s i) else a) ((-1 : Int32), (0 : Int32)) i).1 = nI k ∧ (itN (fun i a => if true && upX a.2 (tnS g s i) then (nI i, tnS g s i) else a) ((-1 : Int32), (0 : Int32)) i).2 = tnS g s k := bsP_case (up := upX) (ok := fun _ => true) (key := tnS g s) (v0 := 0) i
    generalize itN (fun i a => if true && upX a.2 (tnS g s i) then (nI i, tnS g s i) else a) ((-1 : Int32), (0 : Int32)) i = a at *
    unfold F_X9_tightest_s4
    dsimp only
    rw [m.b.nN, ob_t, if_neg (nI_ge hi (show gN g < 2 ^ 31 by omega)), Lc_67 m.lay, m.tn hi rfl, ob_t, nI_1]
    rcases bc with ⟨h1, h2⟩ | ⟨k, h1, -, h3, h4⟩
    · rw [if_pos h1, h2]
      by_cases c2 : tnS g s i ≤ 0
      · rw [if_pos c2]; simp [upX, c2, h1]
      · rw [if_neg c2]; simp [upX, c2]
    · rw [if_neg (by rw [h3]; exact nI_nm1 (by omega)), Lc_67 m.lay, m.tn (u := k) (by omega) h3, ob_t, h4]
      by_cases c2 : tnS g s i ≤ tnS g s k
      · rw [if_pos c2]; simp [upX, c2]
      · rw [if_neg c2]; simp [upX, c2]) (by
    unfold F_X9_tightest_s4
    dsimp only
    rw [m.b.nN, ob_t, if_pos (nI_le (Nat.le_refl (gN g)) (show gN g < 2 ^ 31 by omega))]
    rfl)
  exact (congrArg (fun o => Option.bind o _) e).trans rfl
theorem A_count (hc : CI M p g s L E I R T f) (hm : MI M g s L E I R T f) (hr : Rm M m) (hm5 : m < 512) (x : Int32) : LF m (F_L_count 0 x 97 M) (F_X9_count 67 x) := by
  have c := hc.cq hr (by omega)
  have g1 := c.gp.1
  have g2 := c.gp.2.1
  unfold F_L_count
  rcases ncase x 0 15 (by omega) (by omega) with ⟨a1, -, ha1, rfl⟩ | hx
  rotate_left 1
  · refine LF.thr (k := 1) (x := 1) hc hm hr ?_ (fun M1 m => ?_) (by omega) (fun N => rfl)
    · unfold CT F_X8_count
      have ne : ∀ k, k ≤ 15 → ¬ x = nI k := fun k hk e => by
        subst e
        rcases hx with hx | hx
        · rw [nI_ltI (by omega) (by omega)] at hx; omega
        · rw [nI_ltI (by omega) (by omega)] at hx; omega
      have n0 : ¬ x = (0 : Int32) := ne 0 (by omega)
      have n1 : ¬ x = (1 : Int32) := ne 1 (by omega)
      have n2 : ¬ x = (2 : Int32) := ne 2 (by omega)
      have n3 : ¬ x = (3 : Int32) := ne 3 (by omega)
      have n4 : ¬ x = (4 : Int32) := ne 4 (by omega)
      have n5 : ¬ x = (5 : Int32) := ne 5 (by omega)
      have n6 : ¬ x = (6 : Int32) := ne 6 (by omega)
      have n7 : ¬ x = (7 : Int32) := ne 7 (by omega)
      have n8 : ¬ x = (8 : Int32) := ne 8 (by omega)
      have n9 : ¬ x = (9 : Int32) := ne 9 (by omega)
      have n10 : ¬ x = (10 : Int32) := ne 10 (by omega)
      have n11 : ¬ x = (11 : Int32) := ne 11 (by omega)
      have n12 : ¬ x = (12 : Int32) := ne 12 (by omega)
      have n13 : ¬ x = (13 : Int32) := ne 13 (by omega)
      have n14 : ¬ x = (14 : Int32) := ne 14 (by omega)
      have n15 : ¬ x = (15 : Int32) := ne 15 (by omega)
      rw [if_neg n0, if_neg n1, if_neg n2, if_neg n3, if_neg n4, if_neg n5, if_neg n6, if_neg n7, if_neg n8, if_neg n9, if_neg n10, if_neg n11, if_neg n12, if_neg n13, if_neg n14, if_neg n15, c.nx, ob_t]
    · obtain ⟨e0, m0, -⟩ := m.zero
      have mx : F_X9_within x (0 : Int32) (15 : Int32) _ = _ := F_within' (a := 0) (b := 15) (M := stI M1 67 0 0) hx
      have my : F_X9_right 67 0 1 _ = _ := m0.rgt' (k := 1) (by omega) (by omega)
      refine MT.mk m (v := 0) ?_
      unfold F_X9_count
      simp only [e0, ob_t, Lc_67 m0.lay, bd2_t, ifn1, mx, my]
      rfl
  have pre : ∀ N, ZI (stI N 67 0 0) g s L E I R T f → pI N 9 67 0 0 = some (stI N 67 0 0) → F_X9_within (nI a1) (0 : Int32) (15 : Int32) (stI N 67 0 0) = some 1 ∧ F_X9_right 67 1 1 (stI N 67 0 0) = some (1, stI N 67 0 0) := fun N z _ => ⟨F_within (x := 0) (a := 0) (b := 15) (M := stI N 67 0 0) (by omega) (by omega) (by omega) ha1, z.z.rgt (v := 1)⟩
  have act : ∀ (v : Int32) (M1 : Mem), F_X8_count 0 (nI a1) M = some (.inl (v, M1)) → QC M M1 → (∀ N, ZI (stI N 67 0 0) g s L E I R T f → pI N 9 67 0 0 = some (stI N 67 0 0) → ∃ N', F_X9_count 67 (nI a1) N = some (v, N') ∧ Wr [85, 86, 87] (stI N 67 0 0) N') → LF m (ckO M 8 0 (bdT (F_X8_count 0 (nI a1) M) (fun v4 M3 => (sL M3 97 (0 : Int32) (v4.toInt64)).bind fun M5 => some ((0 : Int32), M5)) fun x7 M8 => if x7 = 1 then some ((1 : Int32), M8) else none)) (F_X9_count 67 (nI a1)) := fun v M1 e1 w1 e2 => by
    have m1 : MI (stL M1 97 0 (v.toInt64)) g s L E I R T f := MI.out (hm.c2 w1)
    obtain ⟨e0, zN, wN⟩ := m1.zero
    obtain ⟨N', e3, w3⟩ := e2 _ zN e0
    have q3 := w3.q (by decide)
    have e67 : mI N' 67 = mI (stI (stL M1 97 0 (v.toInt64)) 67 0 0) 67 := wr_mI w3 (by decide)
    exact LF.act c.1 hr e1 (hc.c2 w1) (by rw [w1.1]; omega) (by rw [w1.2.2.1]; omega) e3 ⟨zN.1.q q3 (by rw [e67]; exact zN.1.1.2), by rw [e67]; exact zN.2⟩ (wN.trans (w3.fm (by decide)))
  have ac := hc.2.2.2.2.2.2.2.2.1
  obtain ⟨fa, -, -, ac2, -⟩ := ac
  have se := hc.2.2.2.2.2.2.2.2.2.2.1
  have ta := hc.2.2.2.2.2.2.2.2.2.2.2.2.2.1
  have rf := hc.2.2.2.2.2.2.2.2.2.2.2.2.1
  have cs : a1 = 0 ∨ a1 = 1 ∨ a1 = 2 ∨ a1 = 3 ∨ a1 = 4 ∨ a1 = 5 ∨ a1 = 6 ∨ a1 = 7 ∨ a1 = 8 ∨ a1 = 9 ∨ a1 = 10 ∨ a1 = 11 ∨ a1 = 12 ∨ a1 = 13 ∨ a1 = 14 ∨ a1 = 15 := by omega
  rcases cs with rfl | rfl | rfl | rfl | rfl | rfl | rfl | rfl | rfl | rfl | rfl | rfl | rfl | rfl | rfl | rfl
  · refine act (nI (gH g)) M ?_ QC.rfl' (fun N z e0 => ⟨stI N 67 0 0, ?_, Wr.rfl'⟩)
    · unfold F_X8_count
      rw [if_pos (show nI 0 = (0 : Int32) from rfl), c.pp, ob_t, c.nH, ob_t]
    · unfold F_X9_count
      rw [e0, ob_t, (pre N z e0).1, ob_t, Lc_67 z.lay, (pre N z e0).2, bd2_t, if_neg (by decide), if_pos (show nI 0 = (0 : Int32) from rfl), z.z.b.nH, ob_t]
  · refine act (nI (gN g)) M ?_ QC.rfl' (fun N z e0 => ⟨stI N 67 0 0, ?_, Wr.rfl'⟩)
    · unfold F_X8_count
      rw [if_neg (by decide), if_pos (show nI 1 = (1 : Int32) from rfl), c.pp, ob_t, c.nN, ob_t]
    · unfold F_X9_count
      rw [e0, ob_t, (pre N z e0).1, ob_t, Lc_67 z.lay, (pre N z e0).2, bd2_t, if_neg (by decide), if_neg (by decide), if_pos (show nI 1 = (1 : Int32) from rfl), z.z.b.nN, ob_t]
  · refine act (sDay s) M ?_ QC.rfl' (fun N z e0 => ⟨stI N 67 0 0, ?_, Wr.rfl'⟩)
    · unfold F_X8_count
      rw [if_neg (by decide), if_neg (by decide), if_pos (show nI 2 = (2 : Int32) from rfl), Lp_0_4 c.1, ob_t, gI_t c.st.1.1, ob_t, c.st.2.1]
    · unfold F_X9_count
      rw [e0, ob_t, (pre N z e0).1, ob_t, Lc_67 z.lay, (pre N z e0).2, bd2_t, if_neg (by decide), if_neg (by decide), if_neg (by decide), if_pos (show nI 2 = (2 : Int32) from rfl), Lp_67_41 z.lay, ob_t, z.z.day, ob_t]
  · refine act (dampS g s) M ?_ QC.rfl' (fun N z e0 => ⟨stI N 67 0 0, ?_, Wr.rfl'⟩)
    · unfold F_X8_count
      rw [if_neg (by decide), if_neg (by decide), if_neg (by decide), if_pos (show nI 3 = (3 : Int32) from rfl), c.pp, ob_t, Lp_0_4 c.1, ob_t, c.ck, c.damp, ob_t]
    · unfold F_X9_count
      rw [e0, ob_t, (pre N z e0).1, ob_t, Lc_67 z.lay, (pre N z e0).2, bd2_t, if_neg (by decide), if_neg (by decide), if_neg (by decide), if_neg (by decide), if_pos (show nI 3 = (3 : Int32) from rfl), Lc_67 z.lay, show F_X9_dampIn 67 0 (stI N 67 0 0) = some (dampS g s) from by rw [z.z.b.damp]; unfold dmp; rw [if_pos z.1.1.2], ob_t]
  · refine act (sBur s) M ?_ QC.rfl' (fun N z e0 => ⟨stI N 67 0 0, ?_, Wr.rfl'⟩)
    · unfold F_X8_count
      rw [if_neg (by decide), if_neg (by decide), if_neg (by decide), if_neg (by decide), if_pos (show nI 4 = (4 : Int32) from rfl), Lp_0_4 c.1, ob_t, c.bur, ob_t]
    · unfold F_X9_count
      rw [e0, ob_t, (pre N z e0).1, ob_t, Lc_67 z.lay, (pre N z e0).2, bd2_t, if_neg (by decide), if_neg (by decide), if_neg (by decide), if_neg (by decide), if_neg (by decide), if_pos (show nI 4 = (4 : Int32) from rfl), Lp_67_41 z.lay, ob_t, z.z.bur, ob_t]
  · refine act (usS g s) M ?_ QC.rfl' (fun N z e0 => ⟨stI N 67 0 0, ?_, Wr.rfl'⟩)
    · unfold F_X8_count
      rw [if_neg (by decide), if_neg (by decide), if_neg (by decide), if_neg (by decide), if_neg (by decide), if_pos (show nI 5 = (5 : Int32) from rfl), Lc_0 c.1, c.uses, ob_t]
    · unfold F_X9_count
      rw [e0, ob_t, (pre N z e0).1, ob_t, Lc_67 z.lay, (pre N z e0).2, bd2_t, if_neg (by decide), if_neg (by decide), if_neg (by decide), if_neg (by decide), if_neg (by decide), if_neg (by decide), if_pos (show nI 5 = (5 : Int32) from rfl), Lc_67 z.lay, z.z.uses, ob_t]
  · refine act (lodS g s) M ?_ QC.rfl' (fun N z e0 => ⟨stI N 67 0 0, ?_, Wr.rfl'⟩)
    · unfold F_X8_count
      rw [if_neg (by decide), if_neg (by decide), if_neg (by decide), if_neg (by decide), if_neg (by decide), if_neg (by decide), if_pos (show nI 6 = (6 : Int32) from rfl), Lp_0_4 c.1, ob_t, Lc_0 c.1, c.lod c.st, ob_t]
    · unfold F_X9_count
      rw [e0, ob_t, (pre N z e0).1, ob_t, Lc_67 z.lay, (pre N z e0).2, bd2_t, if_neg (by decide), if_neg (by decide), if_neg (by decide), if_neg (by decide), if_neg (by decide), if_neg (by decide), if_neg (by decide), if_pos (show nI 6 = (6 : Int32) from rfl), Lc_67 z.lay, z.z.b.lod, ob_t]
  · refine act (sorS g s) M ?_ QC.rfl' (fun N z e0 => ⟨stI N 67 0 0, ?_, Wr.rfl'⟩)
    · unfold F_X8_count
      rw [if_neg (by decide), if_neg (by decide), if_neg (by decide), if_neg (by decide), if_neg (by decide), if_neg (by decide), if_neg (by decide), if_pos (show nI 7 = (7 : Int32) from rfl), Lp_0_4 c.1, ob_t, Lc_0 c.1, c.sors c.st, ob_t]
    · unfold F_X9_count
      rw [e0, ob_t, (pre N z e0).1, ob_t, Lc_67 z.lay, (pre N z e0).2, bd2_t, if_neg (by decide), if_neg (by decide), if_neg (by decide), if_neg (by decide), if_neg (by decide), if_neg (by decide), if_neg (by decide), if_neg (by decide), if_pos (show nI 7 = (7 : Int32) from rfl), Lc_67 z.lay, z.z.b.sors, ob_t]
  · refine act ((tgS g s (gN g)).1) M ?_ QC.rfl' (fun N z e0 => ⟨stI N 67 0 0, ?_, Wr.rfl'⟩)
    · unfold F_X8_count
      rw [if_neg (by decide), if_neg (by decide), if_neg (by decide), if_neg (by decide), if_neg (by decide), if_neg (by decide), if_neg (by decide), if_neg (by decide), if_pos (show nI 8 = (8 : Int32) from rfl), Lc_0 c.1, c.tightest, ob_t]
    · unfold F_X9_count
      rw [e0, ob_t, (pre N z e0).1, ob_t, Lc_67 z.lay, (pre N z e0).2, bd2_t, if_neg (by decide), if_neg (by decide), if_neg (by decide), if_neg (by decide), if_neg (by decide), if_neg (by decide), if_neg (by decide), if_neg (by decide), if_neg (by decide), if_pos (show nI 8 = (8 : Int32) from rfl), Lc_67 z.lay, z.z.tightest, ob_t]
  · obtain ⟨M1, e1, w1⟩ := c.neededX
    refine act (neS g s) M1 ?_ w1 (fun N z e0 => ?_)
    · unfold F_X8_count
      rw [if_neg (by decide), if_neg (by decide), if_neg (by decide), if_neg (by decide), if_neg (by decide), if_neg (by decide), if_neg (by decide), if_neg (by decide), if_neg (by decide), if_pos (show nI 9 = (9 : Int32) from rfl), Lc_0 c.1, e1, bd2_t]
    · obtain ⟨N', e2, w2⟩ := z.z.neededX
      refine ⟨N', ?_, w2⟩
      unfold F_X9_count
      rw [e0, ob_t, (pre N z e0).1, ob_t, Lc_67 z.lay, (pre N z e0).2, bd2_t, if_neg (by decide), if_neg (by decide), if_neg (by decide), if_neg (by decide), if_neg (by decide), if_neg (by decide), if_neg (by decide), if_neg (by decide), if_neg (by decide), if_neg (by decide), if_pos (show nI 9 = (9 : Int32) from rfl), Lc_67 z.lay, e2, bd2_t]
  · refine act (nI L.length) M ?_ QC.rfl' (fun N z e0 => ⟨stI N 67 0 0, ?_, Wr.rfl'⟩)
    · unfold F_X8_count
      rw [if_neg (by decide), if_neg (by decide), if_neg (by decide), if_neg (by decide), if_neg (by decide), if_neg (by decide), if_neg (by decide), if_neg (by decide), if_neg (by decide), if_neg (by decide), if_pos (show nI 10 = (10 : Int32) from rfl), Lp_0_6 c.1, ob_t, Lc_38 c.1, show F_X0_many 38 M = some (mI M 38 2) from by unfold F_X0_many; rw [Lf_38 c.1, ob_t], ob_t, ac2]
    · unfold F_X9_count
      rw [e0, ob_t, (pre N z e0).1, ob_t, Lc_67 z.lay, (pre N z e0).2, bd2_t, if_neg (by decide), if_neg (by decide), if_neg (by decide), if_neg (by decide), if_neg (by decide), if_neg (by decide), if_neg (by decide), if_neg (by decide), if_neg (by decide), if_neg (by decide), if_neg (by decide), if_pos (show nI 10 = (10 : Int32) from rfl), Lf_67 z.lay, ob_t, z.1.2.1.1]
  · refine act (nI E.length) M ?_ QC.rfl' (fun N z e0 => ⟨stI N 67 0 0, ?_, Wr.rfl'⟩)
    · unfold F_X8_count
      rw [if_neg (by decide), if_neg (by decide), if_neg (by decide), if_neg (by decide), if_neg (by decide), if_neg (by decide), if_neg (by decide), if_neg (by decide), if_neg (by decide), if_neg (by decide), if_neg (by decide), if_pos (show nI 11 = (11 : Int32) from rfl), Lp_0_7 c.1, ob_t, Lc_40 c.1, show F_X5_many 40 M = some (mI M 40 3) from by unfold F_X5_many; rw [Lf_40 c.1, ob_t], ob_t, se.1]
    · unfold F_X9_count
      rw [e0, ob_t, (pre N z e0).1, ob_t, Lc_67 z.lay, (pre N z e0).2, bd2_t, if_neg (by decide), if_neg (by decide), if_neg (by decide), if_neg (by decide), if_neg (by decide), if_neg (by decide), if_neg (by decide), if_neg (by decide), if_neg (by decide), if_neg (by decide), if_neg (by decide), if_neg (by decide), if_pos (show nI 11 = (11 : Int32) from rfl), Lf_67 z.lay, ob_t, z.1.2.2.1.1]
  · refine act (nI T.length) M ?_ QC.rfl' (fun N z e0 => ⟨stI N 67 0 0, ?_, Wr.rfl'⟩)
    · unfold F_X8_count
      rw [if_neg (by decide), if_neg (by decide), if_neg (by decide), if_neg (by decide), if_neg (by decide), if_neg (by decide), if_neg (by decide), if_neg (by decide), if_neg (by decide), if_neg (by decide), if_neg (by decide), if_neg (by decide), if_pos (show nI 12 = (12 : Int32) from rfl), Lp_0_0 c.1, ob_t, Lc_1 c.1, show F_X3_taped 1 M = some (mI M 1 1) from by unfold F_X3_taped; rw [Lf_1 c.1, ob_t], ob_t, ta.1]
    · unfold F_X9_count
      rw [e0, ob_t, (pre N z e0).1, ob_t, Lc_67 z.lay, (pre N z e0).2, bd2_t, if_neg (by decide), if_neg (by decide), if_neg (by decide), if_neg (by decide), if_neg (by decide), if_neg (by decide), if_neg (by decide), if_neg (by decide), if_neg (by decide), if_neg (by decide), if_neg (by decide), if_neg (by decide), if_neg (by decide), if_pos (show nI 12 = (12 : Int32) from rfl), Lf_67 z.lay, ob_t, z.1.2.2.2.2.2.1.1]
  · refine act (R 0) M ?_ QC.rfl' (fun N z e0 => ⟨stI N 67 0 0, ?_, Wr.rfl'⟩)
    · unfold F_X8_count
      rw [if_neg (by decide), if_neg (by decide), if_neg (by decide), if_neg (by decide), if_neg (by decide), if_neg (by decide), if_neg (by decide), if_neg (by decide), if_neg (by decide), if_neg (by decide), if_neg (by decide), if_neg (by decide), if_neg (by decide), if_pos (show nI 13 = (13 : Int32) from rfl), Lp_0_12 c.1, ob_t, show aI M 100 57 0 = some (mI M 57 0) from La_57 c.1 (i := 0) (by omega), ob_t, rf 0 (by omega)]
    · unfold F_X9_count
      rw [e0, ob_t, (pre N z e0).1, ob_t, Lc_67 z.lay, (pre N z e0).2, bd2_t, if_neg (by decide), if_neg (by decide), if_neg (by decide), if_neg (by decide), if_neg (by decide), if_neg (by decide), if_neg (by decide), if_neg (by decide), if_neg (by decide), if_neg (by decide), if_neg (by decide), if_neg (by decide), if_neg (by decide), if_neg (by decide), Lp_67_15 z.lay, ob_t, show aI (stI N 67 0 0) 100 74 (nI 13 - 13) = some (mI (stI N 67 0 0) 74 0) from La_74 z.lay (i := 0) (by omega), ob_t, z.1.2.2.2.2.1 0 (by omega)]
  · refine act (R 1) M ?_ QC.rfl' (fun N z e0 => ⟨stI N 67 0 0, ?_, Wr.rfl'⟩)
    · unfold F_X8_count
      rw [if_neg (by decide), if_neg (by decide), if_neg (by decide), if_neg (by decide), if_neg (by decide), if_neg (by decide), if_neg (by decide), if_neg (by decide), if_neg (by decide), if_neg (by decide), if_neg (by decide), if_neg (by decide), if_neg (by decide), if_neg (by decide), if_pos (show nI 14 = (14 : Int32) from rfl), Lp_0_12 c.1, ob_t, show aI M 100 57 1 = some (mI M 57 1) from La_57 c.1 (i := 1) (by omega), ob_t, rf 1 (by omega)]
    · unfold F_X9_count
      rw [e0, ob_t, (pre N z e0).1, ob_t, Lc_67 z.lay, (pre N z e0).2, bd2_t, if_neg (by decide), if_neg (by decide), if_neg (by decide), if_neg (by decide), if_neg (by decide), if_neg (by decide), if_neg (by decide), if_neg (by decide), if_neg (by decide), if_neg (by decide), if_neg (by decide), if_neg (by decide), if_neg (by decide), if_neg (by decide), Lp_67_15 z.lay, ob_t, show aI (stI N 67 0 0) 100 74 (nI 14 - 13) = some (mI (stI N 67 0 0) 74 1) from La_74 z.lay (i := 1) (by omega), ob_t, z.1.2.2.2.2.1 1 (by omega)]
  · refine act (R 2) M ?_ QC.rfl' (fun N z e0 => ⟨stI N 67 0 0, ?_, Wr.rfl'⟩)
    · unfold F_X8_count
      rw [if_neg (by decide), if_neg (by decide), if_neg (by decide), if_neg (by decide), if_neg (by decide), if_neg (by decide), if_neg (by decide), if_neg (by decide), if_neg (by decide), if_neg (by decide), if_neg (by decide), if_neg (by decide), if_neg (by decide), if_neg (by decide), if_neg (by decide), if_pos (show nI 15 = (15 : Int32) from rfl), Lp_0_12 c.1, ob_t, show aI M 100 57 2 = some (mI M 57 2) from La_57 c.1 (i := 2) (by omega), ob_t, rf 2 (by omega)]
    · unfold F_X9_count
      rw [e0, ob_t, (pre N z e0).1, ob_t, Lc_67 z.lay, (pre N z e0).2, bd2_t, if_neg (by decide), if_neg (by decide), if_neg (by decide), if_neg (by decide), if_neg (by decide), if_neg (by decide), if_neg (by decide), if_neg (by decide), if_neg (by decide), if_neg (by decide), if_neg (by decide), if_neg (by decide), if_neg (by decide), if_neg (by decide), Lp_67_15 z.lay, ob_t, show aI (stI N 67 0 0) 100 74 (nI 15 - 13) = some (mI (stI N 67 0 0) 74 2) from La_74 z.lay (i := 2) (by omega), ob_t, z.1.2.2.2.2.1 2 (by omega)]
end
