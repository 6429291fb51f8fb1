section
variable {M : Mem} {p : Nat} {g : Pg} {s : Sg}

-- by damp
noncomputable def wkS (g : Pg) (s : Sg) (w : Nat) : Nat → Sg := itN (fun k t => dayS g (if ((nI w >>> (nI k &&& 31)) &&& 1) = 1 then 9 else 0) t) s
noncomputable def wkA (g : Pg) (s : Sg) (h w : Nat) : Nat → Sg := itN (fun k t => aloneS g t h (if ((nI w >>> (nI k &&& 31)) &&& 1) = 1 then 9 else 0)) s
noncomputable def wgS (t : Int32) (w : Nat) : Nat → Int32 := itN (fun k v => if ((nI w >>> (nI k &&& 31)) &&& 1) = 1 then v * t else v * (10 - t)) 1
theorem wk_gd {D : Int} {w : Nat} (hg : GdP g) (hd : GdS D g s) (hD : D < 50000) : ∀ n : Nat, n < 50000 → GdS (D + n) g (wkS g s w n) := by
  intro n
  induction n with
  | zero => intro _; exact hd.mono (by omega)
  | succ n ih => intro hn; exact ((ih (by omega)).day hg (by omega)).mono (by omega)
theorem wk_loc {D : Int} {w h : Nat} (hg : GdP g) (hd : GdS D g s) (hh : h < gH g) (hD : D < 50000) : ∀ n : Nat, n < 50000 → LcS g h (wkS g s w n) (wkA g s h w n) := by
  intro n
  induction n with
  | zero => intro _; exact LcS.refl
  | succ n ih => intro hn; exact (ih (by omega)).day hg (wk_gd hg hd hD n (by omega)) hh
theorem CQ.byD1 {h n w : Nat} (c : CQ M p g s) (hh : h < gH g) (hn : n ≤ 5) : ∃ M', F_X8_burstsByDamps 0 (nI h) (nI n) (nI w) M = some (if bitI (sBur (wkS g s w n)) h then 1 else 0, M') ∧ QC M M' := by
  have h8 := c.gp.h8 hh
  obtain ⟨M1, e1, c1, w1⟩ := c.copyL
  obtain ⟨M2, e2, c2, w2⟩ := loop_mm (step := fun z : Int32 × Mem => F_X8_burstsByDamps_s14 0 (nI h) (nI n) (nI w) z.1 z.2) (fun i M' => (nI i, M')) (fun M' => M') n (fun i M' => CLa M' p g s (wkA g s h w i) (999 + i) ∧ QC M M') (M := M1) ⟨⟨c1.1, c1.2.1, c1.2.2.mono (by omega)⟩, w1⟩ (by
    rintro i M' hi ⟨c', w'⟩
    unfold F_X8_burstsByDamps_s14
    dsimp only
    rw [if_neg (nI_ge hi (by omega)), c'.1.pp, ob_t, Lp_0_5 c'.1.1, ob_t, nI_1]
    have step : ∀ d, ∃ M3, F_X2_passAlone p 31 (nI h) d M' = some M3 ∧ CLa M3 p g s (aloneS g (wkA g s h w i) h d) (999 + ((i + 1 : Nat) : Int)) ∧ QC M' M3 := fun d => by
      obtain ⟨M3, e3, c3, w3⟩ := c'.alone (d := d) hh (c'.2.2.alone c'.1.gp hh (by omega))
      exact ⟨M3, e3, ⟨c3.1, c3.2.1, c3.2.2.mono (by omega)⟩, w3⟩
    by_cases b : ((nI w >>> (nI i &&& 31)) &&& 1) = 1
    · obtain ⟨M3, e3, c3, w3⟩ := step 9
      rw [if_pos b, c'.1.ck, e3, ob_t]
      refine ⟨M3, rfl, ?_, w'.trans w3⟩
      have : wkA g s h w (i + 1) = aloneS g (wkA g s h w i) h 9 := by
        show aloneS g (wkA g s h w i) h (if ((nI w >>> (nI i &&& 31)) &&& 1) = 1 then 9 else 0) = _
        rw [if_pos b]
      rw [this]; exact c3
    · obtain ⟨M3, e3, c3, w3⟩ := step 0
      rw [if_neg b, c'.1.ck, e3, ob_t]
      refine ⟨M3, rfl, ?_, w'.trans w3⟩
      have : wkA g s h w (i + 1) = aloneS g (wkA g s h w i) h 0 := by
        show aloneS g (wkA g s h w i) h (if ((nI w >>> (nI i &&& 31)) &&& 1) = 1 then 9 else 0) = _
        rw [if_neg b]
      rw [this]; exact c3) (by
    rintro M' ⟨c', w'⟩
    unfold F_X8_burstsByDamps_s14
    dsimp only
    rw [if_pos (nI_le (Nat.le_refl n) (by omega))])
  refine ⟨M2, ?_, w2⟩
  unfold F_X8_burstsByDamps
  have e2' : loop (fun z : Int32 × Mem => F_X8_burstsByDamps_s14 0 (nI h) (nI n) (nI w) z.1 z.2) ((0 : Int32), M1) = some M2 := e2
  rw [Lp_0_5 c.1, ob_t, Lp_0_4 c.1, ob_t, Lc_31 c.1, e1, ob_t, e2', ob_t, Lp_0_5 c2.1.1, ob_t, Lc_31 c2.1.1, c2.isB (show h < 31 by omega), ob_t, (wk_loc c.gp c.gd hh (by omega) n (by omega)).2.2.1]
  cases bitI (sBur (wkA g s h w n)) h <;> rfl
theorem F_weight {n w : Nat} {t : Int32} (hn : n < 2 ^ 31) : F_X8_weight (nI n) (nI w) t M = some (wgS t w n) := by
  unfold F_X8_weight
  have e := loop_p (step := fun z : Int32 × Int32 => F_X8_weight_s5 (nI n) (nI w) t M z.1 z.2) (fun i x => (x, nI i)) (fun k v => if ((nI w >>> (nI k &&& 31)) &&& 1) = 1 then v * t else v * (10 - t)) 1 n (r := wgS t w n) (by
    intro i hi
    unfold F_X8_weight_s5
    simp only [if_neg (nI_ge hi hn), nm_t, nI_1]
    split <;> rfl) (by
    unfold F_X8_weight_s5
    simp only [if_pos (nI_le (Nat.le_refl n) hn)]
    rfl)
  exact (congrArg (fun o => Option.bind o _) e).trans rfl
theorem MQo_day {s' : Sg} {D : Int} {o v : Int32} (m : MLo M g s s' D o) (hv : v ≠ -1) (hD : D < 100000) : ∃ M', (pI M 9 67 46 v).bind (fun M25 => ckO M25 9 67 ((F_X9_dayGoes 67 43 M25).bind fun M29 => some M29)) = some M' ∧ MLo M' g s (dayS g v s') (D + 1) v ∧ QW M M' := by
  obtain ⟨e5, m5, w5⟩ := m.set (j := 46) (v := v) (Or.inl rfl)
  rw [if_pos rfl] at m5
  obtain ⟨M6, e6, m6, w6⟩ := m5.day hv hD
  rw [e5, ob_t, Lc_67 m5.1.1, e6, ob_t]
  exact ⟨M6, rfl, m6, w5.trans w6⟩
theorem MLo.byD1 {h n w : Nat} {t : Int32} (m : MLa M g s s 999) (hh : h < gH g) (hn : n ≤ 5) : ∃ M' o, loop (fun z : Int32 × Int32 × Mem => F_X9_byDamp_s71 67 (nI n) t (nI w) z.1 z.2.1 z.2.2) ((1 : Int32), (0 : Int32), M) = some (wgS t w n, M') ∧ MLo M' g s (wkS g s w n) (999 + n) o ∧ QW M M' := by
  obtain ⟨M2, e2, ⟨o, m2⟩, w2⟩ := loop_q (step := fun z : Int32 × Int32 × Mem => F_X9_byDamp_s71 67 (nI n) t (nI w) z.1 z.2.1 z.2.2) (fun i a M' => (a, nI i, M')) (fun a M' => (a, M')) (fun k v => if ((nI w >>> (nI k &&& 31)) &&& 1) = 1 then v * t else v * (10 - t)) 1 n (fun i M' => (∃ o, MLo M' g s (wkS g s w i) (999 + i) o) ∧ QW M M') (M := M) ⟨⟨-1, m.o.mono (by omega)⟩, QW.rfl'⟩ (by
    rintro i M' hi ⟨⟨o, m'⟩, w'⟩
    have hs : wkS g s w (i + 1) = dayS g (if ((nI w >>> (nI i &&& 31)) &&& 1) = 1 then 9 else 0) (wkS g s w i) := rfl
    rw [hs]
    generalize itN (fun k v => if ((nI w >>> (nI k &&& 31)) &&& 1) = 1 then v * t else v * (10 - t)) 1 i = a
    unfold F_X9_byDamp_s71 F_X9_byDamp_j93_71 F_X9_byDamp_j110_71 F_X9_byDamp_j125_71
    dsimp only
    rw [if_neg (nI_ge hi (by omega))]
    by_cases b : ((nI w >>> (nI i &&& 31)) &&& 1) = 1
    · obtain ⟨e5, m5, w5⟩ := m'.set (j := 46) (v := 9) (Or.inl rfl)
      rw [if_pos rfl] at m5
      obtain ⟨M6, e6, m6, w6⟩ := m5.day (by decide) (by omega)
      rw [if_pos b, if_pos b, if_pos b, if_neg (by decide), if_neg (by decide), e5, ob_t, Lc_67 m5.1.1, e6, ob_t, nI_1]
      exact ⟨M6, rfl, ⟨9, m6.mono (by omega)⟩, (w'.trans w5).trans w6⟩
    · obtain ⟨e5, m5, w5⟩ := m'.set (j := 46) (v := 0) (Or.inl rfl)
      rw [if_pos rfl] at m5
      obtain ⟨M6, e6, m6, w6⟩ := m5.day (by decide) (by omega)
      rw [if_neg b, if_neg b, if_neg b, if_pos rfl, if_pos rfl, e5, ob_t, Lc_67 m5.1.1, e6, ob_t, nI_1]
      exact ⟨M6, rfl, ⟨0, m6.mono (by omega)⟩, (w'.trans w5).trans w6⟩) (by
    rintro M' ⟨m', w'⟩
    unfold F_X9_byDamp_s71
    dsimp only
    rw [if_pos (nI_le (Nat.le_refl n) (by omega))])
  exact ⟨M2, o, e2, m2, w2⟩
theorem one_pow : ∀ n, n ≤ 5 → (1 : Int32) <<< (nI n &&& 31) = nI (2 ^ n) := by decide +kernel
theorem pow5 : ∀ n, n ≤ 5 → 2 ^ n ≤ 32 := by decide
noncomputable def bdS (g : Pg) (s : Sg) (h n : Nat) (t : Int32) : Int32 := itN (fun w a => if bitI (sBur (wkS g s w n)) h then a + wgS t w n else a) 0 (2 ^ n)
theorem CQ.byD {h n : Nat} {t : Int32} (c : CQ M p g s) (hh : h < gH g) (hn : n ≤ 5) : ∃ M', (loop (fun z : Int32 × Int32 × Mem => F_X8_byDamp_s42 0 (nI h) (nI n) t z.1 z.2.1 z.2.2) ((0 : Int32), (0 : Int32), M)) = some (bdS g s h n t, M') ∧ QC M M' := by
  have hp := pow5 n hn
  obtain ⟨M2, e2, c2, w2⟩ := loop_q (step := fun z : Int32 × Int32 × Mem => F_X8_byDamp_s42 0 (nI h) (nI n) t z.1 z.2.1 z.2.2) (fun i a M' => (a, nI i, M')) (fun a M' => (a, M')) (fun w a => if bitI (sBur (wkS g s w n)) h then a + wgS t w n else a) 0 (2 ^ n) (fun i M' => CQ M' p g s ∧ QC M M') (M := M) ⟨c, QC.rfl'⟩ (by
    rintro i M' hi ⟨c', w'⟩
    obtain ⟨M3, e3, w3⟩ := c'.byD1 (w := i) hh hn
    refine ⟨M3, ?_, c'.c w3, w'.trans w3⟩
    unfold F_X8_byDamp_s42
    dsimp only
    rw [one_pow n hn, if_neg (nI_ge hi (by omega)), Lc_0 c'.1, e3, bd2_t, F_weight (by omega), ob_t, nI_1]
    cases bitI (sBur (wkS g s i n)) h
    · rw [if_pos (by simp), if_neg (by simp)]
    · rw [if_neg (by simp), if_pos rfl]) (by
    rintro M' ⟨c', w'⟩
    unfold F_X8_byDamp_s42
    dsimp only
    rw [one_pow n hn, if_pos (nI_le (Nat.le_refl _) (by omega))])
  exact ⟨M2, e2, w2⟩
theorem MZu.byD {h n : Nat} {t : Int32} (m : MZu M g s) (hh : h < gH g) (hn : n ≤ 5) : ∃ M', (loop (fun z : Int32 × Int32 × Mem => F_X9_byDamp_s53 67 (nI h) (nI n) t z.1 z.2.1 z.2.2) ((0 : Int32), (0 : Int32), M)) = some (bdS g s h n t, M') ∧ Lay M' ∧ MZu (stI M' 67 46 (-1)) g s ∧ QW M (stI M' 67 46 (-1)) := by
  have hp := pow5 n hn
  have h8 := m.b.gp.h8 hh
  have sc : Sc 67 46 := Or.inr (Or.inr ⟨rfl, Or.inr (Or.inl rfl)⟩)
  have fin : ∀ N : Mem, MB N 0 0 g s 999 → mI N 67 0 = 0 → QW M N → Lay N ∧ MZu (stI N 67 46 (-1)) g s ∧ QW M (stI N 67 46 (-1)) := by
    intro N hN h0 wN
    have w1 := wN.st (v := -1) sc
    refine ⟨hN.1, ⟨m.1.q w1 (by rw [mI_steq, upg_eq]), by rw [mI_steq, upg_ne (by omega)]; exact h0⟩, w1⟩
  obtain ⟨M2, e2, hM2, h2, w2⟩ := loop_q (step := fun z : Int32 × Int32 × Mem => F_X9_byDamp_s53 67 (nI h) (nI n) t z.1 z.2.1 z.2.2) (fun i a M' => (a, nI i, M')) (fun a M' => (a, M')) (fun w a => if bitI (sBur (wkS g s w n)) h then a + wgS t w n else a) 0 (2 ^ n) (fun i M' => MB M' 0 0 g s 999 ∧ mI M' 67 0 = 0 ∧ QW M M') (M := M) ⟨m.b, m.2, QW.rfl'⟩ (by
    rintro i M' hi ⟨m', h', w'⟩
    -- tries does not look at the other damp
    obtain ⟨-, mz, wz⟩ := fin M' m' h' w'
    obtain ⟨M3, e3, ml3, w3⟩ : ∃ M3, F_X9_tries 67 M' = some M3 ∧ (MB M3 0 0 g s 999 ∧ mI M3 67 0 = 0 ∧ MB M3 43 43 g s 999) ∧ QW M' M3 := by
      obtain ⟨M1, e1, h1, w1⟩ := loop_mm (step := fun z : Int32 × Mem => F_X9_tries_s2 67 z.1 z.2) (fun i M'' => (nI i, M'')) (fun M'' => M'') 43 (fun i M'' => (∀ j, j < i → mI M'' 83 (43 + j) = mI M' 83 j) ∧ WB 43 M' M'') (M := M') ⟨fun j hj => by omega, WB.rfl'⟩ (by
        rintro i M'' hi ⟨h'', w''⟩
        have hL := Lay.wb m'.1 w''
        refine ⟨stI M'' 83 (43 + i) (mI M' 83 i), ?_, fun j hj => ?_, w''.st (by omega) (by omega)⟩
        · unfold F_X9_tries_s2
          dsimp only
          rw [if_neg (show ¬ (43 : Int32) ≤ nI i from nI_ge (b := 43) hi (by omega)), Lp_67_41 hL, ob_t, ob_t, La_83 hL (by omega), ob_t, show (43 : Int32) + nI i = nI (43 + i) from nI_add 43 i, Lw_83 hL (by omega), ob_t, nI_1, w''.2.2.2.2.2 i (by omega)]
        · rw [mI_steq]
          by_cases e : j = i
          · subst e; rw [upg_eq]
          · rw [upg_ne (by omega)]; exact h'' j (by omega)) (by
        rintro M'' ⟨h'', w''⟩
        unfold F_X9_tries_s2
        dsimp only
        rw [if_pos (show (43 : Int32) ≤ nI 43 from nI_le (a := 43) (Nat.le_refl _) (by omega))])
      have g1 := m'.gp.1
      have g2 := m'.gp.2.1
      refine ⟨M1, ?_, ⟨⟨Lay.wb m'.1 w1, MPl.wb m'.2.1 w1, rfl, by omega, m'.rw.eq m'.gp fun j a b => w1.2.2.2.2.2 j (by omega), m'.gd⟩, by rw [w1.2.2.2.2.1 67 (by decide)]; exact h', ?_⟩, w1.qw⟩
      · unfold F_X9_tries
        have e1' : loop (fun z : Int32 × Mem => F_X9_tries_s2 67 z.1 z.2) ((0 : Int32), M') = some M1 := e1
        rw [e1', ob_t]
      · refine ⟨Lay.wb m'.1 w1, MPl.wb m'.2.1 w1, rfl, Nat.le_refl _, ?_, m'.gd⟩
        obtain ⟨r1, r2, r3, r4, r5⟩ := m'.rw
        refine ⟨by rw [← r1]; exact h1 0 (by omega), by rw [← r2]; exact h1 1 (by omega), by rw [← r3]; exact h1 2 (by omega), fun k hk => ?_, fun k hk => ?_⟩
        · rw [← (r4 k hk).1, ← (r4 k hk).2.1, ← (r4 k hk).2.2]
          refine ⟨?_, ?_, ?_⟩
          · rw [Nat.zero_add, ← h1 (3 + k) (by omega), Nat.add_assoc]
          · rw [Nat.zero_add, ← h1 (11 + k) (by omega), Nat.add_assoc]
          · rw [Nat.zero_add, ← h1 (19 + k) (by omega), Nat.add_assoc]
        · rw [← (r5 k hk).1, ← (r5 k hk).2]
          refine ⟨?_, ?_⟩
          · rw [Nat.zero_add, ← h1 (27 + k) (by omega), Nat.add_assoc]
          · rw [Nat.zero_add, ← h1 (35 + k) (by omega), Nat.add_assoc]
    have m3 : MLo M3 g s s 999 (mI M3 67 46) := ⟨ml3.1, ml3.2.1, ml3.2.2, rfl⟩
    obtain ⟨M4, e4, ⟨o4, m4⟩, w4⟩ := loop_q (step := fun z : Int32 × Int32 × Mem => F_X9_byDamp_s71 67 (nI n) t (nI i) z.1 z.2.1 z.2.2) (fun i a M' => (a, nI i, M')) (fun a M' => (a, M')) (fun k v => if ((nI i >>> (nI k &&& 31)) &&& 1) = 1 then v * t else v * (10 - t)) 1 n (fun k M' => (∃ o, MLo M' g s (wkS g s i k) (999 + k) o) ∧ QW M3 M') (M := M3) ⟨⟨_, m3.mono (by omega)⟩, QW.rfl'⟩ (by
      rintro k M' hi ⟨⟨o, m'⟩, w'⟩
      have hs : wkS g s i (k + 1) = dayS g (if ((nI i >>> (nI k &&& 31)) &&& 1) = 1 then 9 else 0) (wkS g s i k) := rfl
      rw [hs]
      generalize itN (fun k v => if ((nI i >>> (nI k &&& 31)) &&& 1) = 1 then v * t else v * (10 - t)) 1 k = a
      unfold F_X9_byDamp_s71 F_X9_byDamp_j93_71 F_X9_byDamp_j110_71 F_X9_byDamp_j125_71
      dsimp only
      rw [if_neg (nI_ge hi (by omega))]
      by_cases b : ((nI i >>> (nI k &&& 31)) &&& 1) = 1
      · obtain ⟨e5, m5, w5⟩ := m'.set (j := 46) (v := 9) (Or.inl rfl)
        rw [if_pos rfl] at m5
        obtain ⟨M6, e6, m6, w6⟩ := m5.day (by decide) (by omega)
        rw [if_pos b, if_pos b, if_pos b, if_neg (by decide), if_neg (by decide), e5, ob_t, Lc_67 m5.1.1, e6, ob_t, nI_1]
        exact ⟨M6, rfl, ⟨9, m6.mono (by omega)⟩, (w'.trans w5).trans w6⟩
      · obtain ⟨e5, m5, w5⟩ := m'.set (j := 46) (v := 0) (Or.inl rfl)
        rw [if_pos rfl] at m5
        obtain ⟨M6, e6, m6, w6⟩ := m5.day (by decide) (by omega)
        rw [if_neg b, if_neg b, if_neg b, if_pos rfl, if_pos rfl, e5, ob_t, Lc_67 m5.1.1, e6, ob_t, nI_1]
        exact ⟨M6, rfl, ⟨0, m6.mono (by omega)⟩, (w'.trans w5).trans w6⟩) (by
      rintro M' ⟨m', w'⟩
      unfold F_X9_byDamp_s71
      dsimp only
      rw [if_pos (nI_le (Nat.le_refl n) (by omega))])
    have e4' : loop (fun z : Int32 × Int32 × Mem => F_X9_byDamp_s71 67 (nI n) t (nI i) z.1 z.2.1 z.2.2) ((1 : Int32), (0 : Int32), M3) = some (wgS t i n, M4) := e4
    refine ⟨M4, ?_, m4.1, m4.2.1, (w'.trans w3).trans w4⟩
    unfold F_X9_byDamp_s53
    dsimp only
    rw [one_pow n hn, if_neg (nI_ge hi (by omega)), Lc_67 m'.1, e3, ob_t, e4', ob_t, u2_t, Lc_67 m4.1.1, m4.2.2.1.isB (show h < 31 by omega), ob_t, nI_1, Int32.add_zero]
    cases bitI (sBur (wkS g s i n)) h
    · rw [if_pos (by simp), if_neg (by simp)]
    · rw [if_neg (by simp), if_pos rfl]) (by
    rintro M' ⟨m', w'⟩
    unfold F_X9_byDamp_s53
    dsimp only
    rw [one_pow n hn, if_pos (nI_le (Nat.le_refl _) (by omega))])
  exact ⟨M2, e2, fin M2 hM2 h2 w2⟩
theorem P_byDamp (c : CQ M p g s) (x1 x2 x3 : Int32) : PR 2 M g s (F_X8_byDamp 0 x1 x2 x3 M) (F_X9_byDamp 67 x1 x2 x3) := by
  have g1 := c.gp.1
  have g2 := c.gp.2.1
  rcases hcase g x1 g1 with ⟨a1, ha1, rfl⟩ | hx
  rotate_left 1
  · refine Or.inr (Or.inl ⟨by decide, ?_, fun M1 m => ?_⟩)
    · unfold CT F_X8_byDamp
      have gx := c.needH' hx
      simp only [Lc_0 c.1, bdV_l, bdV_r, gx]
    · obtain ⟨e0, m0, -⟩ := m.zero
      have mx := m0.isH' hx
      refine MT.mk m (v := 0) ?_
      unfold F_X9_byDamp
      simp only [e0, ob_t, Lc_67 m0.lay, bd2_t, ifn1, mx]
      rfl
  have bad : (x2 < nI 1 ∨ nI 5 < x2) ∨ ((∃ n, 1 ≤ n ∧ n ≤ 5 ∧ x2 = nI n) ∧ (x3 < nI 0 ∨ nI 10 < x3)) → PR 2 M g s (F_X8_byDamp 0 (nI a1) x2 x3 M) (F_X9_byDamp 67 (nI a1) x2 x3) := by
    intro hbad
    refine Or.inr (Or.inr ⟨by decide, ?_, fun M1 m => ?_⟩)
    · unfold CT F_X8_byDamp
      rw [Lc_0 c.1, c.needH ha1, bdV_l, c.nx, ob_t]
      rcases hbad with hb | ⟨⟨n, n1, n2, rfl⟩, hb⟩
      · by_cases h0 : x2 < (1 : Int32)
        · rw [if_pos h0]
        · rw [if_neg h0, if_pos (show (5 : Int32) < x2 from hb.resolve_left h0)]
      · rw [if_neg (show ¬ nI n < (1 : Int32) from nI_nlt (b := 1) n1 (by omega)), if_neg (show ¬ (5 : Int32) < nI n from nI_nlt (a := 5) n2 (by omega))]
        by_cases h0 : x3 < (0 : Int32)
        · rw [if_pos h0]
        · rw [if_neg h0, if_neg (fun z : x3 ≤ (10 : Int32) => le_nlt.mpr (hb.resolve_left h0) z)]
    · obtain ⟨e0, m0, -⟩ := m.zero
      refine MT.mk m (v := 0) ?_
      unfold F_X9_byDamp F_X9_byDamp_j37 F_X9_byDamp_j38
      have mr : F_X9_right 67 0 2 (stI M1 67 0 0) = some (0, stI (stI M1 67 0 0) 67 0 2) := m0.rgt' (k := 2) (by omega) (by omega)
      rw [e0, ob_t, Lc_67 m0.lay, m0.isH ha1, bd2_t, if_neg (by decide)]
      rcases hbad with hb | ⟨⟨n, n1, n2, rfl⟩, hb⟩
      · have ew : F_X9_within x2 1 5 (stI M1 67 0 0) = some 0 := F_within' (a := 1) (b := 5) hb
        rw [ew, ob_t, if_pos rfl, Lc_67 m0.lay, mr, bd2_t, if_pos rfl]; rfl
      · have ew : F_X9_within (nI n) 1 5 (stI M1 67 0 0) = some 1 := F_within (x := 0) (a := 1) (b := 5) (by omega) (by omega) n1 n2
        have ew2 : F_X9_within x3 0 10 (stI M1 67 0 0) = some 0 := F_within' (a := 0) (b := 10) hb
        rw [ew, ob_t, if_neg (by decide), ew2, ob_t, if_pos rfl, Lc_67 m0.lay, mr, bd2_t, if_pos rfl]; rfl
  rcases ncase x2 1 5 (by omega) (by omega) with ⟨n, n1, n2, rfl⟩ | hb
  rotate_left 1
  · exact bad (Or.inl hb)
  rcases ncase x3 0 10 (by omega) (by omega) with ⟨t, t1, t2, rfl⟩ | hb
  rotate_left 1
  · exact bad (Or.inr ⟨⟨n, n1, n2, rfl⟩, hb⟩)
  refine Or.inl ⟨bdS g s a1 n (nI t), ?_, fun M1 m => ?_⟩
  · obtain ⟨M2, e2, w2⟩ := c.byD (t := nI t) ha1 n2
    refine ⟨M2, ?_, w2⟩
    unfold F_X8_byDamp
    rw [Lc_0 c.1, c.needH ha1, bdV_l, if_neg (show ¬ nI n < (1 : Int32) from nI_nlt (b := 1) n1 (by omega)), if_neg (show ¬ (5 : Int32) < nI n from nI_nlt (a := 5) n2 (by omega)), if_neg (nI_pos (by omega)), if_pos (show nI t ≤ (10 : Int32) from nI_le (b := 10) t2 (by omega)), e2, ob_t, u2_t]
  · obtain ⟨e0, m0, w0⟩ := m.zero
    obtain ⟨M2, e2, hL, m2, w2⟩ := m0.byD (t := nI t) ha1 n2
    refine ⟨stI M2 67 46 (-1), ?_, w0.trans w2, m2⟩
    unfold F_X9_byDamp F_X9_byDamp_j38
    have ew : F_X9_within (nI n) 1 5 (stI M1 67 0 0) = some 1 := F_within (x := 0) (a := 1) (b := 5) (by omega) (by omega) n1 n2
    have ew2 : F_X9_within (nI t) 0 10 (stI M1 67 0 0) = some 1 := F_within (x := 0) (a := 0) (b := 10) (by omega) (by omega) t1 t2
    rw [e0, ob_t, Lc_67 m0.lay, m0.isH ha1, bd2_t, if_neg (by decide), ew, ob_t, if_neg (by decide), ew2, ob_t, if_neg (by decide), Lc_67 m0.lay, m0.rgt, bd2_t, if_neg (by decide), e2, ob_t, u2_t, Ls_67 hL, ob_t]
end
