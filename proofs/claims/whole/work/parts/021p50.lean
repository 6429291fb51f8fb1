/-! ===== the reference: a day ===== -/
section
variable {M : Mem} {B : Int32} {b q h : Nat} {g : Pg} {s : Sg} {D : Int}
theorem MB.sw (m : MB M B b g s D) {v : Int32} {c : Nat} (hc : c + h < 43) : sI M 100 83 (B + nI c + nI h) v = some (stI M 83 (b + c + h) v) := by
  rw [m.2.2.1, nI_add, nI_add]
  exact Lw_83 m.1 (by have := m.2.2.2.1; omega)
theorem MB.sw1 (m : MB M B b g s D) {v : Int32} {c : Nat} (hc : c < 43) : sI M 100 83 (B + nI c) v = some (stI M 83 (b + c) v) := by
  rw [m.2.2.1, nI_add]
  exact Lw_83 m.1 (by have := m.2.2.2.1; omega)
theorem MB.w1 (m : MB M B b g s D) (hq : q < gN g) (hh : h < gH g) {x y : Int32} {s' : Sg} (hs : s' = (sDay s, sWet s, sBur s, sSiz s, upg (sWor s) h x, sWho s, sHee s, upg (sSor s) q y)) (hd : GdS D g s') : MB (stI (stI M 83 (b + 11 + h) x) 83 (b + 35 + q) y) B b g s' D := by
  have h8 := m.gp.h8 hh; have q8 := m.gp.p8 hq; have g1 := m.gp.1; have g2 := m.gp.2.1
  have w : WB b M (stI (stI M 83 (b + 11 + h) x) 83 (b + 35 + q) y) := (WB.rfl'.st (by omega) (by omega)).st (by omega) (by omega)
  refine m.of w ?_ hd
  subst hs
  rw [mI_steq, mI_steq]
  obtain ⟨r1, r2, r3, r4, r5⟩ := m.rw
  refine ⟨?_, ?_, ?_, fun k hk => ⟨?_, ?_, ?_⟩, fun k hk => ⟨?_, ?_⟩⟩
  · rw [upg_ne (by omega), upg_ne (by omega)]; exact r1
  · rw [upg_ne (by omega), upg_ne (by omega)]; exact r2
  · rw [upg_ne (by omega), upg_ne (by omega)]; exact r3
  · rw [upg_ne (by omega), upg_ne (by omega)]; exact (r4 k hk).1
  · rw [upg_ne (by omega)]
    show _ = upg (sWor s) h x k
    by_cases e : k = h
    · subst e; rw [upg_eq, upg_eq]
    · rw [upg_ne (by omega), upg_ne e]; exact (r4 k hk).2.1
  · rw [upg_ne (by omega), upg_ne (by omega)]; exact (r4 k hk).2.2
  · rw [upg_ne (by omega), upg_ne (by omega)]; exact (r5 k hk).1
  · show _ = upg (sSor s) q y k
    by_cases e : k = q
    · subst e; rw [upg_eq, upg_eq]
    · rw [upg_ne (by omega), upg_ne (by omega), upg_ne e]; exact (r5 k hk).2
theorem MB.brk (m : MB M B b g s D) (hh : h < gH g) {t : Int32} {s' : Sg} (hs : s' = if t = 0 then s else w2S s h) : ∃ M', F_X9_wears_j131 67 B (nI h) t M = some M' ∧ MB M' B b g s' D ∧ WB b M M' := by
  have h8 := m.gp.h8 hh; have g1 := m.gp.1; have g2 := m.gp.2.1
  unfold F_X9_wears_j131
  by_cases c : t = 0
  · rw [if_pos c] at hs ⊢; subst hs; exact ⟨M, rfl, m, WB.rfl'⟩
  · rw [if_neg c] at hs ⊢
    have e0 : sI M 100 83 (B + 1) (sBur s ||| (1 : Int32) <<< (nI h &&& 31)) = some (stI M 83 (b + 1) (sBur s ||| (1 : Int32) <<< (nI h &&& 31))) := m.sw1 (c := 1) (by omega)
    rw [Lp_67_41 m.1, ob_t, m.bur, ob_t, e0, ob_t, Lp_67_41 (M := stI M 83 (b + 1) _) m.1, ob_t]
    have w1 : WB b M (stI M 83 (b + 1) (sBur s ||| (1 : Int32) <<< (nI h &&& 31))) := WB.rfl'.st (by omega) (by omega)
    have e1 : sI (stI M 83 (b + 1) (sBur s ||| (1 : Int32) <<< (nI h &&& 31))) 100 83 (B + 19 + nI h) (-1) = some (stI (stI M 83 (b + 1) (sBur s ||| (1 : Int32) <<< (nI h &&& 31))) 83 (b + 19 + h) (-1)) := by
      rw [m.2.2.1, nIp_19, nI_add]; exact Lw_83 (M := stI M 83 (b + 1) _) m.1 (by have := m.2.2.2.1; omega)
    rw [e1, ob_t]
    refine ⟨_, rfl, ?_, (w1.st (by omega) (by omega))⟩
    refine m.of (w1.st (by omega) (by omega)) ?_ (by rw [hs]; exact m.gd.w2 m.gp hh)
    subst hs
    rw [mI_steq, mI_steq]
    obtain ⟨r1, r2, r3, r4, r5⟩ := m.rw
    refine ⟨?_, ?_, ?_, fun k hk => ⟨?_, ?_, ?_⟩, fun k hk => ⟨?_, ?_⟩⟩
    · rw [upg_ne (by omega), upg_ne (by omega)]; exact r1
    · rw [upg_ne (by omega), upg_eq]; rfl
    · rw [upg_ne (by omega), upg_ne (by omega)]; exact r3
    · rw [upg_ne (by omega), upg_ne (by omega)]; exact (r4 k hk).1
    · rw [upg_ne (by omega), upg_ne (by omega)]; exact (r4 k hk).2.1
    · show _ = upg (sWho s) h (-1) k
      by_cases e : k = h
      · subst e; rw [upg_eq, upg_eq]
      · rw [upg_ne (by omega), upg_ne (by omega), upg_ne e]; exact (r4 k hk).2.2
    · rw [upg_ne (by omega), upg_ne (by omega)]; exact (r5 k hk).1
    · rw [upg_ne (by omega), upg_ne (by omega)]; exact (r5 k hk).2
theorem dmp_w1 {o : Int32} {t : Int32} : dmp o g (w1S s h q t) = dmp o g s := rfl
theorem MB.wears (m : MB M B b g s D) (hh : h < gH g) (hw : sWho s h ≠ -1) : ∃ M', F_X9_wears 67 B (nI h) M = some M' ∧ MB M' B b g (wearS g s h (dmp (mI M 67 46) g s)) D ∧ WB b M M' := by
  have h8 := m.gp.h8 hh; have g1 := m.gp.1; have g2 := m.gp.2.1
  obtain ⟨p, hp, e, hu⟩ := m.gd.who hh hw
  have p8 := m.gp.p8 hp
  unfold F_X9_wears wearS
  rw [if_neg hw, e, nI_clamp (by omega)]
  have e1 : sI M 100 83 (B + 11 + nI h) (mnI 99 (sWor s h + tightS s p h)) = some (stI M 83 (b + 11 + h) (mnI 99 (sWor s h + tightS s p h))) := m.sw (c := 11) (by omega)
  rw [Lp_67_41 m.1, ob_t, m.who hh, ob_t, Lc_67 m.1, e, m.tig hp hh, ob_t, ob_t, ob_t, m.wor hh, ob_t, F_lesser, ob_t, e1, ob_t]
  have z1 : aI (stI M 83 (b + 11 + h) (mnI 99 (sWor s h + tightS s p h))) 100 83 (B + 35 + nI p) = some (sSor s p) := by
    rw [m.2.2.1, nIp_35, nI_add, La_83 (M := stI M 83 (b + 11 + h) _) m.1 (by have := m.2.2.2.1; omega), mI_steq, upg_ne (by omega), (m.rw.2.2.2.2 p hp).2]
  have z2 : sI (stI M 83 (b + 11 + h) (mnI 99 (sWor s h + tightS s p h))) 100 83 (B + 35 + nI p) (mnI 999 (sSor s p + tightS s p h)) = some (stI (stI M 83 (b + 11 + h) (mnI 99 (sWor s h + tightS s p h))) 83 (b + 35 + p) (mnI 999 (sSor s p + tightS s p h))) := by
    rw [m.2.2.1, nIp_35, nI_add]; exact Lw_83 (M := stI M 83 (b + 11 + h) _) m.1 (by have := m.2.2.2.1; omega)
  rw [Lp_67_41 (M := stI M 83 (b + 11 + h) _) m.1, ob_t, ob_t, z1, ob_t, F_lesser, ob_t, z2, ob_t]
  have hd1 := m.gd.w1 hp hh (tightS_bnd m.gd hp hh)
  have m1 := m.w1 hp hh (x := mnI 99 (sWor s h + tightS s p h)) (y := mnI 999 (sSor s p + tightS s p h)) (s' := w1S s h p (tightS s p h)) rfl hd1
  have w1 : WB b M (stI (stI M 83 (b + 11 + h) (mnI 99 (sWor s h + tightS s p h))) 83 (b + 35 + p) (mnI 999 (sSor s p + tightS s p h))) := (WB.rfl'.st (by omega) (by omega)).st (by omega) (by omega)
  generalize hM2 : stI (stI M 83 (b + 11 + h) (mnI 99 (sWor s h + tightS s p h))) 83 (b + 35 + p) (mnI 999 (sSor s p + tightS s p h)) = M2 at *
  have eo : mI M2 67 46 = mI M 67 46 := by rw [w1.2.2.2.2.1 67 (by decide)]
  rw [Lf_67 m1.1, ob_t]
  rcases m1.2.1.2.2.2.2.2.2.2.2 with ⟨e1, e2⟩ | ⟨k, l, f, e1, e2, e3, e4, e5⟩
  · rw [if_pos e1, Lp_67_6 m1.1, ob_t, m1.giv hh, ob_t]
    have ht := tightS_bnd m.gd hp hh
    have hgv := (m.gp.2.2.2.1 h hh).1
    have eb : (tightS s p h ≤ 9 + gGiv g h) ↔ brkS g (w1S s h p (tightS s p h)) p h (dmp (mI M 67 46) g s) (tightS s p h) ≤ 0 := by
      unfold brkS
      rw [e2]
      have n9 : (9 : Int32).toInt = 9 := rfl
      unfold bnd at *
      have a1 : (9 + gGiv g h).toInt = 9 + (gGiv g h).toInt := ti_add (by rw [n9]; omega) (by rw [n9]; omega)
      have a2 : (tightS s p h - 9).toInt = (tightS s p h).toInt - 9 := ti_sub (by rw [n9]; omega) (by rw [n9]; omega)
      rw [ti_le, ti_le, a1, ti_sub (by rw [a2]; omega) (by rw [a2]; omega), a2, ti_0]
      omega
    by_cases c : tightS s p h ≤ 9 + gGiv g h
    · rw [if_pos c, if_pos (eb.mp c)]
      obtain ⟨M3, f1, m3, w3⟩ := m1.brk hh (t := 0) rfl
      exact ⟨M3, f1, m3, w1.trans w3⟩
    · rw [if_neg c, if_neg (fun z => c (eb.mpr z))]
      obtain ⟨M3, f1, m3, w3⟩ := m1.brk hh (t := 1) rfl
      exact ⟨M3, f1, m3, w1.trans w3⟩
  · rw [if_neg (by rw [e1]; exact nI_nm1 (by omega)), ob_t, Lc_67 m1.1, e1]
    obtain ⟨M3, e, w⟩ := m1.asks hp hh e3 e4 e5
    rw [e, bd2_t]
    have w3 : WB b M2 M3 := Wr.wb w (by simp)
    have m3 := m1.wr w (by simp)
    have eb : brkS g (w1S s h p (tightS s p h)) p h (dmp (mI M 67 46) g s) (tightS s p h) = f (facS g (w1S s h p (tightS s p h)) p h (dmp (mI M2 67 46) g (w1S s h p (tightS s p h)))) := by unfold brkS; rw [e2, eo]; rfl
    rw [eb]
    split
    · obtain ⟨M4, f1, m4, w4⟩ := m3.brk hh (t := 0) rfl
      exact ⟨M4, f1, m4, (w1.trans w3).trans w4⟩
    · obtain ⟨M4, f1, m4, w4⟩ := m3.brk hh (t := 1) rfl
      exact ⟨M4, f1, m4, (w1.trans w3).trans w4⟩
theorem wear_same {d : Int32} : sDay (wearS g s h d) = sDay s ∧ sWet (wearS g s h d) = sWet s := by
  unfold wearS; repeat' split
  all_goals exact ⟨rfl, rfl⟩
theorem dmp_wearN {o d : Int32} {n : Nat} : dmp o g (wearN g d n s) = dmp o g s := by
  have : sDay (wearN g d n s) = sDay s ∧ sWet (wearN g d n s) = sWet s := by
    induction n with
    | zero => exact ⟨rfl, rfl⟩
    | succ n ih => exact ⟨wear_same.1.trans ih.1, wear_same.2.trans ih.2⟩
  unfold dmp dampS; rw [this.1, this.2]
theorem MB.gro1 (m : MB M B b g s D) (hq : q < gN g) : ∃ M', F_X9_dayGoes_s39 67 B (nI q) M = some (.inl (nI (q + 1), M')) ∧ MB M' B b g (growS g s q) D ∧ WB b M M' := by
  have q8 := m.gp.p8 hq; have g1 := m.gp.1; have g2 := m.gp.2.1
  unfold F_X9_dayGoes_s39
  have e1 : sI M 100 83 (B + 27 + nI q) (mnI 99 (sHee s q + gGro g q)) = some (stI M 83 (b + 27 + q) (mnI 99 (sHee s q + gGro g q))) := m.sw (c := 27) (by omega)
  rw [m.nN, ob_t, if_neg (fun z => by rw [nI_leI (by omega) (by omega)] at z; omega), Lp_67_41 m.1, ob_t, ob_t, m.hee hq, ob_t, Lp_67_8 m.1, ob_t, m.gro hq, ob_t, F_lesser, ob_t, e1, ob_t, nI_1]
  have w1 : WB b M (stI M 83 (b + 27 + q) (mnI 99 (sHee s q + gGro g q))) := WB.rfl'.st (by omega) (by omega)
  refine ⟨_, rfl, m.of w1 ?_ (m.gd.grow m.gp hq), w1⟩
  rw [mI_steq]
  obtain ⟨r1, r2, r3, r4, r5⟩ := m.rw
  refine ⟨?_, ?_, ?_, fun k hk => ⟨?_, ?_, ?_⟩, fun k hk => ⟨?_, ?_⟩⟩
  · rw [upg_ne (by omega)]; exact r1
  · rw [upg_ne (by omega)]; exact r2
  · rw [upg_ne (by omega)]; exact r3
  · rw [upg_ne (by omega)]; exact (r4 k hk).1
  · rw [upg_ne (by omega)]; exact (r4 k hk).2.1
  · rw [upg_ne (by omega)]; exact (r4 k hk).2.2
  · show _ = upg (sHee s) q _ k
    by_cases e : k = q
    · subst e; rw [upg_eq, upg_eq]
    · rw [upg_ne (by omega), upg_ne e]; exact (r5 k hk).1
  · rw [upg_ne (by omega)]; exact (r5 k hk).2
theorem MB.tick (m : MB M B b g s D) (hD : D < 100000) : MB (stI (stI M 83 b (sDay s + 1)) 83 (b + 2) 0) B b g (tickS s) (D + 1) ∧ WB b M (stI (stI M 83 b (sDay s + 1)) 83 (b + 2) 0) := by
  have g1 := m.gp.1; have g2 := m.gp.2.1
  have w1 : WB b M (stI (stI M 83 b (sDay s + 1)) 83 (b + 2) 0) := (WB.rfl'.st (by omega) (by omega)).st (by omega) (by omega)
  refine ⟨m.of w1 ?_ (m.gd.tick hD), w1⟩
  rw [mI_steq, mI_steq]
  obtain ⟨r1, r2, r3, r4, r5⟩ := m.rw
  refine ⟨?_, ?_, ?_, fun k hk => ⟨?_, ?_, ?_⟩, fun k hk => ⟨?_, ?_⟩⟩
  · rw [upg_ne (by omega), upg_eq]; rfl
  · rw [upg_ne (by omega), upg_ne (by omega)]; exact r2
  · rw [upg_eq]; rfl
  · rw [upg_ne (by omega), upg_ne (by omega)]; exact (r4 k hk).1
  · rw [upg_ne (by omega), upg_ne (by omega)]; exact (r4 k hk).2.1
  · rw [upg_ne (by omega), upg_ne (by omega)]; exact (r4 k hk).2.2
  · rw [upg_ne (by omega), upg_ne (by omega)]; exact (r5 k hk).1
  · rw [upg_ne (by omega), upg_ne (by omega)]; exact (r5 k hk).2
/-- a loop by numbers: n turns, through memories -/
theorem loop_mm {σ ρ : Type} {step : σ → Option (σ ⊕ ρ)} (mk : Nat → Mem → σ) (fin : Mem → ρ) (n : Nat) (I : Nat → Mem → Prop) {M : Mem} (h0 : I 0 M)
    (h : ∀ i M, i < n → I i M → ∃ M', step (mk i M) = some (.inl (mk (i + 1) M')) ∧ I (i + 1) M')
    (he : ∀ M, I n M → step (mk n M) = some (.inr (fin M))) : ∃ M', loop step (mk 0 M) = some (fin M') ∧ I n M' := by
  obtain ⟨r, e, M', rfl, hI⟩ := loop_ex (step := step) (fun i z => ∃ M', z = mk i M' ∧ I i M') (fun r => ∃ M', r = fin M' ∧ I n M') n (by
    rintro i z hi ⟨M', rfl, hI⟩
    rcases Nat.lt_or_eq_of_le hi with hlt | heq
    · obtain ⟨M2, e, h2⟩ := h i M' hlt hI
      exact Or.inr ⟨hlt, _, e, M2, rfl, h2⟩
    · subst heq
      exact Or.inl ⟨_, he M' hI, M', rfl, hI⟩) (s := mk 0 M) ⟨M, rfl, h0⟩
  exact ⟨M', e, hI⟩
theorem MB.dayG (m : MB M B b g s D) (hD : D < 100000) : ∃ M', F_X9_dayGoes 67 B M = some M' ∧ MB M' B b g (dayS g (dmp (mI M 67 46) g s) s) (D + 1) ∧ WB b M M' := by
  have g1 := m.gp.1; have g2 := m.gp.2.1
  obtain ⟨M1, e1, m1, w1⟩ := loop_mm (step := fun z : Int32 × Mem => F_X9_dayGoes_s2 67 B z.1 z.2) (fun i M' => (nI i, M')) (fun M' => M') (gH g) (fun i M' => MB M' B b g (wearN g (dmp (mI M 67 46) g s) i s) D ∧ WB b M M') (M := M) ⟨m, WB.rfl'⟩ (by
    rintro i M' hi ⟨m', w'⟩
    have eo : dmp (mI M' 67 46) g (wearN g (dmp (mI M 67 46) g s) i s) = dmp (mI M 67 46) g s := by rw [w'.2.2.2.2.1 67 (by decide), dmp_wearN]
    unfold F_X9_dayGoes_s2
    dsimp only
    rw [m'.nH, ob_t, if_neg (fun z => by rw [nI_leI (by omega) (by omega)] at z; omega), Lp_67_41 m'.1, ob_t, m'.who hi, ob_t, nI_1]
    by_cases c : sWho (wearN g (dmp (mI M 67 46) g s) i s) i = -1
    · rw [if_pos c]
      refine ⟨M', rfl, ?_, w'⟩
      have : wearN g (dmp (mI M 67 46) g s) (i + 1) s = wearN g (dmp (mI M 67 46) g s) i s := by
        show wearS g (wearN g (dmp (mI M 67 46) g s) i s) i _ = _
        unfold wearS; rw [if_pos c]
      rw [this]; exact m'
    · rw [if_neg c, Lc_67 m'.1]
      obtain ⟨M2, e2, m2, w2⟩ := m'.wears hi c
      rw [e2, ob_t]
      rw [eo] at m2
      exact ⟨M2, rfl, m2, w'.trans w2⟩) (by
    rintro M' ⟨m', w'⟩
    unfold F_X9_dayGoes_s2
    dsimp only
    rw [m'.nH, ob_t, if_pos (by rw [nI_leI (by omega) (by omega)]; exact Nat.le_refl _)])
  obtain ⟨M2, e2, m2, w2⟩ := loop_mm (step := fun z : Int32 × Mem => F_X9_dayGoes_s39 67 B z.1 z.2) (fun i M' => (nI i, M')) (fun M' => M') (gN g) (fun i M' => MB M' B b g (growN g i (wearN g (dmp (mI M 67 46) g s) (gH g) s)) D ∧ WB b M M') (M := M1) ⟨m1, w1⟩ (by
    rintro i M' hi ⟨m', w'⟩
    obtain ⟨M2, e2, m2, w2⟩ := m'.gro1 hi
    exact ⟨M2, e2, m2, w'.trans w2⟩) (by
    rintro M' ⟨m', w'⟩
    unfold F_X9_dayGoes_s39
    dsimp only
    rw [m'.nN, ob_t, if_pos (by rw [nI_leI (by omega) (by omega)]; exact Nat.le_refl _)])
  obtain ⟨m3, w3⟩ := m2.tick hD
  refine ⟨_, ?_, m3, w2.trans w3⟩
  unfold F_X9_dayGoes
  have e1' : loop (fun z : Int32 × Mem => F_X9_dayGoes_s2 67 B z.1 z.2) ((0 : Int32), M) = some M1 := e1
  have e2' : loop (fun z : Int32 × Mem => F_X9_dayGoes_s39 67 B z.1 z.2) ((0 : Int32), M1) = some M2 := e2
  have z1 : sI M2 100 83 (B + 0) (sDay (growN g (gN g) (wearN g (dmp (mI M 67 46) g s) (gH g) s)) + 1) = some (stI M2 83 b (sDay (growN g (gN g) (wearN g (dmp (mI M 67 46) g s) (gH g) s)) + 1)) := m2.sw1 (c := 0) (by omega)
  have z2 : sI (stI M2 83 b (sDay (growN g (gN g) (wearN g (dmp (mI M 67 46) g s) (gH g) s)) + 1)) 100 83 (B + 2) 0 = some (stI (stI M2 83 b (sDay (growN g (gN g) (wearN g (dmp (mI M 67 46) g s) (gH g) s)) + 1)) 83 (b + 2) 0) := by
    rw [m2.2.2.1, nIp_2]; exact Lw_83 (M := stI M2 83 b _) m2.1 (by have := m2.2.2.2.1; omega)
  rw [e1', ob_t, e2', ob_t, Lp_67_41 m2.1, ob_t, m2.day, ob_t, z1, ob_t, Lp_67_41 (M := stI M2 83 b _) m2.1, ob_t, z2, ob_t]
end
