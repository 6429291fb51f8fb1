/-! ===== the sizes that fit ===== -/
section
variable {M M' : Mem} {p u h n : Nat} {g : Pg} {s s' : Sg} {D : Int} {E : List Se} {v : Int32}
theorem StV.hs {a : Nat} (h : StV M a g s) : StV (stI M (a + 4) u v) a g (hsS s u v) := by
  obtain ⟨h0, h1, h2, h3, h4, h5⟩ := h
  refine ⟨h0, by rw [mI_stne (by omega)]; exact h1, by rw [mI_stne (by omega)]; exact h2, by rw [mI_stne (by omega)]; exact h3, fun k hk => ?_, fun q hq => ?_⟩
  · rw [mI_stne (by omega), mI_stne (by omega), mI_stne (by omega)]; exact h4 k hk
  · rw [mI_steq, mI_stne (by omega), mI_stne (by omega)]
    refine ⟨?_, (h5 q hq).2⟩
    show upg (mI M (a + 4)) u v q = upg (sHee s) u v q
    by_cases e : q = u
    · subst e; rw [upg_eq, upg_eq]
    · rw [upg_ne e, upg_ne e]; exact (h5 q hq).1
theorem CLa.hs (c : CLa M p g s s' D) (hu : u < gN g) (hv : bnd v 1 99) : sI M 100 35 (nI u) v = some (stI M 35 u v) ∧ CLa (stI M 35 u v) p g s (hsS s' u v) D ∧ QC M (stI M 35 u v) := by
  have w : QC M (stI M 35 u v) := QC.rfl'.st (by decide)
  exact ⟨Lw_35 c.1.1 (c.1.gp.p8 hu), ⟨c.1.c w, c.2.1.hs (u := u) (v := v), c.2.2.hs hv⟩, w⟩
theorem tN_or {a b : Int64} : tN (a ||| b) = tN a ||| tN b := by unfold tN; rw [Int64.toBitVec_or, BitVec.toNat_or]
theorem tN_one : ∀ z, z < 64 → tN ((1 : Int64) <<< ((nI z).toInt64 &&& 63)) = 2 ^ z := by decide +kernel
theorem tb_or {a : Int64} {z k : Nat} (hz : z < 64) : (tN (a ||| ((1 : Int64) <<< ((nI z).toInt64 &&& 63)))).testBit k = true ↔ (tN a).testBit k = true ∨ k = z := by
  rw [tN_or, tN_one z hz, Nat.testBit_or, Nat.testBit_two_pow, Bool.or_eq_true, decide_eq_true_iff]
  exact ⟨fun y => y.imp id Eq.symm, fun y => y.imp id Eq.symm⟩
def fz (g : Pg) (s : Sg) (E : List Se) (u z : Nat) : Prop := sHee s u ≠ nI z ∧ ∀ h, h < gH g → sWho s h = nI u → agr g (hsS s u (nI z)) E h
theorem CQ.fitting (c : CQ M p g s) (hs : SeV M 40 g E) (hu : u < gN g) : ∃ r, F_X8_fittingSizes 0 (nI u) (wheS g s u) M = some r ∧ (∀ z, (tN r.1).testBit z = true ↔ 1 ≤ z ∧ z ≤ 60 ∧ fz g s E u z) ∧ QC M r.2 ∧ mL r.2 = mL M := by
  have g1 := c.gp.1
  have g2 := c.gp.2.1
  obtain ⟨⟨r, M1⟩, e, hr⟩ := loop_ex (step := fun z : Int64 × Int32 × Mem => F_X8_fittingSizes_s5 0 (nI u) (wheS g s u) z.1 z.2.1 z.2.2) (fun i z => z.2.1 = nI (i + 1) ∧ (∀ k, (tN z.1).testBit k = true ↔ 1 ≤ k ∧ k ≤ i ∧ fz g s E u k) ∧ QC M z.2.2 ∧ mL z.2.2 = mL M) (fun r => (∀ z, (tN r.1).testBit z = true ↔ 1 ≤ z ∧ z ≤ 60 ∧ fz g s E u z) ∧ QC M r.2 ∧ mL r.2 = mL M) 60 (by
    rintro i ⟨a, j, M1⟩ hi ⟨z1, z2, w1, l1⟩
    dsimp only at z1 z2 w1 l1
    subst z1
    have c1 := c.c w1
    unfold F_X8_fittingSizes_s5
    dsimp only
    by_cases i6 : i = 60
    · subst i6
      rw [if_pos (show (60 : Int32) < nI (60 + 1) from nI_lt (a := 60) (by omega) (by omega))]
      exact Or.inl ⟨_, rfl, z2, w1, l1⟩
    · refine Or.inr ⟨by omega, ?_⟩
      obtain ⟨M2, e2, c2, w2, l2⟩ := c1.copyL'
      obtain ⟨e3, c3, w3⟩ := c2.hs (u := u) (v := nI (i + 1)) hu (by unfold bnd; rw [nI_toInt (by omega)]; omega)
      have w13 := (w1.trans w2).trans w3
      have l13 : mL (stI M2 35 u (nI (i + 1))) = mL M := l2.trans l1
      rw [if_neg (show ¬ (60 : Int32) < nI (i + 1) from nI_nlt (b := i + 1) (a := 60) (by omega) (by omega)), Lp_0_5 c1.1, ob_t, Lp_0_4 c1.1, ob_t, Lc_31 c1.1, e2, ob_t, Lp_0_5 c2.1.1, ob_t, Lp_31_6 c2.1.1, ob_t, e3, ob_t, Lp_0_4 c3.1.1, ob_t, Lp_24_6 c3.1.1, ob_t, c3.1.hee hu, ob_t, nI_1]
      have skip : ¬ fz g s E u (i + 1) → ∀ k, (tN a).testBit k = true ↔ 1 ≤ k ∧ k ≤ i + 1 ∧ fz g s E u k := fun no k => by
        rw [z2 k]
        constructor
        · rintro ⟨y1, y2, y3⟩; exact ⟨y1, by omega, y3⟩
        · rintro ⟨y1, y2, y3⟩
          refine ⟨y1, ?_, y3⟩
          by_cases e : k = i + 1
          · subst e; exact absurd y3 no
          · omega
      have take : fz g s E u (i + 1) → ∀ k, (tN (a ||| ((1 : Int64) <<< ((nI (i + 1)).toInt64 &&& 63)))).testBit k = true ↔ 1 ≤ k ∧ k ≤ i + 1 ∧ fz g s E u k := fun yes k => by
        rw [tb_or (by omega), z2 k]
        constructor
        · rintro (⟨y1, y2, y3⟩ | rfl)
          · exact ⟨y1, by omega, y3⟩
          · exact ⟨by omega, by omega, yes⟩
        · rintro ⟨y1, y2, y3⟩
          by_cases e : k = i + 1
          · exact Or.inr e
          · exact Or.inl ⟨y1, by omega, y3⟩
      by_cases q : sHee s u = nI (i + 1)
      · rw [if_pos q.symm]
        exact ⟨_, rfl, rfl, skip (fun y => y.1 q), w13, l13⟩
      · rw [if_neg (fun y => q y.symm)]
        unfold F_X8_fittingSizes_j61_5
        rw [nm_t, nI_1]
        rcases whe_case (u := u) c.gp c.gd with ⟨y, y0⟩ | ⟨k, hk, y1, y2⟩
        · rw [if_pos y]
          exact ⟨_, rfl, rfl, take ⟨q, fun h hh z => absurd z (y0 h hh)⟩, w13, l13⟩
        · have only : ∀ h, h < gH g → sWho s h = nI u → h = k := fun h hh z => c.gd.2.2.2.2.1 h k hh hk (z.trans y2.symm) (by rw [z]; exact nI_nm1 (by omega))
          obtain ⟨M4, e4, w4, l4⟩ := c3.agrees (E := E) (h := k) (((hs.qc w1).qc w2).qc w3) hk (by omega)
          rw [if_neg (by rw [y1]; exact nI_nm1 (by omega)), Lc_0 c3.1.1, y1, e4, bd2_t, nm_t]
          by_cases z : agI g (hsS s u (nI (i + 1))) E k = 0
          · rw [if_pos z]
            exact ⟨_, rfl, rfl, skip (fun y => agI_0.mp z (y.2 k hk y2)), w13.trans w4, l4.trans l13⟩
          · rw [if_neg z]
            exact ⟨_, rfl, rfl, take ⟨q, fun h hh x => by rw [only h hh x]; exact Classical.byContradiction fun y => z (agI_0.mpr y)⟩, w13.trans w4, l4.trans l13⟩) (s := ((0 : Int64), (1 : Int32), M)) ⟨rfl, fun k => by
    have : tN (0 : Int64) = 0 := rfl
    dsimp only
    rw [this, Nat.zero_testBit]
    exact ⟨fun y => absurd y (by decide), fun y => by omega⟩, QC.rfl', rfl⟩
  refine ⟨(r, M1), ?_, hr⟩
  unfold F_X8_fittingSizes
  rw [e, ob_t, u2_t]
theorem agr_hs (hg : GdP g) (hd : GdS 999 g s) (hh : h < gH g) (hne : sWho s h ≠ nI u) (hv : bnd v 1 99) (hE : ∀ e, e ∈ E → e.2.1 ≤ 20) : agr g (hsS s u v) E h ↔ agr g s E h := by
  have l := fun n (hn : n < 50000) => (LcS.hs (v := v) hne hg).passN hg hd (hd.hs (u := u) hv) hh (by omega) (by omega) n hn
  constructor
  · intro z e he h1
    have := hE e he
    rw [← z e he h1]; exact (l e.2.1 (by omega)).2.2.2.2.1
  · intro z e he h1
    have := hE e he
    rw [← z e he h1]; exact ((l e.2.1 (by omega)).2.2.2.2.1).symm
theorem SeV.d20 (hs : SeV M 40 g E) : ∀ e, e ∈ E → e.2.1 ≤ 20 := fun e he => by
  obtain ⟨i, hi, ei⟩ := List.getElem_of_mem he
  exact (hs.2.2 i e (by rw [List.getElem?_eq_getElem hi, ei])).2.2.2.2.1
theorem SeV.h8 (hs : SeV M 40 g E) : ∀ e, e ∈ E → e.1 < gH g := fun e he => by
  obtain ⟨i, hi, ei⟩ := List.getElem_of_mem he
  exact (hs.2.2 i e (by rw [List.getElem?_eq_getElem hi, ei])).2.2.2.1
theorem fit_iff (hg : GdP g) (hd : GdS 999 g s) {z : Nat} (h1 : 1 ≤ z) (h6 : z ≤ 60) (hE : ∀ e, e ∈ E → e.2.1 ≤ 20) : fit g s E u z ↔ (∀ h, h < gH g → sWho s h ≠ nI u → agr g s E h) ∧ fz g s E u z := by
  have hv : bnd (nI z) 1 99 := by unfold bnd; rw [nI_toInt (by omega)]; omega
  constructor
  · rintro ⟨a, b⟩
    exact ⟨fun h hh hne => (agr_hs hg hd hh hne hv hE).mp (b h hh), a, fun h hh _ => b h hh⟩
  · rintro ⟨a, b, c⟩
    refine ⟨b, fun h hh => ?_⟩
    by_cases e : sWho s h = nI u
    · exact c h hh e
    · exact (agr_hs hg hd hh e hv hE).mpr (a h hh e)
/-- the sizes that fit, laid -/
def FX (g : Pg) (s : Sg) (E : List Se) (k : Nat) (M : Mem) : Prop := ∀ u, u < k → ∀ z, (tN (mL M 66 u)).testBit z = true ↔ 1 ≤ z ∧ z ≤ 60 ∧ fit g s E u z
end
