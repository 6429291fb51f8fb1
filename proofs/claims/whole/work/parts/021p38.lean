theorem F_tick {M : Mem} {a : Nat} {g : Pg} {s : Sg} (hs : StV M a g s) : F_X2_passAlone_j28 a M = some (stI (stI M a 0 (sDay s + 1)) a 1 0) ∧ StV (stI (stI M a 0 (sDay s + 1)) a 1 0) a g (tickS s) ∧ Wr [a] M (stI (stI M a 0 (sDay s + 1)) a 1 0) := by
  have w0 : Wr [a] M (stI (stI M a 0 (sDay s + 1)) a 1 0) := (Wr.rfl'.st (by simp)).st (by simp)
  refine ⟨?_, ⟨hs.1.wr w0, ?_, ?_, ?_, fun k hk => ?_, fun k hk => ?_⟩, w0⟩
  · unfold F_X2_passAlone_j28
    rw [gI_t hs.1.1, ob_t, pI_t hs.1.1, ob_t, hs.2.1, pZ_t (Or.inl rfl) (M := stI M a 0 _) hs.1.1, ob_t]
  · rw [mI_steq, upg_ne (by omega), mI_steq, upg_eq]; rfl
  · rw [mI_steq, upg_eq]; rfl
  · rw [mI_steq, upg_ne (by omega), mI_steq, upg_ne (by omega)]; exact hs.2.2.2.1
  · rw [mI_stne (by omega), mI_stne (by omega), mI_stne (by omega), mI_stne (by omega), mI_stne (by omega), mI_stne (by omega)]; exact hs.2.2.2.2.1 k hk
  · rw [mI_stne (by omega), mI_stne (by omega), mI_stne (by omega), mI_stne (by omega), mI_stne (by omega), mI_stne (by omega)]; exact hs.2.2.2.2.2 k hk
theorem WL_st {p a k : Nat} (h : k ∈ [a]) : k ∈ WL p a := by simp at h; simp [WL, h]
theorem F_pass {M : Mem} {p a : Nat} {d : Int32} {g : Pg} {s : Sg} {B : Int} (hv : PlV M p g) (hs : StV M a g s) (hd : GdS B g s) (sep : p + 10 ≤ a) (ha : a + 7 ≤ NC) : ∃ M', F_X2_pass p a d M = some M' ∧ StV M' a g (dayS g d s) ∧ Wr (WL p a) M M' := by
  have hg := hv.2.1
  have g1 := hg.1
  have g2 := hg.2.1
  obtain ⟨M1, e1, hs1, w1⟩ := loop_ex (step := fun z : Int32 × Mem => F_X2_pass_s2 p a d z.1 z.2) (fun i z => ∃ M', z = (nI i, M') ∧ StV M' a g (wearN g d i s) ∧ Wr (WL p a) M M') (fun M' => StV M' a g (wearN g d (gH g) s) ∧ Wr (WL p a) M M') (gH g) (by
    rintro i z hi ⟨M', rfl, hs', w'⟩
    have hv' := hv.wr w' fun k hk => WL_in hk sep ha
    rcases Nat.lt_or_eq_of_le hi with hlt | heq
    · right
      obtain ⟨M2, f, hs2, w2⟩ := F_wear (d := d) hv' hs' (hd.wearN hg hi) sep ha hlt
      refine ⟨hlt, (nI (i + 1), M2), ?_, M2, rfl, hs2, w'.trans w2⟩
      unfold F_X2_pass_s2
      dsimp only
      rw [gI_t hv'.1.1, ob_t, hv'.2.2.1, if_neg (fun z => by rw [nI_leI (by omega) (by omega)] at z; omega), ckO_t hv'.1.1, f, ob_t, nI_1]
    · left
      subst heq
      refine ⟨M', ?_, hs', w'⟩
      unfold F_X2_pass_s2
      dsimp only
      rw [gI_t hv'.1.1, ob_t, hv'.2.2.1, if_pos (by rw [nI_leI (by omega) (by omega)]; exact Nat.le_refl _)]) (s := ((0 : Int32), M)) ⟨M, rfl, hs, Wr.rfl'⟩
  have hd1 := hd.wearN hg (d := d) (Nat.le_refl (gH g))
  have hv1 := hv.wr w1 fun k hk => WL_in hk sep ha
  obtain ⟨M2, e2, hs2, w2⟩ := loop_ex (step := fun z : Int32 × Mem => F_X2_pass_s25 p a z.1 z.2) (fun i z => ∃ M', z = (nI i, M') ∧ StV M' a g (growN g i (wearN g d (gH g) s)) ∧ Wr (WL p a) M1 M') (fun M' => StV M' a g (growN g (gN g) (wearN g d (gH g) s)) ∧ Wr (WL p a) M1 M') (gN g) (by
    rintro i z hi ⟨M', rfl, hs', w'⟩
    have hv' := hv1.wr w' fun k hk => WL_in hk sep ha
    rcases Nat.lt_or_eq_of_le hi with hlt | heq
    · right
      obtain ⟨M2, f, hs2, w2⟩ := F_grow hv' hs' hlt
      refine ⟨hlt, (nI (i + 1), M2), ?_, M2, rfl, hs2, w'.trans (w2.mono (by simp [WL]))⟩
      unfold F_X2_pass_s25
      dsimp only
      rw [gI_t hv'.1.1, ob_t, hv'.2.2.2.1, if_neg (fun z => by rw [nI_leI (by omega) (by omega)] at z; omega), ckO_t hv'.1.1, f, ob_t, nI_1]
    · left
      subst heq
      refine ⟨M', ?_, hs', w'⟩
      unfold F_X2_pass_s25
      dsimp only
      rw [gI_t hv'.1.1, ob_t, hv'.2.2.2.1, if_pos (by rw [nI_leI (by omega) (by omega)]; exact Nat.le_refl _)]) (s := ((0 : Int32), M1)) ⟨M1, rfl, hs1, Wr.rfl'⟩
  obtain ⟨f3, hs3, w3⟩ := F_tick hs2
  refine ⟨_, ?_, hs3, (w1.trans w2).trans (w3.mono fun k hk => WL_st hk)⟩
  unfold F_X2_pass
  rw [e1, ob_t, e2, ob_t]
  exact f3
/-- a day of one house alone -/
def aloneS (g : Pg) (s : Sg) (h : Nat) (d : Int32) : Sg := tickS (if sWho s h = -1 then wearS g s h d else growS g (wearS g s h d) (sWho s h).toNatClampNeg)
theorem F_alone {M : Mem} {p a h : Nat} {d : Int32} {g : Pg} {s : Sg} {B : Int} (hv : PlV M p g) (hs : StV M a g s) (hd : GdS B g s) (sep : p + 10 ≤ a) (ha : a + 7 ≤ NC) (hh : h < gH g) : ∃ M', F_X2_passAlone p a (nI h) d M = some M' ∧ StV M' a g (aloneS g s h d) ∧ Wr (WL p a) M M' := by
  have hg := hv.2.1
  have h8 := hg.h8 hh
  obtain ⟨M1, e1, hs1, w1⟩ := F_wear (d := d) hv hs hd sep ha hh
  have hv1 := hv.wr w1 fun k hk => WL_in hk sep ha
  unfold F_X2_passAlone aloneS
  rw [gP_t hs.1.1 hs.1.2.2.2.1.2, ob_t, aI_t hs.1.2.2.2.1.1 h8 (by omega), ob_t, (hs.2.2.2.2.1 h hh).2.2, ckO_t hv.1.1, e1, ob_t]
  by_cases hw : sWho s h = -1
  · rw [if_pos hw, if_pos hw]
    obtain ⟨f3, hs3, w3⟩ := F_tick hs1
    exact ⟨_, f3, hs3, w1.trans (w3.mono fun k hk => WL_st hk)⟩
  · rw [if_neg hw, if_neg hw]
    obtain ⟨q, hq, e, -⟩ := hd.who hh hw
    have q8 := hg.p8 hq
    rw [e, nI_clamp (by omega), ckO_t hv1.1.1]
    obtain ⟨M2, f, hs2, w2⟩ := F_grow hv1 hs1 hq
    rw [f, ob_t]
    obtain ⟨f3, hs3, w3⟩ := F_tick hs2
    exact ⟨_, f3, hs3, (w1.trans (w2.mono (by simp [WL]))).trans (w3.mono fun k hk => WL_st hk)⟩
/-- all of a state into another -/
def WC (a : Nat) : List Nat := [a, a + 1, a + 2, a + 3, a + 4, a + 5, a + 6]
theorem F_copy {M : Mem} {a b : Nat} {g : Pg} {s : Sg} {B : Int} (ho : StO M a) (hs : StV M b g s) (hd : GdS B g s) (hg : GdP g) (sep : a + 7 ≤ b ∨ b + 7 ≤ a) : ∃ M', F_X6_copy a b M = some M' ∧ StV M' a g s ∧ Wr (WC a) M M' := by
  obtain ⟨t0, ⟨t1, q1⟩, ⟨t2, q2⟩, ⟨t3, q3⟩, ⟨t4, q4⟩, ⟨t5, q5⟩, ⟨t6, q6⟩⟩ := ho
  obtain ⟨⟨u0, ⟨u1, r1⟩, ⟨u2, r2⟩, ⟨u3, r3⟩, ⟨u4, r4⟩, ⟨u5, r5⟩, ⟨u6, r6⟩⟩, h2, h3, h4, h5, h6⟩ := hs
  have g1 := hg.1
  have g2 := hg.2.1
  have hw : mI M b 1 = 0 ∨ mI M b 1 = 1 := by rw [h3]; exact hd.2.1
  unfold F_X6_copy
  have z1 : ∀ N : Mem, Wr (WC a) M N → N.1 = M.1 ∧ mP N = mP M ∧ ∀ j, j < 7 → mI N (b + j) = mI M (b + j) := fun N w => ⟨w.1, w.2.2.1, fun j hj => w.2.2.2.2 _ (by simp [WC]; omega)⟩
  rw [gI_t u0, ob_t, pI_t t0, ob_t, gI_stne (by omega), gI_t u0, ob_t, pZ_t (M := stI M a 0 _) hw t0, ob_t, gI_stne (by omega), gI_stne (by omega), gI_t u0, ob_t, pI_t (M := stI (stI M a 0 _) a 1 _) t0, ob_t]
  simp only [gP_st, gP_t u0 r1, gP_t u0 r2, gP_t u0 r3, gP_t u0 r4, gP_t u0 r5, gP_t u0 r6, gP_t t0 q1, ob_t]
  generalize hM1 : stI (stI (stI M a 0 (mI M b 0)) a 1 (mI M b 1)) a 2 (mI M b 2) = M1
  have w1 : Wr [a] M M1 := by rw [← hM1]; exact ((Wr.rfl'.st (by simp)).st (by simp)).st (by simp)
  have gR : ∀ (N : Mem) (c : Nat) (f : Nat → Int32) (ci k j : Nat), gP (stR N c f) ci k j = gP N ci k j := fun _ _ _ _ _ _ => rfl
  have tR : ∀ (N : Mem) (c : Nat) (f : Nat → Int32), (stR N c f).1 = N.1 := fun _ _ _ => rfl
  have cp : ∀ (N : Mem) (x y : Nat), N.1 = M.1 → M.1[x]? = some (100, 8) → M.1[y]? = some (100, 8) → cpI N x 0 y 0 8 = some (stR N y (va_cpy (mI N x) (mI N y) 0 0 8)) := fun N x y e hx hy => cpI_8 (by rw [e]; exact hx) (by rw [e]; exact hy)
  rw [cp M1 (b + 1) (a + 1) w1.1 u1 t1, ob_t]
  simp only [gR, wr_gP w1, gP_t u0 r2, gP_t t0 q2, ob_t]
  rw [cp _ (b + 2) (a + 2) (by rw [tR]; exact w1.1) u2 t2, ob_t]
  simp only [gR, wr_gP w1, gP_t u0 r3, gP_t t0 q3, ob_t]
  rw [cp _ (b + 3) (a + 3) (by rw [tR, tR]; exact w1.1) u3 t3, ob_t]
  simp only [gR, wr_gP w1, gP_t u0 r4, gP_t t0 q4, ob_t]
  rw [cp _ (b + 4) (a + 4) (by rw [tR, tR, tR]; exact w1.1) u4 t4, ob_t]
  simp only [gR, wr_gP w1, gP_t u0 r5, gP_t t0 q5, ob_t]
  rw [cp _ (b + 5) (a + 5) (by rw [tR, tR, tR, tR]; exact w1.1) u5 t5, ob_t]
  simp only [gR, wr_gP w1, gP_t u0 r6, gP_t t0 q6, ob_t]
  rw [cp _ (b + 6) (a + 6) (by rw [tR, tR, tR, tR, tR]; exact w1.1) u6 t6, ob_t]
  have hb : ∀ j, j < 7 → mI M1 (b + j) = mI M (b + j) := fun j hj => w1.2.2.2.2 _ (by simp; omega)
  refine ⟨_, rfl, ⟨?_, ?_, ?_, ?_, fun k hk => ⟨?_, ?_, ?_⟩, fun k hk => ⟨?_, ?_, ?_⟩⟩, ((((((w1.mono (by simp [WC])).stR (by simp [WC])).stR (by simp [WC])).stR (by simp [WC])).stR (by simp [WC])).stR (by simp [WC])).stR (by simp [WC])⟩
  · exact StO.wr ⟨t0, ⟨t1, q1⟩, ⟨t2, q2⟩, ⟨t3, q3⟩, ⟨t4, q4⟩, ⟨t5, q5⟩, ⟨t6, q6⟩⟩ (((((((w1.mono (by simp [WC])).stR (by simp [WC])).stR (by simp [WC])).stR (by simp [WC])).stR (by simp [WC])).stR (by simp [WC])).stR (by simp [WC]) : Wr (WC a) M _)
  · repeat rw [mI_stRne (by omega)]
    rw [← hM1, mI_steq, upg_ne (by omega), mI_steq, upg_ne (by omega), mI_steq, upg_eq]; exact h2
  · repeat rw [mI_stRne (by omega)]
    rw [← hM1, mI_steq, upg_ne (by omega), mI_steq, upg_eq]; exact h3
  · repeat rw [mI_stRne (by omega)]
    rw [← hM1, mI_steq, upg_eq]; exact h4
  · repeat rw [mI_stRne (by omega)]
    rw [mI_stReq, cpy_lt (by omega)]
    repeat rw [mI_stRne (by omega)]
    rw [hb 1 (by omega)]; exact (h5 k hk).1
  · repeat rw [mI_stRne (by omega)]
    rw [mI_stReq, cpy_lt (by omega)]
    repeat rw [mI_stRne (by omega)]
    rw [hb 2 (by omega)]; exact (h5 k hk).2.1
  · repeat rw [mI_stRne (by omega)]
    rw [mI_stReq, cpy_lt (by omega)]
    repeat rw [mI_stRne (by omega)]
    rw [hb 3 (by omega)]; exact (h5 k hk).2.2
  · repeat rw [mI_stRne (by omega)]
    rw [mI_stReq, cpy_lt (by omega)]
    repeat rw [mI_stRne (by omega)]
    rw [hb 4 (by omega)]; exact (h6 k hk).1
  · repeat rw [mI_stRne (by omega)]
    rw [mI_stReq, cpy_lt (by omega)]
    repeat rw [mI_stRne (by omega)]
    rw [hb 5 (by omega)]; exact (h6 k hk).2.1
  · rw [mI_stReq, cpy_lt (by omega)]
    repeat rw [mI_stRne (by omega)]
    rw [hb 6 (by omega)]; exact (h6 k hk).2.2
