/-! ===== worn at the sill ===== -/
section
variable {M M' : Mem} {p u h n z d : Nat} {g : Pg} {s s' : Sg} {D : Int} {E : List Se}
theorem CQ.sillD (hd5 : nI d = 5) (hd : d ≤ 20) (c : CQ M p g s) (hu : u < gN g) (hh : h < gH g) (h1 : 1 ≤ z) (h6 : z ≤ 60) : ∃ M', F_X8_wornAtSill 0 (nI u) (nI z) (nI h) M = some (sWor (passN g d (hsS s u (nI z))) h, M') ∧ QC M M' ∧ mL M' = mL M := by
  have hv : bnd (nI z) 1 99 := by unfold bnd; rw [nI_toInt (by omega)]; omega
  obtain ⟨M1, e1, c1, w1, l1⟩ := c.copyL'
  obtain ⟨e2, c2, w2⟩ := c1.hs (u := u) (v := nI z) hu hv
  have lo := (loc_N c.gp c2.2.2 hh (by omega) d (by omega)).2.2.2.2.1
  obtain ⟨M3, e3, c3, w3, l3⟩ := loop_mm (step := fun y : Int32 × Mem => F_X8_wornAtSill_s24 0 (nI h) y.1 y.2) (fun i M' => (nI i, M')) (fun M' => M') d (fun i M' => CLa M' p g s (aloN g h (hsS s u (nI z)) i) (999 + i) ∧ QC M M' ∧ mL M' = mL M) (M := stI M1 35 u (nI z)) ⟨⟨c2.1, c2.2.1, c2.2.2.mono (by omega)⟩, w1.trans w2, l1⟩ (by
    rintro i M' hi ⟨c', w', l'⟩
    obtain ⟨M4, e4, c4, w4, l4⟩ := c'.alone' (d := dampS g (aloN g h (hsS s u (nI z)) i)) hh (c'.2.2.alone c'.1.gp hh (by omega))
    refine ⟨M4, ?_, ⟨c4.1, c4.2.1, c4.2.2.mono (by omega)⟩, w'.trans w4, l4.trans l'⟩
    unfold F_X8_wornAtSill_s24
    dsimp only
    rw [if_neg (show ¬ (5 : Int32) ≤ nI i by rw [← hd5]; exact nI_ge hi (by omega)), c'.1.pp, ob_t, Lp_0_5 c'.1.1, ob_t, ob_t, ob_t, c'.1.ck, c'.damp, ob_t, c'.1.ck, e4, ob_t, nI_1]) (by
    rintro M' ⟨c', w', l'⟩
    unfold F_X8_wornAtSill_s24
    dsimp only
    rw [if_pos (show (5 : Int32) ≤ nI d by rw [← hd5]; exact nI_le (Nat.le_refl _) (by omega))])
  refine ⟨M3, ?_, w3, l3⟩
  unfold F_X8_wornAtSill
  have e3' : loop (fun y : Int32 × Mem => F_X8_wornAtSill_s24 0 (nI h) y.1 y.2) ((0 : Int32), stI M1 35 u (nI z)) = some M3 := e3
  rw [Lp_0_5 c.1, ob_t, Lp_0_4 c.1, ob_t, Lc_31 c.1, e1, ob_t, Lp_0_5 c1.1.1, ob_t, Lp_31_6 c1.1.1, ob_t, e2, ob_t, e3', ob_t, Lp_0_5 c3.1.1, ob_t, Lp_31_4 c3.1.1, ob_t, c3.wor hh, ob_t, lo]
end
