/-! ===== the houses that agree; who could be how large ===== -/
section
variable {M M' : Mem} {p u h n : Nat} {g : Pg} {s s' : Sg} {D : Int} {E : List Se} {v : Int32}
noncomputable def agM (g : Pg) (s : Sg) (E : List Se) : Int32 := itN (fun h a => if agI g s E h = 0 then a else a ||| one h) 0 (gH g)
theorem agI_0 : agI g s E h = 0 ↔ ¬ agr g s E h := by
  by_cases z : agr g s E h
  · rw [agI_y z]; exact ⟨fun y => absurd y (by decide), fun y => absurd z y⟩
  · rw [agI_n z]; exact ⟨fun _ => z, fun _ => rfl⟩
theorem ag_bit (hg : GdP g) (k : Nat) : bitI (agM g s E) k = true ↔ k < gH g ∧ agr g s E k := by
  have g1 := hg.1
  exact bits_row (P := fun k => agr g s E k) (f := fun h a => if agI g s E h = 0 then a else a ||| one h) (by omega) (fun i a _ z => if_neg (fun y => agI_0.mp y z)) (fun i a _ z => if_pos (agI_0.mpr z)) k
theorem CQ.agreeing (c : CQ M p g s) (hs : SeV M 40 g E) : ∃ M', F_X8_agreeingHouses 0 M = some (agM g s E, M') ∧ QC M M' ∧ mL M' = mL M := by
  have g1 := c.gp.1
  obtain ⟨M2, e2, w2⟩ := loop_q (step := fun z : Int32 × Int32 × Mem => F_X8_agreeingHouses_s4 0 z.1 z.2.1 z.2.2) (fun i a M' => (a, nI i, M')) (fun a M' => (a, M')) (fun h a => if agI g s E h = 0 then a else a ||| one h) 0 (gH g) (fun _ M' => QC M M' ∧ mL M' = mL M) (M := M) ⟨QC.rfl', rfl⟩ (by
    rintro i M' hi ⟨w', l'⟩
    have c' := c.c w'
    obtain ⟨M3, e3, c3, w3, l3⟩ := c'.copyL'
    obtain ⟨M4, e4, w4, l4⟩ := c3.agrees (E := E) ((hs.qc w').qc w3) hi (by omega)
    refine ⟨M4, ?_, (w'.trans w3).trans w4, l4.trans (l3.trans l')⟩
    generalize itN (fun h a => if agI g s E h = 0 then a else a ||| one h) 0 i = a
    unfold F_X8_agreeingHouses_s4
    dsimp only
    rw [c'.pp, ob_t, c'.nH, ob_t, if_neg (nI_ge hi (show gH g < 2 ^ 31 by omega)), Lp_0_5 c'.1, ob_t, Lp_0_4 c'.1, ob_t, Lc_31 c'.1, e3, ob_t, Lc_0 c3.1.1, e4, bd2_t, nm_t, nI_1]
    split <;> rfl) (by
    rintro M' ⟨w', -⟩
    have c' := c.c w'
    unfold F_X8_agreeingHouses_s4
    dsimp only
    rw [c'.pp, ob_t, c'.nH, ob_t, if_pos (nI_le (Nat.le_refl (gH g)) (show gH g < 2 ^ 31 by omega))])
  refine ⟨M2, ?_, w2⟩
  unfold F_X8_agreeingHouses
  have e2' : loop (fun z : Int32 × Int32 × Mem => F_X8_agreeingHouses_s4 0 z.1 z.2.1 z.2.2) ((0 : Int32), (0 : Int32), M) = _ := e2
  rw [e2', ob_t, u2_t]
  rfl
theorem CQ.allH (c : CQ M p g s) : F_X8_allHouses 0 M = some (nI (2 ^ gH g - 1)) := by
  unfold F_X8_allHouses
  rw [c.pp, ob_t, c.nH, ob_t, (ms_7 (gH g) c.gp.1).2.2]
theorem al_bit : ∀ H, H ≤ 8 → ∀ k, k < 32 → bitI (nI (2 ^ H - 1)) k = decide (k < H) := by decide +kernel
/-- fits: larger or smaller than told, and all that is seen will be so -/
def fit (g : Pg) (s : Sg) (E : List Se) (u z : Nat) : Prop := sHee s u ≠ nI z ∧ ∀ h, h < gH g → agr g (hsS s u (nI z)) E h
end
