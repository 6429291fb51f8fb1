/-! ===== the sill to feel next: the class ===== -/
section
variable {M M' : Mem} {p u h n z d i : Nat} {g : Pg} {s s' : Sg} {D : Int} {E : List Se}
def tk (g : Pg) (s : Sg) (E : List Se) (h i v : Nat) : Prop := v < 100 ∧ ∃ j, j < i ∧ fiB g s E j = true ∧ wsU g s (j / 60) (j % 60 + 1) h = nI v
noncomputable def tkB (g : Pg) (s : Sg) (E : List Se) (h i v : Nat) : Bool := by classical exact decide (tk g s E h i v)
theorem tkB_i {v : Nat} : tkB g s E h i v = true ↔ tk g s E h i v := by unfold tkB; simp
theorem tk_s {v : Nat} : tk g s E h (60 * (u + 1)) v ↔ tk g s E h (60 * u) v ∨ ∃ z, 1 ≤ z ∧ z ≤ 60 ∧ fit g s E u z ∧ v < 100 ∧ wsU g s u z h = nI v := by
  constructor
  · rintro ⟨a, j, b, c, d⟩
    by_cases e : j < 60 * u
    · exact Or.inl ⟨a, j, e, c, d⟩
    · refine Or.inr ⟨j % 60 + 1, by omega, by omega, ?_, a, ?_⟩
      · have := fiB_i.mp c
        rw [show j / 60 = u by omega] at this; exact this
      · rw [show j / 60 = u by omega] at d; exact d
  · rintro (⟨a, j, b, c⟩ | ⟨z, a, b, c, d, e⟩)
    · exact ⟨a, j, by omega, c⟩
    · refine ⟨d, 60 * u + (z - 1), by omega, fiB_i.mpr ?_, ?_⟩
      · rw [show (60 * u + (z - 1)) / 60 = u by omega, show (60 * u + (z - 1)) % 60 + 1 = z by omega]; exact c
      · rw [show (60 * u + (z - 1)) / 60 = u by omega, show (60 * u + (z - 1)) % 60 + 1 = z by omega]; exact e
theorem CQ.unlike (c : CQ M p g s) (x : FX g s E (gN g) M) (hh : h < gH g) : ∃ M', F_X8_unlikeWorn 0 (nI h) M = some (nI (cnt (tkB g s E h (60 * gN g)) 100), M') ∧ QC M M' ∧ mL M' = mL M := by
  have g1 := c.gp.1
  have g2 := c.gp.2.1
  obtain ⟨⟨a, b, M1⟩, e1, l1, w1, m1⟩ := loop_ex (step := fun y : Int64 × Int64 × Int32 × Mem => F_X8_unlikeWorn_s8 0 (nI h) y.1 y.2.1 y.2.2.1 y.2.2.2) (fun u y => y.2.2.1 = nI u ∧ LH y.1 y.2.1 (tk g s E h (60 * u)) ∧ QC M y.2.2.2 ∧ mL y.2.2.2 = mL M) (fun r => LH r.1 r.2.1 (tk g s E h (60 * gN g)) ∧ QC M r.2.2 ∧ mL r.2.2 = mL M) (gN g) (by
    rintro u ⟨a, b, j, M1⟩ hu ⟨z1, l1, w1, m1⟩
    dsimp only at z1 l1 w1 m1
    subst z1
    have c1 := c.c w1
    unfold F_X8_unlikeWorn_s8
    dsimp only
    rw [c1.pp, ob_t, c1.nN, ob_t]
    by_cases e : u = gN g
    · subst e
      rw [if_pos (nI_le (Nat.le_refl _) (by omega))]
      exact Or.inl ⟨_, rfl, l1, w1, m1⟩
    · have hu' : u < gN g := by omega
      refine Or.inr ⟨hu', ?_⟩
      have al : aL M1 66 (nI u) = some (mL M1 66 u) := aL_t (c1.1.t (k := 66) rfl) (show u < 8 by omega) (by omega)
      have xu := x u hu'
      rw [← m1] at xu
      rw [if_neg (nI_ge hu' (by omega)), Lp_0_4 c1.1, ob_t, Lp_24_7 c1.1, ob_t, c1.whe hu', ob_t]
      by_cases q : wheS g s u = nI h
      · obtain ⟨⟨a2, b2, M2⟩, e2, l2, w2, m2⟩ := c1.s65 (S := mL M1 66 u) hu' hh l1
        dsimp only at l2 w2 m2
        rw [if_pos q, Lp_0_15 c1.1, ob_t, al, ob_t, e2, ob_t, u3_t, nI_1]
        refine ⟨_, rfl, rfl, l2.c fun v => ?_, w1.trans w2, m2.trans m1⟩
        rw [tk_s]
        refine ⟨fun y => y.imp id fun ⟨z, z1, z2, z3, z4⟩ => ⟨z, z1, z2, ((xu z).mp z3).2.2, z4⟩, fun y => y.imp id fun ⟨z, z1, z2, z3, z4⟩ => ⟨z, z1, z2, (xu z).mpr ⟨z1, z2, z3⟩, z4⟩⟩
      · obtain ⟨⟨a2, b2, M2⟩, e2, l2, w2, m2⟩ := c1.s65 (S := mL M1 66 u &&& -(mL M1 66 u)) hu' hh l1
        dsimp only at l2 w2 m2
        have ne : sWho s h ≠ nI u := fun z => by
          rcases whe_case (u := u) c.gp c.gd with ⟨-, y0⟩ | ⟨k, hk, y1, y2⟩
          · exact y0 h hh z
          · have : h = k := c.gd.2.2.2.2.1 h k hh hk (z.trans y2.symm) (by rw [z]; exact nI_nm1 (by omega))
            subst this; exact q y1
        rw [if_neg q, Lp_0_15 c1.1, ob_t, al, ob_t, ob_t, al, ob_t, e2, ob_t, u3_t, nI_1]
        refine ⟨_, rfl, rfl, l2.c fun v => ?_, w1.trans w2, m2.trans m1⟩
        rw [tk_s]
        refine ⟨fun y => y.imp id fun ⟨z, z1, z2, z3, z4⟩ => ⟨z, z1, z2, ((xu z).mp ?_).2.2, z4⟩, fun y => y.imp id fun ⟨z, z1, z2, z3, z4, z5⟩ => ?_⟩
        · rw [tN_and, Nat.testBit_and, Bool.and_eq_true] at z3; exact z3.1
        · obtain ⟨k, hk⟩ := low_ex z ((xu z).mpr ⟨z1, z2, z3⟩)
          have hk' := hk
          rw [tN_and, Nat.testBit_and, Bool.and_eq_true] at hk'
          obtain ⟨k1, k2, -⟩ := (xu k).mp hk'.1
          exact ⟨k, k1, k2, hk, z4, by rw [ws_loc c.gp c.gd hh k1 k2 ne, ← ws_loc c.gp c.gd hh z1 z2 ne]; exact z5⟩) (s := ((0 : Int64), (0 : Int64), (0 : Int32), M)) ⟨rfl, ⟨fun k => by
        rw [show tN (0 : Int64) = 0 from rfl, Nat.zero_testBit]
        exact ⟨fun y => (by cases y), fun ⟨_, _, j, y, _⟩ => (by omega)⟩, fun k => by
        rw [show tN (0 : Int64) = 0 from rfl, Nat.zero_testBit]
        exact ⟨fun y => (by cases y), fun ⟨_, _, j, y, _⟩ => (by omega)⟩⟩, QC.rfl', rfl⟩
  dsimp only at l1 w1 m1
  refine ⟨M1, ?_, w1, m1⟩
  unfold F_X8_unlikeWorn
  rw [e1, ob_t, u3_t, F_bitc, ob_t, F_bitc, ob_t, nI_add, (l1.c (P' := fun v => tkB g s E h (60 * gN g) v = true) fun v => tkB_i.symm).count]
def bsN (d : Nat → Nat) : Nat → Int32 × Int32 := itN (fun h a => if a.2 < nI (d h) then (nI h, nI (d h)) else a) (-1, 0)
theorem bsN_s {d : Nat → Nat} {h : Nat} : bsN d (h + 1) = if (bsN d h).2 < nI (d h) then (nI h, nI (d h)) else bsN d h := rfl
theorem CQ.nextL (c : CQ M p g s) (x : FX g s E (gN g) M) : ∃ M', loop (fun y : Int32 × Int32 × Int32 × Mem => F_X8_next_s16 0 y.1 y.2.1 y.2.2.1 y.2.2.2) ((-1 : Int32), (0 : Int32), (0 : Int32), M) = some ((bsN (fun h => cnt (tkB g s E h (60 * gN g)) 100) (gH g)).1, (bsN (fun h => cnt (tkB g s E h (60 * gN g)) 100) (gH g)).2, M') ∧ QC M M' := by
  have g1 := c.gp.1
  obtain ⟨⟨a, b, M1⟩, e1, r1, r2, w1, m1⟩ := loop_ex (step := fun y : Int32 × Int32 × Int32 × Mem => F_X8_next_s16 0 y.1 y.2.1 y.2.2.1 y.2.2.2) (fun h y => y.2.2.1 = nI h ∧ (y.1, y.2.1) = bsN (fun h => cnt (tkB g s E h (60 * gN g)) 100) h ∧ QC M y.2.2.2 ∧ mL y.2.2.2 = mL M) (fun r => r.1 = (bsN (fun h => cnt (tkB g s E h (60 * gN g)) 100) (gH g)).1 ∧ r.2.1 = (bsN (fun h => cnt (tkB g s E h (60 * gN g)) 100) (gH g)).2 ∧ QC M r.2.2 ∧ mL r.2.2 = mL M) (gH g) (by
    rintro h ⟨a, b, j, M1⟩ hh ⟨z1, z2, w1, m1⟩
    dsimp only at z1 z2 w1 m1
    subst z1
    have c1 := c.c w1
    unfold F_X8_next_s16
    dsimp only
    rw [c1.pp, ob_t, c1.nH, ob_t]
    by_cases e : h = gH g
    · subst e
      rw [if_pos (nI_le (Nat.le_refl _) (by omega))]
      exact Or.inl ⟨_, rfl, by rw [← z2], by rw [← z2], w1, m1⟩
    · have hh' : h < gH g := by omega
      refine Or.inr ⟨hh', ?_⟩
      obtain ⟨M2, e2, w2, m2⟩ := c1.unlike (E := E) (h := h) (fun u hu z => by rw [m1]; exact x u hu z) hh'
      rw [if_neg (nI_ge hh' (by omega)), Lc_0 c1.1, e2, bd2_t, nI_1]
      have bs := bsN_s (d := fun h => cnt (tkB g s E h (60 * gN g)) 100) (h := h)
      rw [← z2] at bs
      dsimp only at bs
      by_cases q : nI (cnt (tkB g s E h (60 * gN g)) 100) ≤ b
      · rw [if_pos q]
        rw [if_neg (Int32.not_lt.mpr q)] at bs
        exact ⟨_, rfl, rfl, bs.symm, w1.trans w2, m2.trans m1⟩
      · rw [if_neg q]
        rw [if_pos (Int32.not_le.mp q)] at bs
        exact ⟨_, rfl, rfl, bs.symm, w1.trans w2, m2.trans m1⟩) (s := ((-1 : Int32), (0 : Int32), (0 : Int32), M)) ⟨rfl, rfl, QC.rfl', rfl⟩
  dsimp only at r1 r2 w1
  exact ⟨M1, by rw [e1, r1, r2], w1⟩
end
