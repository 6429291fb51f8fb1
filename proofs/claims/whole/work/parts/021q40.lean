/-! ===== the sizes that fit are found ===== -/
section
variable {M M' : Mem} {p u h n : Nat} {g : Pg} {s s' : Sg} {D : Int} {E : List Se} {v : Int32}
theorem and_eq {a t : Int32} : a &&& t = t ↔ ∀ k, bitI t k = true → bitI a k = true := by
  constructor
  · intro z k hk
    rw [← z, bit_and, Bool.and_eq_true] at hk; exact hk.1
  · intro z
    refine bit_eqT fun k => ?_
    rw [bit_and, Bool.and_eq_true]
    exact ⟨fun y => y.2, fun y => ⟨z k y, y⟩⟩
theorem al_b (hg : GdP g) (k : Nat) : bitI (nI (2 ^ gH g - 1)) k = true ↔ k < gH g := by
  have g1 := hg.1
  by_cases h : k < 32
  · rw [al_bit (gH g) g1 k h, decide_eq_true_iff]
  · rw [bit_big (by omega)]; constructor
    · intro y; cases y
    · intro y; omega
theorem CQ.find1 (c : CQ M p g s) (hs : SeV M 40 g E) (hu : u < gN g) (hx : FX g s E u M) : ∃ M', F_X8_findFitting_s7 0 (agM g s E) (nI u) M = some (.inl (nI (u + 1), M')) ∧ QC M M' ∧ FX g s E (u + 1) M' := by
  have g1 := c.gp.1
  have g2 := c.gp.2.1
  obtain ⟨⟨r, M1⟩, e1, r1, w1, l1⟩ := c.fitting hs hu
  dsimp only at r1 w1 l1
  have c1 := c.c w1
  have key : ∀ t : Int32, (agM g s E &&& t = t ↔ ∀ h, h < gH g → sWho s h ≠ nI u → agr g s E h) → ∃ M', F_X8_findFitting_j50_7 0 (agM g s E) (nI u) (wheS g s u) t M = some (.inl (nI (u + 1), M')) ∧ QC M M' ∧ FX g s E (u + 1) M' := fun t ht => by
    unfold F_X8_findFitting_j50_7
    rw [Lp_0_15 c.1, ob_t]
    by_cases z : agM g s E &&& t = t
    · rw [if_pos z, Lc_0 c.1, e1, bd2_t, sL_t (c1.1.t (k := 66) rfl) (show u < 8 by omega) (by omega), ob_t, nI_1]
      refine ⟨_, rfl, w1.stL, fun q hq k => ?_⟩
      rw [mL_stL]
      by_cases e : q = u
      · subst e
        rw [if_pos ⟨rfl, rfl⟩, r1 k]
        constructor
        · rintro ⟨y1, y2, y3⟩; exact ⟨y1, y2, (fit_iff c.gp c.gd y1 y2 hs.d20).mpr ⟨ht.mp z, y3⟩⟩
        · rintro ⟨y1, y2, y3⟩; exact ⟨y1, y2, ((fit_iff c.gp c.gd y1 y2 hs.d20).mp y3).2⟩
      · rw [if_neg (fun y => e y.2), l1]; exact hx q (by omega) k
    · rw [if_neg z, sL_t (c.1.t (k := 66) rfl) (show u < 8 by omega) (by omega), ob_t, nI_1]
      refine ⟨_, rfl, QC.rfl'.stL, fun q hq k => ?_⟩
      rw [mL_stL]
      by_cases e : q = u
      · subst e
        rw [if_pos ⟨rfl, rfl⟩, show tN (0 : Int64) = 0 from rfl, Nat.zero_testBit]
        constructor
        · intro y; cases y
        · rintro ⟨y1, y2, y3⟩; exact absurd (ht.mpr ((fit_iff c.gp c.gd y1 y2 hs.d20).mp y3).1) z
      · rw [if_neg (fun y => e y.2)]; exact hx q (by omega) k
  unfold F_X8_findFitting_s7
  rw [c.pp, ob_t, c.nN, ob_t, if_neg (nI_ge hu (show gN g < 2 ^ 31 by omega)), Lp_0_4 c.1, ob_t, Lp_24_7 c.1, ob_t, c.whe hu, ob_t]
  rcases whe_case (u := u) c.gp c.gd with ⟨y, y0⟩ | ⟨k, hk, y1, y2⟩
  · rw [if_pos y, Lc_0 c.1, c.allH, ob_t]
    refine key _ ?_
    rw [and_eq]
    exact ⟨fun z h hh _ => ((ag_bit c.gp h).mp (z h ((al_b c.gp h).mpr hh))).2, fun z h hh => (ag_bit c.gp h).mpr ⟨(al_b c.gp h).mp hh, z h ((al_b c.gp h).mp hh) (y0 h ((al_b c.gp h).mp hh))⟩⟩
  · have only : ∀ h, h < gH g → sWho s h = nI u → h = k := fun h hh z => c.gd.2.2.2.2.1 h k hh hk (z.trans y2.symm) (by rw [z]; exact nI_nm1 (by omega))
    rw [if_neg (by rw [y1]; exact nI_nm1 (by omega)), Lc_0 c.1, c.allH, ob_t]
    refine key _ ?_
    rw [y1, and_eq]
    have tb : ∀ h, bitI (nI (2 ^ gH g - 1) &&& (((1 : Int32) <<< (nI k &&& 31)) ^^^ -1)) h = true ↔ h < gH g ∧ h ≠ k := fun h => by
      rw [bit_and, Bool.and_eq_true, al_b c.gp]
      constructor
      · rintro ⟨a, b⟩
        refine ⟨a, fun e => ?_⟩
        have b' : bitI (one k ^^^ -1) h = true := b
        rw [bit_not (by omega), bit_one (by omega), decide_eq_true e] at b'
        cases b'
      · rintro ⟨a, b⟩
        refine ⟨a, ?_⟩
        show bitI (one k ^^^ -1) h = true
        rw [bit_not (by omega), bit_one (by omega), decide_eq_false b]; rfl
    constructor
    · intro z h hh hne
      exact ((ag_bit c.gp h).mp (z h ((tb h).mpr ⟨hh, fun e => hne (by rw [e]; exact y2)⟩))).2
    · intro z h hh
      have := (tb h).mp hh
      exact (ag_bit c.gp h).mpr ⟨this.1, z h this.1 fun e => this.2 (only h this.1 e)⟩
theorem CQ.find (c : CQ M p g s) (hs : SeV M 40 g E) : ∃ M', F_X8_findFitting 0 M = some M' ∧ QC M M' ∧ FX g s E (gN g) M' := by
  have g2 := c.gp.2.1
  obtain ⟨M1, e1, w1, -⟩ := c.agreeing hs
  have c1 := c.c w1
  obtain ⟨M2, e2, w2, x2⟩ := loop_mm (step := fun z : Int32 × Mem => F_X8_findFitting_s7 0 (agM g s E) z.1 z.2) (fun i M' => (nI i, M')) (fun M' => M') (gN g) (fun i M' => QC M M' ∧ FX g s E i M') (M := M1) ⟨w1, fun u hu => by omega⟩ (by
    rintro i M' hi ⟨w', x'⟩
    obtain ⟨M3, e3, w3, x3⟩ := (c.c w').find1 (hs.qc w') hi x'
    exact ⟨M3, e3, w'.trans w3, x3⟩) (by
    rintro M' ⟨w', -⟩
    have c' := c.c w'
    unfold F_X8_findFitting_s7
    dsimp only
    rw [c'.pp, ob_t, c'.nN, ob_t, if_pos (nI_le (Nat.le_refl (gN g)) (show gN g < 2 ^ 31 by omega))])
  refine ⟨M2, ?_, w2, x2⟩
  unfold F_X8_findFitting
  have e2' : loop (fun z : Int32 × Mem => F_X8_findFitting_s7 0 (agM g s E) z.1 z.2) ((0 : Int32), M1) = _ := e2
  rw [Lc_0 c.1, e1, bd2_t, e2', ob_t]
end
