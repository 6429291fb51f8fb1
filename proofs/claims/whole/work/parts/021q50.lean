/-! ===== how large one could be ===== -/
section
variable {M M' : Mem} {p u h n : Nat} {g : Pg} {s s' : Sg} {D : Int} {E : List Se}
def frR (g : Pg) (s : Sg) (E : List Se) (i : Nat) (x : Int32) : Prop := (x = -1 ∧ ∀ j, j < i → fiB g s E j = false) ∨ ∃ j, j < i ∧ fiB g s E j = true ∧ (∀ k, k < j → fiB g s E k = false) ∧ x = nI (100 * (j / 60) + j % 60 + 1)
theorem frR.uniq {i : Nat} {x y : Int32} (a : frR g s E i x) (b : frR g s E i y) : x = y := by
  rcases a with ⟨a1, a2⟩ | ⟨j, a1, a2, a3, a4⟩
  · rcases b with ⟨b1, -⟩ | ⟨k, b1, b2, -, -⟩
    · rw [a1, b1]
    · rw [a2 k b1] at b2; cases b2
  · rcases b with ⟨-, b2⟩ | ⟨k, b1, b2, b3, b4⟩
    · rw [b2 j a1] at a2; cases a2
    · have : j = k := by
        by_cases c : j < k
        · rw [b3 j c] at a2; cases a2
        · by_cases d : k < j
          · rw [a3 k d] at b2; cases b2
          · omega
      subst this; rw [a4, b4]
theorem MZu.largeL (m : MZu M g s) (hs : SeM M (mI M 67 51) 91 E) (hE : ∀ e, e ∈ E → e.1 < gH g ∧ e.2.1 ≤ 20) : ∃ r, loop (fun z : Int32 × Int32 × Int32 × Mem => F_X9_large_s45 67 z.1 z.2.1 z.2.2.1 z.2.2.2) ((0 : Int32), (-1 : Int32), (0 : Int32), M) = some r ∧ r.1 = nI (cnt (fiB g s E) (60 * gN g)) ∧ frR g s E (60 * gN g) r.2.1 ∧ MZu r.2.2 g s ∧ QW M r.2.2 := by
  have g2 := m.b.gp.2.1
  refine loop_ex (step := fun z : Int32 × Int32 × Int32 × Mem => F_X9_large_s45 67 z.1 z.2.1 z.2.2.1 z.2.2.2) (fun i z => z.1 = nI (cnt (fiB g s E) i) ∧ frR g s E i z.2.1 ∧ z.2.2.1 = nI i ∧ MZu z.2.2.2 g s ∧ QW M z.2.2.2) _ (60 * gN g) ?_ ⟨rfl, Or.inl ⟨rfl, fun j hj => by omega⟩, rfl, m, QW.rfl'⟩
  rintro i ⟨a, x, j, M1⟩ hi ⟨z1, z2, z3, m1, w1⟩
  dsimp only at z1 z2 z3 m1 w1
  subst z1 z3
  unfold F_X9_large_s45
  dsimp only
  rw [m1.b.nN, ob_t, show (60 : Int32) * nI (gN g) = nI (60 * gN g) from nI_mul (a := 60)]
  by_cases c : i = 60 * gN g
  · subst c
    rw [if_pos (nI_le (Nat.le_refl _) (by omega))]
    exact Or.inl ⟨_, rfl, rfl, z2, m1, w1⟩
  · have hi' : i < 60 * gN g := by omega
    refine Or.inr ⟨hi', ?_⟩
    obtain ⟨⟨r, M2⟩, e2, m2, w2, -, h2⟩ := M_guess (u := i / 60) (w := i % 60) m1 (hs.qw w1) hE (by omega) (by omega)
    dsimp only at m2 w2 h2
    rw [show 60 * (i / 60) + i % 60 = i by omega] at e2
    have ce : cnt (fiB g s E) (i + 1) = if fiB g s E i = true then cnt (fiB g s E) i + 1 else cnt (fiB g s E) i := rfl
    rw [if_neg (nI_ge hi' (by omega)), Lc_67 m1.lay, e2, bd2_t, nI_1]
    rcases h2 with ⟨y1, y2, -⟩ | ⟨y1, y2⟩
    · have f1 : fiB g s E i = true := fiB_i.mpr y2
      rw [y1, if_neg (by decide), nI_1, nm_t]
      rw [if_pos f1] at ce
      rcases z2 with ⟨x1, x2⟩ | ⟨k, k1, k2, k3, k4⟩
      · rw [if_pos x1]
        refine ⟨_, rfl, by rw [ce], Or.inr ⟨i, by omega, f1, x2, ?_⟩, rfl, m2, w1.trans w2⟩
        dsimp only
        rw [show nI i - nI i / (60 : Int32) * (60 : Int32) = nI (i % 60) from nI_rem (b := 60) (by omega) (by omega) (by omega), show nI i / (60 : Int32) = nI (i / 60) from nI_div (b := 60) (by omega) (by omega) (by omega), show nI (i / 60) * (100 : Int32) = nI (i / 60 * 100) from nI_mul (b := 100), nI_add, nI_1, Nat.mul_comm]
      · rw [if_neg (by rw [k4]; exact nI_nm1 (by omega))]
        exact ⟨_, rfl, by rw [ce], Or.inr ⟨k, by omega, k2, k3, k4⟩, rfl, m2, w1.trans w2⟩
    · have f0 : fiB g s E i = false := by
        cases e : fiB g s E i
        · rfl
        · exact absurd (fiB_i.mp e) y2
      rw [y1, if_pos rfl]
      rw [f0, if_neg (by decide)] at ce
      refine ⟨_, rfl, by rw [ce], ?_, rfl, m2, w1.trans w2⟩
      rcases z2 with ⟨x1, x2⟩ | ⟨k, k1, k2, k3, k4⟩
      · refine Or.inl ⟨x1, fun j hj => ?_⟩
        by_cases d : j = i
        · rw [d]; exact f0
        · exact x2 j (by omega)
      · exact Or.inr ⟨k, by omega, k2, k3, k4⟩
theorem CQ.largeL (c : CQ M p g s) (x : FX g s E (gN g) M) : ∃ r, loop (fun z : Int32 × Int32 × Int32 => F_X8_large_s38 0 M z.1 z.2.1 z.2.2) ((0 : Int32), (-1 : Int32), (0 : Int32)) = some r ∧ r.1 = nI (cnt (fiB g s E) (60 * gN g)) ∧ frR g s E (60 * gN g) r.2 := by
  have g2 := c.gp.2.1
  refine loop_ex (step := fun z : Int32 × Int32 × Int32 => F_X8_large_s38 0 M z.1 z.2.1 z.2.2) (fun u z => z.1 = nI (cnt (fiB g s E) (60 * u)) ∧ frR g s E (60 * u) z.2.1 ∧ z.2.2 = nI u) _ (gN g) ?_ ⟨rfl, Or.inl ⟨rfl, fun j hj => by omega⟩, rfl⟩
  rintro u ⟨a, y, j⟩ hu ⟨z1, z2, z3⟩
  dsimp only at z1 z2 z3
  subst z1 z3
  unfold F_X8_large_s38
  dsimp only
  rw [c.pp, ob_t, c.nN, ob_t]
  by_cases e : u = gN g
  · subst e
    rw [if_pos (nI_le (Nat.le_refl _) (by omega))]
    exact Or.inl ⟨_, rfl, rfl, z2⟩
  · have hu' : u < gN g := by omega
    refine Or.inr ⟨hu', ?_⟩
    have xu := x u hu'
    have al : aL M 66 (nI u) = some (mL M 66 u) := aL_t (c.1.t (k := 66) rfl) (show u < 8 by omega) (by omega)
    have j84 : ∀ t, F_X8_large_j84_38 0 (nI (cnt (fiB g s E) (60 * u))) t (nI u) M = some (.inl (nI (cnt (fiB g s E) (60 * (u + 1))), t, nI (u + 1))) := fun t => by
      unfold F_X8_large_j84_38
      rw [Lp_0_15 c.1, ob_t, al, ob_t, F_bitc, ob_t, nI_add, fx_cnt hu' xu, nI_1]
    have fb : ∀ w, w < 60 → (fiB g s E (60 * u + w) = true ↔ (tN (mL M 66 u)).testBit (w + 1) = true) := fun w hw => by
      rw [fiB_i, show (60 * u + w) / 60 = u by omega, show (60 * u + w) % 60 = w by omega, xu]
      exact ⟨fun q => ⟨by omega, by omega, q⟩, fun q => q.2.2⟩
    rw [if_neg (nI_ge hu' (by omega)), Lp_0_15 c.1, ob_t, al, ob_t, ob_t, al, ob_t, j84 y]
    rcases z2 with ⟨x1, x2⟩ | ⟨k, k1, k2, k3, k4⟩
    · rw [if_pos x1]
      by_cases v0 : mL M 66 u = 0
      · rw [if_pos (lg_eq.mpr v0)]
        refine ⟨_, rfl, rfl, Or.inl ⟨x1, fun j hj => ?_⟩, rfl⟩
        by_cases d : j < 60 * u
        · exact x2 j d
        · cases q : fiB g s E j
          · rfl
          · have := (fb (j - 60 * u) (by omega)).mp (by rw [show 60 * u + (j - 60 * u) = j by omega]; exact q)
            rw [v0, show tN (0 : Int64) = 0 from rfl, Nat.zero_testBit] at this; cases this
      · have ex : ∃ z, 1 ≤ z ∧ z ≤ 60 ∧ (tN (mL M 66 u)).testBit z = true := by
          refine Classical.byContradiction fun no => v0 ?_
          have : tN (mL M 66 u) = 0 := Nat.eq_of_testBit_eq fun i => by
            rw [Nat.zero_testBit]
            cases q : (tN (mL M 66 u)).testBit i
            · rfl
            · exact absurd ⟨i, ((xu i).mp q).1, ((xu i).mp q).2.1, q⟩ no
          exact Int64.toBitVec_inj.mp (BitVec.eq_of_toNat_eq this)
        obtain ⟨z, h1, h2, h3, h4, h5⟩ := C_least (M := M) ex
        rw [if_neg (fun q => v0 (lg_eq.mp q)), h5, ob_t, nm_t, j84]
        refine ⟨_, rfl, rfl, Or.inr ⟨60 * u + (z - 1), by omega, (fb (z - 1) (by omega)).mpr (by rw [show z - 1 + 1 = z by omega]; exact h3), fun k hk => ?_, ?_⟩, rfl⟩
        · by_cases d : k < 60 * u
          · exact x2 k d
          · cases q : fiB g s E k
            · rfl
            · have := (fb (k - 60 * u) (by omega)).mp (by rw [show 60 * u + (k - 60 * u) = k by omega]; exact q)
              exact absurd this (h4 _ (by omega) (by omega))
        · dsimp only
          rw [show (100 : Int32) * nI u = nI (100 * u) from nI_mul (a := 100), nI_add]
          congr 1; omega
    · rw [if_neg (by rw [k4]; exact nI_nm1 (by omega))]
      exact ⟨_, rfl, rfl, Or.inr ⟨k, by omega, k2, k3, k4⟩, rfl⟩
end
