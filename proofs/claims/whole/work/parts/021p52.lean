/-! ===== questions: what both sides find ===== -/
def MQu (M : Mem) (g : Pg) (s : Sg) : Prop := MB M 0 0 g s 999 ∧ mI M 67 46 = -1
def MZu (M : Mem) (g : Pg) (s : Sg) : Prop := MQu M g s ∧ mI M 67 0 = 0
def MLa (M : Mem) (g : Pg) (s s' : Sg) (D : Int) : Prop := MZu M g s ∧ MB M 43 43 g s' D
def CLa (M : Mem) (p : Nat) (g : Pg) (s s' : Sg) (D : Int) : Prop := CQ M p g s ∧ StV M 31 g s' ∧ GdS D g s'
section
variable {M M' : Mem} {p u h n : Nat} {g : Pg} {s s' : Sg} {D : Int}
theorem MPl.q (h : MPl M g) (w : QW M M') : MPl M' g := by
  unfold MPl
  have e : ∀ k, k ∉ ScL → k ≠ 83 → k ≠ 67 → mI M' k = mI M k := fun k h1 h2 h3 => w.row h1 h2 h3
  have e67 : ∀ j, 0 < j → j < 6 → mI M' 67 j = mI M 67 j := fun j h1 h2 => w.2.2.2.2 67 j (by
    rintro (z | z | z)
    · exact absurd z (by decide)
    · omega
    · omega)
  rw [e67 1 (by omega) (by omega), e67 2 (by omega) (by omega), e67 3 (by omega) (by omega), e67 4 (by omega) (by omega), e67 5 (by omega) (by omega), e 68 (by decide) (by omega) (by omega), e 69 (by decide) (by omega) (by omega), e 70 (by decide) (by omega) (by omega), e 71 (by decide) (by omega) (by omega), e 72 (by decide) (by omega) (by omega)]
  exact h
theorem MQu.q (m : MQu M g s) (w : QW M M') (h : mI M' 67 46 = -1) : MQu M' g s := by
  refine ⟨⟨m.1.1.q w, m.1.2.1.q w, m.1.2.2.1, m.1.2.2.2.1, ?_, m.1.gd⟩, h⟩
  refine m.1.rw.eq m.1.gp fun j h1 h2 => w.2.2.2.2 83 j ?_
  rintro (z | z | z)
  · exact absurd z (by decide)
  · omega
  · omega
theorem QC.m (w : QC M M') : mI M' 67 = mI M 67 ∧ mI M' 83 = mI M 83 := ⟨w.2.2.2.2 67 (by decide), w.2.2.2.2 83 (by decide)⟩
theorem MQu.c (m : MQu M g s) (w : QC M M') : MQu M' g s := m.q w.qw (by rw [w.m.1]; exact m.2)
theorem MQu.lay (m : MQu M g s) : Lay M := m.1.1
theorem MZu.lay (m : MZu M g s) : Lay M := m.1.1.1
theorem MZu.b (m : MZu M g s) : MB M 0 0 g s 999 := m.1.1
theorem MQu.zero (m : MQu M g s) : pI M 9 67 0 0 = some (stI M 67 0 0) ∧ MZu (stI M 67 0 0) g s ∧ QW M (stI M 67 0 0) := by
  have w : QW M (stI M 67 0 0) := QW.rfl'.st (Or.inr (Or.inr ⟨rfl, Or.inl rfl⟩))
  refine ⟨Ls_67 m.lay, ⟨m.q w ?_, ?_⟩, w⟩
  · rw [mI_steq, upg_ne (by omega)]; exact m.2
  · rw [mI_steq, upg_eq]
theorem MZu.wb (m : MZu M g s) (w : WB 43 M M') : MZu M' g s := by
  have e : mI M' 67 = mI M 67 := w.2.2.2.2.1 67 (by decide)
  exact ⟨m.1.q w.qw (by rw [e]; exact m.1.2), by rw [e]; exact m.2⟩
theorem MZu.wr {L : List Nat} (m : MZu M g s) (w : Wr L M M') (h1 : ∀ k ∈ L, k ∈ ScL) : MZu M' g s ∧ QW M M' := by
  have w' := w.q h1
  have e : mI M' 67 = mI M 67 := w.2.2.2.2 67 fun z => absurd (h1 67 z) (by decide)
  exact ⟨⟨m.1.q w' (by rw [e]; exact m.1.2), by rw [e]; exact m.2⟩, w'⟩
theorem pcase (g : Pg) (x : Int32) (hg : gN g ≤ 8) : (∃ q, q < gN g ∧ x = nI q) ∨ (x < 0 ∨ nI (gN g) ≤ x) := by
  by_cases h0 : x < 0
  · exact Or.inr (Or.inl h0)
  · obtain ⟨j, hj, rfl⟩ := nI_of h0
    by_cases h1 : j < gN g
    · exact Or.inl ⟨j, h1, rfl⟩
    · exact Or.inr (Or.inr (by rw [nI_leI (by omega) hj]; omega))
theorem hcase (g : Pg) (x : Int32) (hg : gH g ≤ 8) : (∃ q, q < gH g ∧ x = nI q) ∨ (x < 0 ∨ nI (gH g) ≤ x) := by
  by_cases h0 : x < 0
  · exact Or.inr (Or.inl h0)
  · obtain ⟨j, hj, rfl⟩ := nI_of h0
    by_cases h1 : j < gH g
    · exact Or.inl ⟨j, h1, rfl⟩
    · exact Or.inr (Or.inr (by rw [nI_leI (by omega) hj]; omega))
/-- a number of a range -/
theorem ncase (x : Int32) (a b : Nat) (ha : a < 2 ^ 31) (hb : b < 2 ^ 31) : (∃ n, a ≤ n ∧ n ≤ b ∧ x = nI n) ∨ (x < nI a ∨ nI b < x) := by
  by_cases h0 : x < 0
  · right; left
    rw [ti_lt] at *
    rw [ti_0] at h0
    rw [nI_toInt ha]; omega
  · obtain ⟨j, hj, rfl⟩ := nI_of h0
    by_cases h1 : a ≤ j
    · by_cases h2 : j ≤ b
      · exact Or.inl ⟨j, h1, h2, rfl⟩
      · exact Or.inr (Or.inr (by rw [nI_ltI hb hj]; omega))
    · exact Or.inr (Or.inl (by rw [nI_ltI hj ha]; omega))
-- the class's tests
theorem CQ.needP (c : CQ M p g s) (hu : u < gN g) : F_X8_needPerson 0 (nI u) M = some (.inl M) := by
  have := c.gp.2.1
  unfold F_X8_needPerson
  rw [if_neg (nI_pos (by omega)), c.pp, ob_t, c.nN, ob_t, if_pos (nI_lt hu (by omega))]
theorem CQ.needP' (c : CQ M p g s) {x : Int32} (hx : x < 0 ∨ nI (gN g) ≤ x) : F_X8_needPerson 0 x M = some (.inr (1, nwM M (200, 0) 6)) := by
  unfold F_X8_needPerson
  rw [c.nx, ob_t, c.pp, ob_t, c.nN, ob_t]
  by_cases h0 : x < 0
  · rw [if_pos h0]
  · rw [if_neg h0, if_neg]
    have := hx.resolve_left h0
    rw [ti_le] at this; rw [ti_lt]; omega
theorem CQ.needH (c : CQ M p g s) (hh : h < gH g) : F_X8_needHouse 0 (nI h) M = some (.inl M) := by
  have := c.gp.1
  unfold F_X8_needHouse
  rw [if_neg (nI_pos (by omega)), c.pp, ob_t, c.nH, ob_t, if_pos (nI_lt hh (by omega))]
theorem CQ.needH' (c : CQ M p g s) {x : Int32} (hx : x < 0 ∨ nI (gH g) ≤ x) : F_X8_needHouse 0 x M = some (.inr (1, nwM M (200, 0) 6)) := by
  unfold F_X8_needHouse
  rw [c.nx, ob_t, c.pp, ob_t, c.nH, ob_t]
  by_cases h0 : x < 0
  · rw [if_pos h0]
  · rw [if_neg h0, if_neg]
    have := hx.resolve_left h0
    rw [ti_le] at this; rw [ti_lt]; omega
theorem needW {a b : Nat} (h1 : a ≤ b) (h2 : b < 2 ^ 31) : F_X8_needWhat (nI a) (nI b) M = some (.inl M) := by
  unfold F_X8_needWhat
  rw [if_neg (nI_pos (by omega)), if_pos (nI_le h1 h2)]
theorem CQ.needW' (c : CQ M p g s) {x : Int32} {b : Nat} (hx : x < nI 0 ∨ nI b < x) : F_X8_needWhat x (nI b) M = some (.inr (1, nwM M (200, 0) 6)) := by
  unfold F_X8_needWhat
  rw [c.nx, ob_t]
  by_cases h0 : x < 0
  · rw [if_pos h0]
  · rw [if_neg h0, if_neg]
    have := hx.resolve_left h0
    rw [ti_lt] at this; rw [ti_le]; omega
theorem needD {a d : Nat} (h1 : a ≤ d) (h2 : d ≤ 40) : F_X8_needDays (nI d) (nI a) M = some (.inl M) := by
  unfold F_X8_needDays
  rw [if_neg (nI_nlt h1 (by omega)), if_pos (show nI d ≤ (40 : Int32) from nI_le (b := 40) h2 (by omega))]
theorem CQ.needD' (c : CQ M p g s) {x : Int32} {a : Nat} (hx : x < nI a ∨ nI 40 < x) : F_X8_needDays x (nI a) M = some (.inr (0, nwM M (200, 0) 6)) := by
  unfold F_X8_needDays
  rw [c.nx, ob_t]
  by_cases h0 : x < nI a
  · rw [if_pos h0]
  · rw [if_neg h0, if_neg]
    have := hx.resolve_left h0
    rw [ti_lt] at this; rw [ti_le]
    have e : (40 : Int32) = nI 40 := rfl
    rw [e]; omega
-- the reference's tests
theorem MZu.rgt (m : MZu M g s) {v : Int32} : F_X9_right 67 1 v M = some (1, M) := by
  unfold F_X9_right F_X9_right_j16
  simp only [Lf_67 m.lay, ob_t, m.2]
  rfl
theorem MZu.rgt' (m : MZu M g s) {k : Nat} (h0 : 0 < k) (h1 : k < 3) : F_X9_right 67 0 (nI k) M = some (0, stI M 67 0 (nI k)) := by
  unfold F_X9_right F_X9_right_j16
  rw [Lf_67 m.lay, ob_t, m.2, if_pos rfl, if_pos rfl, Ls_67 m.lay, ob_t, Lf_67 (M := stI M 67 0 _) m.lay, ob_t, mI_steq, upg_eq, if_neg (nI_ne0 h0 (by omega))]
theorem MZu.isP (m : MZu M g s) (hu : u < gN g) : F_X9_isPerson 67 (nI u) M = some (1, M) := by
  have := m.b.gp.2.1
  unfold F_X9_isPerson
  rw [if_neg (nI_pos (by omega)), m.b.nN, ob_t, if_neg (nI_ge hu (by omega)), Lc_67 m.lay, m.rgt, bd2_t]
  rfl
theorem MZu.isH (m : MZu M g s) (hu : u < gH g) : F_X9_isHouse 67 (nI u) M = some (1, M) := by
  have := m.b.gp.1
  unfold F_X9_isHouse
  rw [if_neg (nI_pos (by omega)), m.b.nH, ob_t, if_neg (nI_ge hu (by omega)), Lc_67 m.lay, m.rgt, bd2_t]
  rfl
theorem MZu.isP' (m : MZu M g s) {x : Int32} (hx : x < 0 ∨ nI (gN g) ≤ x) : F_X9_isPerson 67 x M = some (0, stI M 67 0 1) := by
  have e : F_X9_right 67 0 1 M = some (0, stI M 67 0 1) := m.rgt' (k := 1) (by omega) (by omega)
  unfold F_X9_isPerson
  rw [m.b.nN, ob_t, Lc_67 m.lay, e, bd2_t]
  by_cases h0 : x < 0
  · rw [if_pos h0]; rfl
  · rw [if_neg h0, if_pos (hx.resolve_left h0)]; rfl
theorem MZu.isH' (m : MZu M g s) {x : Int32} (hx : x < 0 ∨ nI (gH g) ≤ x) : F_X9_isHouse 67 x M = some (0, stI M 67 0 1) := by
  have e : F_X9_right 67 0 1 M = some (0, stI M 67 0 1) := m.rgt' (k := 1) (by omega) (by omega)
  unfold F_X9_isHouse
  rw [m.b.nH, ob_t, Lc_67 m.lay, e, bd2_t]
  by_cases h0 : x < 0
  · rw [if_pos h0]; rfl
  · rw [if_neg h0, if_pos (hx.resolve_left h0)]; rfl
theorem F_within {x : Int32} {a b : Nat} (ha : a < 2 ^ 31) (hb : b < 2 ^ 31) {n : Nat} (h1 : a ≤ n) (h2 : n ≤ b) : F_X9_within (nI n) (nI a) (nI b) M = some 1 := by
  unfold F_X9_within
  rw [if_neg (nI_nlt h1 (by omega)), if_neg (nI_nlt h2 hb)]
theorem F_within' {x : Int32} {a b : Nat} (hx : x < nI a ∨ nI b < x) : F_X9_within x (nI a) (nI b) M = some 0 := by
  unfold F_X9_within
  by_cases h0 : x < nI a
  · rw [if_pos h0]
  · rw [if_neg h0, if_pos (hx.resolve_left h0)]
theorem MZu.isW (m : MZu M g s) {a b : Nat} (h1 : a ≤ b) (h2 : b < 2 ^ 31) : F_X9_isWhat 67 (nI a) (nI b) M = some (1, M) := by
  unfold F_X9_isWhat
  have e : F_X9_within (nI a) 0 (nI b) M = some 1 := F_within (a := 0) (x := 0) (by omega) h2 (by omega) h1
  rw [e, ob_t, Lc_67 m.lay, m.rgt, bd2_t]; rfl
theorem MZu.isW' (m : MZu M g s) {x : Int32} {b : Nat} (hx : x < nI 0 ∨ nI b < x) : F_X9_isWhat 67 x (nI b) M = some (0, stI M 67 0 1) := by
  unfold F_X9_isWhat
  have e : F_X9_within x 0 (nI b) M = some 0 := F_within' (a := 0) hx
  have e2 : F_X9_right 67 0 1 M = some (0, stI M 67 0 1) := m.rgt' (k := 1) (by omega) (by omega)
  rw [e, ob_t, Lc_67 m.lay, e2, bd2_t]; rfl
theorem MZu.isD (m : MZu M g s) {a d : Nat} {v : Int32} (h1 : a ≤ d) (h2 : d ≤ 40) : F_X9_isDays 67 (nI d) (nI a) v M = some (1, M) := by
  unfold F_X9_isDays
  have e : F_X9_within (nI d) (nI a) 40 M = some 1 := F_within (b := 40) (x := 0) (by omega) (by omega) h1 h2
  rw [e, ob_t, Lc_67 m.lay, m.rgt, bd2_t]; rfl
theorem MZu.isD' (m : MZu M g s) {x : Int32} {a k : Nat} (hx : x < nI a ∨ nI 40 < x) (h0 : 0 < k) (h1 : k < 3) : F_X9_isDays 67 x (nI a) (nI k) M = some (0, stI M 67 0 (nI k)) := by
  unfold F_X9_isDays
  have e : F_X9_within x (nI a) 40 M = some 0 := F_within' (b := 40) hx
  rw [e, ob_t, Lc_67 m.lay, m.rgt' h0 h1, bd2_t]; rfl
/-- answers and refusals of both -/
def CR (M : Mem) (o : Option ((Int32 × Mem) ⊕ (Nat × Mem))) (v : Int32) : Prop := ∃ M', o = some (.inl (v, M')) ∧ QC M M'
def CT (M : Mem) (o : Option ((Int32 × Mem) ⊕ (Nat × Mem))) (k : Nat) : Prop := o = some (.inr (k, nwM M (200, 0) 6))
def MR (M : Mem) (g : Pg) (s : Sg) (o : Option (Int32 × Mem)) (v : Int32) : Prop := ∃ M', o = some (v, M') ∧ QW M M' ∧ MZu M' g s
def MT (M : Mem) (g : Pg) (s : Sg) (o : Option (Int32 × Mem)) (k : Nat) : Prop := ∃ v M', o = some (v, M') ∧ QW M M' ∧ MQu M' g s ∧ mI M' 67 0 = nI k
def PR (k0 : Nat) (M : Mem) (g : Pg) (s : Sg) (co : Option ((Int32 × Mem) ⊕ (Nat × Mem))) (mo : Mem → Option (Int32 × Mem)) : Prop :=
  (∃ v, CR M co v ∧ ∀ M1, MQu M1 g s → MR M1 g s (mo M1) v) ∨ (k0 ≠ 1 ∧ CT M co 1 ∧ ∀ M1, MQu M1 g s → MT M1 g s (mo M1) 1) ∨ (k0 ≠ 0 ∧ CT M co 0 ∧ ∀ M1, MQu M1 g s → MT M1 g s (mo M1) k0)
theorem MQu.thr (m : MQu M g s) {k : Nat} : QW M (stI (stI M 67 0 0) 67 0 (nI k)) ∧ MQu (stI (stI M 67 0 0) 67 0 (nI k)) g s ∧ mI (stI (stI M 67 0 0) 67 0 (nI k)) 67 0 = nI k := by
  obtain ⟨-, m0, w0⟩ := m.zero
  have w : QW M (stI (stI M 67 0 0) 67 0 (nI k)) := w0.st (Or.inr (Or.inr ⟨rfl, Or.inl rfl⟩))
  exact ⟨w, m.q w (by rw [mI_steq, upg_ne (by omega), mI_steq, upg_ne (by omega)]; exact m.2), by rw [mI_steq, upg_eq]⟩
theorem MT.mk (m : MQu M g s) {k : Nat} {v : Int32} {o : Option (Int32 × Mem)} (h : o = some (v, stI (stI M 67 0 0) 67 0 (nI k))) : MT M g s o k := ⟨v, _, h, m.thr⟩
-- later
theorem MZu.tries (m : MZu M g s) : ∃ M', F_X9_tries 67 M = some M' ∧ MLa M' g s s 999 ∧ QW M M' := by
  obtain ⟨M1, e1, h1, w1⟩ := loop_mm (step := fun z : Int32 × Mem => F_X9_tries_s2 67 z.1 z.2) (fun i M' => (nI i, M')) (fun M' => M') 43 (fun i M' => (∀ j, j < i → mI M' 83 (43 + j) = mI M 83 j) ∧ WB 43 M M') (M := M) ⟨fun j hj => by omega, WB.rfl'⟩ (by
    rintro i M' hi ⟨h', w'⟩
    have hL := Lay.wb m.lay w'
    refine ⟨stI M' 83 (43 + i) (mI M 83 i), ?_, fun j hj => ?_, w'.st (by omega) (by omega)⟩
    · unfold F_X9_tries_s2
      dsimp only
      rw [if_neg (show ¬ (43 : Int32) ≤ nI i from nI_ge (b := 43) hi (by omega)), Lp_67_41 hL, ob_t, ob_t, La_83 hL (by omega), ob_t, show (43 : Int32) + nI i = nI (43 + i) from nI_add 43 i, Lw_83 hL (by omega), ob_t, nI_1, w'.2.2.2.2.2 i (by omega)]
    · rw [mI_steq]
      by_cases e : j = i
      · subst e; rw [upg_eq]
      · rw [upg_ne (by omega)]; exact h' j (by omega)) (by
    rintro M' ⟨h', w'⟩
    unfold F_X9_tries_s2
    dsimp only
    rw [if_pos (show (43 : Int32) ≤ nI 43 from nI_le (a := 43) (Nat.le_refl _) (by omega))])
  refine ⟨M1, ?_, ⟨m.wb w1, ?_⟩, w1.qw⟩
  · unfold F_X9_tries
    have e1' : loop (fun z : Int32 × Mem => F_X9_tries_s2 67 z.1 z.2) ((0 : Int32), M) = some M1 := e1
    rw [e1', ob_t]
  · have g1 := m.b.gp.1
    have g2 := m.b.gp.2.1
    refine ⟨Lay.wb m.lay w1, MPl.wb m.b.2.1 w1, rfl, Nat.le_refl _, ?_, m.b.gd⟩
    obtain ⟨r1, r2, r3, r4, r5⟩ := m.b.rw
    refine ⟨by rw [← r1]; exact h1 0 (by omega), by rw [← r2]; exact h1 1 (by omega), by rw [← r3]; exact h1 2 (by omega), fun k hk => ?_, fun k hk => ?_⟩
    · rw [← (r4 k hk).1, ← (r4 k hk).2.1, ← (r4 k hk).2.2]
      refine ⟨?_, ?_, ?_⟩
      · rw [Nat.zero_add, ← h1 (3 + k) (by omega), Nat.add_assoc]
      · rw [Nat.zero_add, ← h1 (11 + k) (by omega), Nat.add_assoc]
      · rw [Nat.zero_add, ← h1 (19 + k) (by omega), Nat.add_assoc]
    · rw [← (r5 k hk).1, ← (r5 k hk).2]
      refine ⟨?_, ?_⟩
      · rw [Nat.zero_add, ← h1 (27 + k) (by omega), Nat.add_assoc]
      · rw [Nat.zero_add, ← h1 (35 + k) (by omega), Nat.add_assoc]
theorem MLa.mono {D' : Int} (m : MLa M g s s' D) (h : D ≤ D') : MLa M g s s' D' := ⟨m.1, m.2.1, m.2.2.1, m.2.2.2.1, m.2.2.2.2.1, m.2.rw, m.2.gd.mono h⟩
theorem MLa.day (m : MLa M g s s' D) (hD : D < 100000) : ∃ M', F_X9_dayGoes 67 43 M = some M' ∧ MLa M' g s (passS g s') (D + 1) ∧ QW M M' := by
  obtain ⟨M', e, m', w⟩ := m.2.dayG hD
  have eo : dmp (mI M 67 46) g s' = dampS g s' := by unfold dmp; rw [if_pos m.1.1.2]
  rw [eo] at m'
  exact ⟨M', e, ⟨m.1.wb w, m'⟩, w.qw⟩
theorem MZu.goesTo (m : MZu M g s) (hn : n ≤ 40) : ∃ M', F_X9_goesTo 67 (nI n) M = some M' ∧ MLa M' g s (passN g n s) (999 + n) ∧ QW M M' := by
  obtain ⟨M1, e1, m1, w1⟩ := m.tries
  obtain ⟨M2, e2, m2, w2⟩ := loop_mm (step := fun z : Int32 × Mem => F_X9_daysGo_s2 67 (nI n) z.1 z.2) (fun i M' => (nI i, M')) (fun M' => M') n (fun i M' => MLa M' g s (passN g i s) (999 + i) ∧ QW M M') (M := M1) ⟨m1.mono (by omega), w1⟩ (by
    rintro i M' hi ⟨m', w'⟩
    obtain ⟨M3, e3, m3, w3⟩ := m'.day (by omega)
    refine ⟨M3, ?_, m3.mono (by omega), w'.trans w3⟩
    unfold F_X9_daysGo_s2
    dsimp only
    rw [if_neg (nI_ge hi (by omega)), Lc_67 m'.1.lay, e3, ob_t, nI_1]) (by
    rintro M' ⟨m', w'⟩
    unfold F_X9_daysGo_s2
    dsimp only
    rw [if_pos (nI_le (Nat.le_refl _) (by omega))])
  refine ⟨M2, ?_, m2, w2⟩
  unfold F_X9_goesTo F_X9_daysGo
  have e2' : loop (fun z : Int32 × Mem => F_X9_daysGo_s2 67 (nI n) z.1 z.2) ((0 : Int32), M1) = some M2 := e2
  rw [Lc_67 m.lay, e1, ob_t, Lc_67 m1.1.lay, e2', ob_t, ob_t]
theorem CLa.c (c : CLa M p g s s' D) (hw : CQ M' p g s) (h2 : StV M' 31 g s') : CLa M' p g s s' D := ⟨hw, h2, c.2.2⟩
theorem CQ.copyL (c : CQ M p g s) : ∃ M', F_X6_copy 31 24 M = some M' ∧ CLa M' p g s s 999 ∧ QC M M' := by
  obtain ⟨M', e, hs, w⟩ := F_copy (a := 31) (b := 24) (c.1.StO (Or.inr (Or.inl rfl))) c.st c.gd c.gp (Or.inr (by omega))
  have wc : QC M M' := w.c (by decide)
  exact ⟨M', e, ⟨c.c wc, hs, c.gd⟩, wc⟩
theorem CLa.pass (c : CLa M p g s s' D) {d : Int32} (hD : D < 100000) : ∃ M', F_X2_pass p 31 d M = some M' ∧ CLa M' p g s (dayS g d s') (D + 1) ∧ QC M M' := by
  obtain ⟨M', e, hs, w⟩ := F_pass (d := d) c.1.pl c.2.1 c.2.2 (by have := c.1.2.1; omega) (by unfold NC; omega)
  have wc : QC M M' := w.c fun k hk => WLc c.1.2.1 hk
  exact ⟨M', e, ⟨c.1.c wc, hs, c.2.2.day c.1.gp hD⟩, wc⟩
theorem CLa.alone (c : CLa M p g s s' D) {d : Int32} (hh : h < gH g) (hd : GdS (D + 1) g (aloneS g s' h d)) : ∃ M', F_X2_passAlone p 31 (nI h) d M = some M' ∧ CLa M' p g s (aloneS g s' h d) (D + 1) ∧ QC M M' := by
  obtain ⟨M', e, hs, w⟩ := F_alone (d := d) c.1.pl c.2.1 c.2.2 (by have := c.1.2.1; omega) (by unfold NC; omega) hh
  have wc : QC M M' := w.c fun k hk => WLc c.1.2.1 hk
  exact ⟨M', e, ⟨c.1.c wc, hs, hd⟩, wc⟩
theorem CLa.damp (c : CLa M p g s s' D) : F_X2_dampOf p 31 M = some (dampS g s') := F_dampOf c.1.pl c.2.1 c.2.2
theorem CLa.passn (c : CLa M p g s s' D) (hn : n ≤ 40) (hD : D < 50000) : ∃ M', F_X8_pass 0 31 (nI n) M = some M' ∧ CLa M' p g s (passN g n s') (D + n) ∧ QC M M' := by
  obtain ⟨M2, e2, m2, w2⟩ := loop_mm (step := fun z : Int32 × Mem => F_X8_pass_s2 0 31 (nI n) z.1 z.2) (fun i M' => (nI i, M')) (fun M' => M') n (fun i M' => CLa M' p g s (passN g i s') (D + i) ∧ QC M M') (M := M) ⟨⟨c.1, c.2.1, c.2.2.mono (by omega)⟩, QC.rfl'⟩ (by
    rintro i M' hi ⟨c', w'⟩
    obtain ⟨M3, e3, m3, w3⟩ := c'.pass (d := dampS g (passN g i s')) (by omega)
    refine ⟨M3, ?_, ⟨m3.1, m3.2.1, m3.2.2.mono (by omega)⟩, w'.trans w3⟩
    unfold F_X8_pass_s2
    dsimp only
    rw [if_neg (nI_ge hi (by omega)), c'.1.pp, ob_t, ob_t, c'.1.ck, c'.damp, ob_t, c'.1.ck, e3, ob_t, nI_1]) (by
    rintro M' ⟨m', w'⟩
    unfold F_X8_pass_s2
    dsimp only
    rw [if_pos (nI_le (Nat.le_refl _) (by omega))])
  refine ⟨M2, ?_, m2, w2⟩
  unfold F_X8_pass
  have e2' : loop (fun z : Int32 × Mem => F_X8_pass_s2 0 31 (nI n) z.1 z.2) ((0 : Int32), M) = some M2 := e2
  rw [e2', ob_t]
theorem CQ.after (c : CQ M p g s) (hn : n ≤ 40) : ∃ M', F_X8_after 0 (nI n) M = some (31, M') ∧ CLa M' p g s (passN g n s) (999 + n) ∧ QC M M' := by
  obtain ⟨M1, e1, c1, w1⟩ := c.copyL
  obtain ⟨M2, e2, c2, w2⟩ := c1.passn hn (by omega)
  refine ⟨M2, ?_, c2, w1.trans w2⟩
  unfold F_X8_after
  rw [Lp_0_5 c.1, ob_t, Lp_0_4 c.1, ob_t, Lc_31 c.1, e1, ob_t, Lp_0_5 c1.1.1, ob_t, Lc_0 c1.1.1, e2, ob_t, Lp_0_5 c2.1.1, ob_t]
end
