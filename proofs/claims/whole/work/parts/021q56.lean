/-! ===== how many are unlike: the class ===== -/
section
variable {M M' : Mem} {p u h n z d : Nat} {g : Pg} {s s' : Sg} {D : Int} {E : List Se} {P P' : Nat → Prop}
theorem cnt_s {f : Nat → Bool} {n : Nat} : cnt f (n + 1) = if f n = true then cnt f n + 1 else cnt f n := rfl
theorem cnt_or {f f' : Nat → Bool} {w : Nat} (h : ∀ v, f' v = true ↔ f v = true ∨ v = w) : ∀ n, cnt f' n = if w < n ∧ f w = false then cnt f n + 1 else cnt f n
  | 0 => by rw [if_neg (by omega)]; rfl
  | n + 1 => by
    rw [cnt_s, cnt_s, cnt_or h n]
    by_cases e : n = w
    · subst e
      rw [if_pos ((h n).mpr (Or.inr rfl)), if_neg (show ¬ (n < n ∧ f n = false) by omega)]
      cases q : f n
      · rw [if_pos ⟨by omega, rfl⟩, if_neg (by decide)]
      · rw [if_neg (fun y => by cases y.2), if_pos rfl]
    · have a : f' n = f n := by
        cases q : f n
        · cases q' : f' n
          · rfl
          · rcases (h n).mp q' with y | y
            · rw [q] at y; cases y
            · exact absurd y e
        · exact (h n).mpr (Or.inl q)
      rw [a]
      by_cases b : w < n ∧ f w = false
      · rw [if_pos b, if_pos (show w < n + 1 ∧ f w = false from ⟨by omega, b.2⟩)]
        split <;> rfl
      · rw [if_neg b, if_neg (show ¬ (w < n + 1 ∧ f w = false) from fun y => b ⟨by omega, y.2⟩)]
theorem low_ex {v : Int64} : ∀ k, (tN v).testBit k = true → ∃ j, (tN (v &&& -v)).testBit j = true := by
  intro k
  induction k using Nat.strongRecOn with
  | _ k ih =>
    intro hk
    by_cases z : ∃ j, j < k ∧ (tN v).testBit j = true
    · obtain ⟨j, a, b⟩ := z; exact ih j a b
    · refine ⟨k, ?_⟩
      have hk64 : k < 64 := by
        refine Classical.byContradiction fun no => ?_
        have : (tN v).testBit k = false := Nat.testBit_lt_two_pow (Nat.lt_of_lt_of_le (tN_lt v) (Nat.pow_le_pow_right (by omega) (by omega)))
        rw [hk] at this; cases this
      have m0 : tN v % 2 ^ k = 0 := Nat.eq_of_testBit_eq fun j => by
        rw [Nat.testBit_mod_two_pow, Nat.zero_testBit]
        by_cases a : j < k
        · have : (tN v).testBit j = false := by
            cases e : (tN v).testBit j
            · rfl
            · exact absurd ⟨j, a, e⟩ z
          rw [this, Bool.and_false]
        · rw [decide_eq_false a, Bool.false_and]
      have e1 : tN v / 2 ^ k % 2 = 1 := by
        have := hk
        rw [Nat.testBit_eq_decide_div_mod_eq] at this; exact of_decide_eq_true this
      rw [tN_and, Nat.testBit_and, hk, Bool.true_and]
      have q : tN v = 2 ^ k * (tN v / 2 ^ k) := by
        have := Nat.div_add_mod (tN v) (2 ^ k); omega
      have lt := tN_lt v
      generalize tN v / 2 ^ k = w at e1 q
      have pos : 0 < tN v := by rw [q]; exact Nat.mul_pos (Nat.two_pow_pos k) (by omega)
      have tn : tN (-v) = 2 ^ 64 - tN v := by
        have a : tN (-v) = (2 ^ 64 - tN v) % 2 ^ 64 := by unfold tN; rw [Int64.toBitVec_neg, BitVec.toNat_neg]
        rw [a, Nat.mod_eq_of_lt (by omega)]
      rw [Nat.testBit_eq_decide_div_mod_eq, tn]
      refine decide_eq_true ?_
      have p64 : 2 ^ 64 = 2 ^ k * 2 ^ (64 - k) := by rw [← Nat.pow_add, show k + (64 - k) = 64 by omega]
      have p2 : 2 ^ (64 - k) = 2 * 2 ^ (63 - k) := by rw [show 64 - k = 63 - k + 1 by omega, Nat.pow_succ, Nat.mul_comm]
      have lw : w < 2 ^ (64 - k) := by
        rw [q, p64] at lt; exact Nat.lt_of_mul_lt_mul_left lt
      rw [p64, q, ← Nat.mul_sub, Nat.mul_div_cancel_left _ (Nat.two_pow_pos k)]
      omega
def wsU (g : Pg) (s : Sg) (u z h : Nat) : Int32 := sWor (passN g 5 (hsS s u (nI z))) h
theorem ws_bnd (hg : GdP g) (hd : GdS 999 g s) (hh : h < gH g) (h1 : 1 ≤ z) (h6 : z ≤ 60) : ∃ k, k < 100 ∧ wsU g s u z h = nI k := by
  have hv : bnd (nI z) 1 99 := by unfold bnd; rw [nI_toInt (by omega)]; omega
  obtain ⟨k, a, -, b, -⟩ := bnd_nI (((hd.hs (u := u) hv).passN hg (n := 5) (by omega)).2.2.1 h hh).2.1 (by omega)
  exact ⟨k, by omega, a⟩
theorem ws_loc (hg : GdP g) (hd : GdS 999 g s) (hh : h < gH g) (h1 : 1 ≤ z) (h6 : z ≤ 60) (hne : sWho s h ≠ nI u) : wsU g s u z h = sWor (passN g 5 s) h := by
  have hv : bnd (nI z) 1 99 := by unfold bnd; rw [nI_toInt (by omega)]; omega
  exact ((LcS.hs (v := nI z) hne hg).passN hg hd (hd.hs hv) hh (by omega) (by omega) 5 (by omega)).2.2.2.2.1.symm
theorem CQ.sill (c : CQ M p g s) (hu : u < gN g) (hh : h < gH g) (h1 : 1 ≤ z) (h6 : z ≤ 60) : ∃ M', F_X8_wornAtSill 0 (nI u) (nI z) (nI h) M = some (wsU g s u z h, M') ∧ QC M M' ∧ mL M' = mL M := c.sillD (d := 5) rfl (by omega) hu hh h1 h6
def LH (a b : Int64) (P : Nat → Prop) : Prop := (∀ k, (tN a).testBit k = true ↔ k < 50 ∧ P k) ∧ ∀ k, (tN b).testBit k = true ↔ k < 50 ∧ P (k + 50)
theorem LH.c {a b : Int64} (l : LH a b P) (h : ∀ v, P v ↔ P' v) : LH a b P' := ⟨fun k => by rw [l.1, h], fun k => by rw [l.2, h]⟩
theorem or_0 {a : Int64} {k : Nat} : (tN (a ||| (0 : Int64))).testBit k = (tN a).testBit k := by rw [tN_or, show tN (0 : Int64) = 0 from rfl, Nat.or_zero]
theorem LH.hi {a b : Int64} {w : Nat} (l : LH a b P) (h : 50 ≤ w) (h' : w < 100) : LH (a ||| (0 : Int64)) (b ||| ((1 : Int64) <<< ((nI (w - 50)).toInt64 &&& 63))) (fun v => P v ∨ v = w) := ⟨fun k => by
    rw [or_0, l.1]
    exact ⟨fun y => ⟨y.1, Or.inl y.2⟩, fun y => ⟨y.1, y.2.resolve_right (by omega)⟩⟩, fun k => by
    rw [tb_or (by omega), l.2]
    constructor
    · rintro (y | y)
      · exact ⟨y.1, Or.inl y.2⟩
      · exact ⟨by omega, Or.inr (by omega)⟩
    · rintro ⟨y1, y2 | y2⟩
      · exact Or.inl ⟨y1, y2⟩
      · exact Or.inr (by omega)⟩
theorem LH.lo {a b : Int64} {w : Nat} (l : LH a b P) (h : w < 50) : LH (a ||| ((1 : Int64) <<< ((nI w).toInt64 &&& 63))) (b ||| (0 : Int64)) (fun v => P v ∨ v = w) := ⟨fun k => by
    rw [tb_or (by omega), l.1]
    constructor
    · rintro (y | y)
      · exact ⟨y.1, Or.inl y.2⟩
      · exact ⟨by omega, Or.inr (by omega)⟩
    · rintro ⟨y1, y2 | y2⟩
      · exact Or.inl ⟨y1, y2⟩
      · exact Or.inr (by omega), fun k => by
    rw [or_0, l.2]
    exact ⟨fun y => ⟨y.1, Or.inl y.2⟩, fun y => ⟨y.1, y.2.resolve_right (by omega)⟩⟩⟩
theorem LH.count {a b : Int64} {f : Nat → Bool} (l : LH a b (fun v => f v = true)) : cnt (fun i => (tN a).testBit i) 64 + cnt (fun i => (tN b).testBit i) 64 = cnt f 100 := by
  have one : ∀ (x : Int64) (r : Nat), (∀ k, (tN x).testBit k = true ↔ k < 50 ∧ f (r + k) = true) → cnt (fun i => (tN x).testBit i) 64 = cnt (fun i => f (r + i)) 50 := fun x r hx => by
    rw [show 64 = 50 + 14 from rfl, cnt_add, cnt_z (f := fun i => (tN x).testBit (50 + i)) 14 (fun i hi => ?_), Nat.add_zero]
    · refine cnt_c 50 fun i hi => ?_
      cases q : f (r + i)
      · cases q' : (tN x).testBit i
        · rfl
        · rw [((hx i).mp q').2] at q; cases q
      · exact (hx i).mpr ⟨hi, q⟩
    · cases q' : (tN x).testBit (50 + i)
      · rfl
      · have := ((hx _).mp q').1; omega
  rw [one a 0 (fun k => by rw [Nat.zero_add]; exact l.1 k), one b 50 (fun k => by rw [Nat.add_comm 50 k]; exact l.2 k), show (100 : Nat) = 50 + 50 from rfl, cnt_add]
  simp only [Nat.zero_add]
theorem CQ.s65 {a b S : Int64} (c : CQ M p g s) (hu : u < gN g) (hh : h < gH g) (l : LH a b P) : ∃ r, loop (fun y : Int64 × Int64 × Int32 × Mem => F_X8_unlikeWorn_s65 0 (nI h) (nI u) S y.1 y.2.1 y.2.2.1 y.2.2.2) (a, b, (1 : Int32), M) = some r ∧ LH r.1 r.2.1 (fun v => P v ∨ ∃ z, 1 ≤ z ∧ z ≤ 60 ∧ (tN S).testBit z = true ∧ v < 100 ∧ wsU g s u z h = nI v) ∧ QC M r.2.2 ∧ mL r.2.2 = mL M := by
  refine loop_ex (step := fun y : Int64 × Int64 × Int32 × Mem => F_X8_unlikeWorn_s65 0 (nI h) (nI u) S y.1 y.2.1 y.2.2.1 y.2.2.2) (fun i y => y.2.2.1 = nI (i + 1) ∧ LH y.1 y.2.1 (fun v => P v ∨ ∃ z, 1 ≤ z ∧ z ≤ i ∧ (tN S).testBit z = true ∧ v < 100 ∧ wsU g s u z h = nI v) ∧ QC M y.2.2.2 ∧ mL y.2.2.2 = mL M) _ 60 ?_ ⟨rfl, l.c fun v => ⟨Or.inl, fun y => y.resolve_right (fun ⟨z, z1, z2, _⟩ => by omega)⟩, QC.rfl', rfl⟩
  rintro i ⟨a1, b1, j, M1⟩ hi ⟨z1, l1, w1, m1⟩
  dsimp only at z1 l1 w1 m1
  subst z1
  unfold F_X8_unlikeWorn_s65
  dsimp only
  by_cases e : i = 60
  · subst e
    rw [if_pos (show (60 : Int32) < nI (60 + 1) by decide)]
    exact Or.inl ⟨_, rfl, l1, w1, m1⟩
  · have hi' : i < 60 := by omega
    refine Or.inr ⟨hi', ?_⟩
    have c1 := c.c w1
    rw [if_neg (show ¬ (60 : Int32) < nI (i + 1) from nI_nlt (a := 60) (by omega) (by omega))]
    by_cases t : (tN S).testBit (i + 1) = true
    · obtain ⟨M2, e2, w2, m2⟩ := c1.sill (z := i + 1) hu hh (by omega) (by omega)
      obtain ⟨w, hw, ew⟩ := ws_bnd (u := u) (z := i + 1) c.gp c.gd hh (by omega) (by omega)
      rw [if_pos ((shr64 (by omega)).mpr t), Lc_0 c1.1, e2, bd2_t, ew]
      unfold F_X8_unlikeWorn_j111_65
      have cg : ∀ v, (P v ∨ ∃ z, 1 ≤ z ∧ z ≤ i ∧ (tN S).testBit z = true ∧ v < 100 ∧ wsU g s u z h = nI v) ∨ v = w ↔ P v ∨ ∃ z, 1 ≤ z ∧ z ≤ i + 1 ∧ (tN S).testBit z = true ∧ v < 100 ∧ wsU g s u z h = nI v := fun v => by
        constructor
        · rintro ((y | ⟨z, y1, y2, y3⟩) | y)
          · exact Or.inl y
          · exact Or.inr ⟨z, y1, by omega, y3⟩
          · exact Or.inr ⟨i + 1, by omega, by omega, t, by omega, by rw [ew, y]⟩
        · rintro (y | ⟨z, y1, y2, y3, y4, y5⟩)
          · exact Or.inl (Or.inl y)
          · by_cases q : z = i + 1
            · refine Or.inr ?_
              rw [q, ew] at y5
              exact ((nI_eq (by omega) (by omega)).mp y5).symm
            · exact Or.inl (Or.inr ⟨z, y1, by omega, y3, y4, y5⟩)
      by_cases q : 50 ≤ w
      · rw [if_pos (show (50 : Int32) ≤ nI w from nI_le (a := 50) q (by omega)), if_pos (show (50 : Int32) ≤ nI w from nI_le (a := 50) q (by omega)), nm_t, nI_1, show nI w - (50 : Int32) = nI (w - 50) from nI_sub (b := 50) q]
        exact ⟨_, rfl, rfl, (l1.hi q hw).c cg, w1.trans w2, m2.trans m1⟩
      · rw [if_neg (show ¬ (50 : Int32) ≤ nI w from nI_ge (b := 50) (by omega) (by omega)), if_neg (show ¬ (50 : Int32) ≤ nI w from nI_ge (b := 50) (by omega) (by omega)), nI_1]
        exact ⟨_, rfl, rfl, (l1.lo (by omega)).c cg, w1.trans w2, m2.trans m1⟩
    · rw [if_neg (fun y => t ((shr64 (by omega)).mp y)), nI_1]
      refine ⟨_, rfl, rfl, l1.c fun v => ?_, w1, m1⟩
      refine ⟨fun y => y.imp id fun ⟨z, z1, z2, z3⟩ => ⟨z, z1, by omega, z3⟩, fun y => y.imp id fun ⟨z, z1, z2, z3, z4⟩ => ⟨z, z1, ?_, z3, z4⟩⟩
      have : z ≠ i + 1 := fun q => t (by rw [← q]; exact z3)
      omega
end
